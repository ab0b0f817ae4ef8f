set_option maxRecDepth 100000 in
set_option maxHeartbeats 4000000 in
theorem t_X9_end_0 (x1 : Int32) (M : mz_M) {res : mz_O} (h :
    (∃ (r1 : Int32) (M1 : mz_M), (mq_C mq_X8_shortens [.ref 70, .int x1] M (some (.int r1), M1)) ∧
    (r1 = 0 ∨ r1 = 1) ∧
    res = (some (.int r1), M1))) :
    mq_G mq_X9_end (0, [some (.ref 0), some (.int x1)], [], M) res := by
  refine mz_Go.steps (n := 3) (k2 := (5, [some (.ref 0), some (.int x1)], [.int x1, .ref 70], M)) (P := []) rfl mz_o0 ?_
  obtain ⟨r1, M1, k1, h⟩ := h
  refine mz_Go.callV (As := [.int x1]) (rest := []) (rfl : mz_find 5 (mz_rows mq_X9_end) = some (5, .invokevirtual 81, 3, 53, 0, 62)) (rfl : mz_nth mq_tab 53 = some mq_X8_shortens) rfl rfl rfl rfl (Nat.le_of_ble_eq_true rfl) (Nat.le_of_ble_eq_true rfl) k1 ?_
  show mq_G mq_X9_end (8, [some (.ref 0), some (.int x1)], [.int r1], M1) res
  obtain ⟨q2, h⟩ := h
  rw [h]
  exact mz_Go.zret (rfl : mz_find 8 (mz_rows mq_X9_end) = some (8, .ireturn, 1, 0, 0, 0)) rfl q2
set_option maxRecDepth 100000 in
set_option maxHeartbeats 4000000 in
theorem t_X9_field_0 (M : mz_M) {res : mz_O} (h :
    (∃ (r1 : Int32) (M1 : mz_M), (mq_C mq_X8_polynomialRead [.ref 70] M (some (.int r1), M1)) ∧
    (∃ (M2 : mz_M), (mq_C mq_X8_empties [.ref 70] M1 (none, M2)) ∧
    ((0 ≤ r1 →
      (∃ (r4 : Int32), (mq_C mq_X4_isIrreducible [.int r1] M2 (some (.int r4), M2)) ∧
      ((r4 = 0 →
        res = (some (.int (-2)), M2)) ∧
      (¬ (r4 = 0) →
        (∃ (r6 : Int32) (M6 : mz_M), (mq_C mq_X9_tellsField [.ref 0, .int r1] M2 (some (.int r6), M6)) ∧
        res = (some (.int r6), M6)))))) ∧
    (¬ (0 ≤ r1) →
      res = (some (.int r1), M2)))))) :
    mq_G mq_X9_field (0, [some (.ref 0), none], [], M) res := by
  refine mz_Go.steps (n := 2) (k2 := (4, [some (.ref 0), none], [.ref 70], M)) (P := []) rfl mz_o0 ?_
  obtain ⟨r1, M1, k1, h⟩ := h
  refine mz_Go.callV (As := []) (rest := []) (rfl : mz_find 4 (mz_rows mq_X9_field) = some (4, .invokevirtual 84, 3, 56, 0, 63)) (rfl : mz_nth mq_tab 56 = some mq_X8_polynomialRead) rfl rfl rfl rfl (Nat.le_of_ble_eq_true rfl) (Nat.le_of_ble_eq_true rfl) k1 ?_
  show mq_G mq_X9_field (7, [some (.ref 0), none], [.int r1], M1) res
  refine mz_Go.steps (n := 3) (k2 := (12, [some (.ref 0), some (.int r1)], [.ref 70], M1)) (P := []) rfl mz_o0 ?_
  obtain ⟨M2, k2, h⟩ := h
  refine mz_Go.callV (As := []) (rest := []) (rfl : mz_find 12 (mz_rows mq_X9_field) = some (12, .invokevirtual 88, 3, 54, 0, 64)) (rfl : mz_nth mq_tab 54 = some mq_X8_empties) rfl rfl rfl rfl (Nat.le_of_ble_eq_true rfl) (Nat.le_of_ble_eq_true rfl) k2 ?_
  show mq_G mq_X9_field (15, [some (.ref 0), some (.int r1)], [], M2) res
  refine mz_Go.steps (n := 2) (k2 := (if 0 ≤ r1 then 21 else 19, [some (.ref 0), some (.int r1)], [], M2)) (P := []) rfl mz_o0 ?_
  refine mz_Go.ite (fun c16 => ?_) (fun c16 => ?_)
  · replace h := h.1 c16
    refine mz_Go.steps (n := 1) (k2 := (22, [some (.ref 0), some (.int r1)], [.int r1], M2)) (P := []) rfl mz_o0 ?_
    obtain ⟨r4, k4, h⟩ := h
    refine mz_Go.callS (As := [.int r1]) (rest := []) (rfl : mz_find 22 (mz_rows mq_X9_field) = some (22, .invokestatic 91, 3, 40, 0, 65)) (rfl : mz_nth mq_tab 40 = some mq_X4_isIrreducible) (by decide) rfl rfl rfl (Nat.le_of_ble_eq_true rfl) (Nat.le_of_ble_eq_true rfl) k4 ?_
    show mq_G mq_X9_field (25, [some (.ref 0), some (.int r1)], [.int r4], M2) res
    refine mz_Go.steps (n := 1) (k2 := (if r4 = 0 then 36 else 28, [some (.ref 0), some (.int r1)], [], M2)) (P := []) rfl mz_o0 ?_
    refine mz_Go.ite (fun c25 => ?_) (fun c25 => ?_)
    · replace h := h.1 c25
      refine mz_Go.steps (n := 1) (k2 := (38, [some (.ref 0), some (.int r1)], [.int (-2)], M2)) (P := []) rfl mz_o0 ?_
      rw [h]
      exact mz_Go.iret (rfl : mz_find 38 (mz_rows mq_X9_field) = some (38, .ireturn, 1, 0, 0, 0)) rfl
    · replace h := h.2 c25
      refine mz_Go.steps (n := 2) (k2 := (30, [some (.ref 0), some (.int r1)], [.int r1, .ref 0], M2)) (P := []) rfl mz_o0 ?_
      obtain ⟨r6, M6, k6, h⟩ := h
      refine mz_Go.callV (As := [.int r1]) (rest := []) (rfl : mz_find 30 (mz_rows mq_X9_field) = some (30, .invokevirtual 96, 3, 126, 0, 66)) (rfl : mz_nth mq_tab 126 = some mq_X9_tellsField) rfl rfl rfl rfl (Nat.le_of_ble_eq_true rfl) (Nat.le_of_ble_eq_true rfl) k6 ?_
      show mq_G mq_X9_field (33, [some (.ref 0), some (.int r1)], [.int r6], M6) res
      refine mz_Go.steps (n := 1) (k2 := (38, [some (.ref 0), some (.int r1)], [.int r6], M6)) (P := []) rfl mz_o0 ?_
      rw [h]
      exact mz_Go.iret (rfl : mz_find 38 (mz_rows mq_X9_field) = some (38, .ireturn, 1, 0, 0, 0)) rfl
  · replace h := h.2 c16
    refine mz_Go.steps (n := 1) (k2 := (20, [some (.ref 0), some (.int r1)], [.int r1], M2)) (P := []) rfl mz_o0 ?_
    rw [h]
    exact mz_Go.iret (rfl : mz_find 20 (mz_rows mq_X9_field) = some (20, .ireturn, 1, 0, 0, 0)) rfl
set_option maxRecDepth 100000 in
set_option maxHeartbeats 4000000 in
theorem t_X9_poly_0 (x1 : Int32) (M : mz_M) {res : mz_O} (h :
    (∃ (r1 : Int32), (mq_C mq_X4_degreeOf [.int x1] M (some (.int r1), M)) ∧
    ((r1 < 2 →
      res = (some (.int (-1)), M)) ∧
    (¬ (r1 < 2) →
      ((r1 ≤ 8 →
        (∃ (r4 : Int32), (mq_C mq_X4_isIrreducible [.int x1] M (some (.int r4), M)) ∧
        ((r4 = 0 →
          res = (some (.int (-2)), M)) ∧
        (¬ (r4 = 0) →
          (∃ (r6 : Int32) (M6 : mz_M), (mq_C mq_X9_tellsField [.ref 0, .int x1] M (some (.int r6), M6)) ∧
          res = (some (.int r6), M6)))))) ∧
      (¬ (r1 ≤ 8) →
        res = (some (.int (-1)), M))))))) :
    mq_G mq_X9_poly (0, [some (.ref 0), some (.int x1), none], [], M) res := by
  refine mz_Go.steps (n := 1) (k2 := (1, [some (.ref 0), some (.int x1), none], [.int x1], M)) (P := []) rfl mz_o0 ?_
  obtain ⟨r1, k1, h⟩ := h
  refine mz_Go.callS (As := [.int x1]) (rest := []) (rfl : mz_find 1 (mz_rows mq_X9_poly) = some (1, .invokestatic 100, 3, 37, 0, 67)) (rfl : mz_nth mq_tab 37 = some mq_X4_degreeOf) (by decide) rfl rfl rfl (Nat.le_of_ble_eq_true rfl) (Nat.le_of_ble_eq_true rfl) k1 ?_
  show mq_G mq_X9_poly (4, [some (.ref 0), some (.int x1), none], [.int r1], M) res
  refine mz_Go.steps (n := 4) (k2 := (if r1 < 2 then 16 else 10, [some (.ref 0), some (.int x1), some (.int r1)], [], M)) (P := []) rfl mz_o0 ?_
  refine mz_Go.ite (fun c7 => ?_) (fun c7 => ?_)
  · replace h := h.1 c7
    refine mz_Go.steps (n := 1) (k2 := (17, [some (.ref 0), some (.int x1), some (.int r1)], [.int (-1)], M)) (P := []) rfl mz_o0 ?_
    rw [h]
    exact mz_Go.iret (rfl : mz_find 17 (mz_rows mq_X9_poly) = some (17, .ireturn, 1, 0, 0, 0)) rfl
  · replace h := h.2 c7
    refine mz_Go.steps (n := 3) (k2 := (if r1 ≤ 8 then 18 else 16, [some (.ref 0), some (.int x1), some (.int r1)], [], M)) (P := []) rfl mz_o0 ?_
    refine mz_Go.ite (fun c13 => ?_) (fun c13 => ?_)
    · replace h := h.1 c13
      refine mz_Go.steps (n := 1) (k2 := (19, [some (.ref 0), some (.int x1), some (.int r1)], [.int x1], M)) (P := []) rfl mz_o0 ?_
      obtain ⟨r4, k4, h⟩ := h
      refine mz_Go.callS (As := [.int x1]) (rest := []) (rfl : mz_find 19 (mz_rows mq_X9_poly) = some (19, .invokestatic 91, 3, 40, 0, 65)) (rfl : mz_nth mq_tab 40 = some mq_X4_isIrreducible) (by decide) rfl rfl rfl (Nat.le_of_ble_eq_true rfl) (Nat.le_of_ble_eq_true rfl) k4 ?_
      show mq_G mq_X9_poly (22, [some (.ref 0), some (.int x1), some (.int r1)], [.int r4], M) res
      refine mz_Go.steps (n := 1) (k2 := (if r4 = 0 then 33 else 25, [some (.ref 0), some (.int x1), some (.int r1)], [], M)) (P := []) rfl mz_o0 ?_
      refine mz_Go.ite (fun c22 => ?_) (fun c22 => ?_)
      · replace h := h.1 c22
        refine mz_Go.steps (n := 1) (k2 := (35, [some (.ref 0), some (.int x1), some (.int r1)], [.int (-2)], M)) (P := []) rfl mz_o0 ?_
        rw [h]
        exact mz_Go.iret (rfl : mz_find 35 (mz_rows mq_X9_poly) = some (35, .ireturn, 1, 0, 0, 0)) rfl
      · replace h := h.2 c22
        refine mz_Go.steps (n := 2) (k2 := (27, [some (.ref 0), some (.int x1), some (.int r1)], [.int x1, .ref 0], M)) (P := []) rfl mz_o0 ?_
        obtain ⟨r6, M6, k6, h⟩ := h
        refine mz_Go.callV (As := [.int x1]) (rest := []) (rfl : mz_find 27 (mz_rows mq_X9_poly) = some (27, .invokevirtual 96, 3, 126, 0, 66)) (rfl : mz_nth mq_tab 126 = some mq_X9_tellsField) rfl rfl rfl rfl (Nat.le_of_ble_eq_true rfl) (Nat.le_of_ble_eq_true rfl) k6 ?_
        show mq_G mq_X9_poly (30, [some (.ref 0), some (.int x1), some (.int r1)], [.int r6], M6) res
        refine mz_Go.steps (n := 1) (k2 := (35, [some (.ref 0), some (.int x1), some (.int r1)], [.int r6], M6)) (P := []) rfl mz_o0 ?_
        rw [h]
        exact mz_Go.iret (rfl : mz_find 35 (mz_rows mq_X9_poly) = some (35, .ireturn, 1, 0, 0, 0)) rfl
    · replace h := h.2 c13
      refine mz_Go.steps (n := 1) (k2 := (17, [some (.ref 0), some (.int x1), some (.int r1)], [.int (-1)], M)) (P := []) rfl mz_o0 ?_
      rw [h]
      exact mz_Go.iret (rfl : mz_find 17 (mz_rows mq_X9_poly) = some (17, .ireturn, 1, 0, 0, 0)) rfl
set_option maxRecDepth 100000 in
set_option maxHeartbeats 4000000 in
theorem t_X9_product_0 (x1 : Int32) (x2 : Int32) (M : mz_M) {res : mz_O} (h :
    (∃ (r1 : Int32), (mq_C mq_X9_isElement [.ref 0, .int x1] M (some (.int r1), M)) ∧
    ((r1 = 0 →
      res = (some (.int (-1)), M)) ∧
    (¬ (r1 = 0) →
      (∃ (r3 : Int32), (mq_C mq_X9_isElement [.ref 0, .int x2] M (some (.int r3), M)) ∧
      ((r3 = 0 →
        res = (some (.int (-1)), M)) ∧
      (¬ (r3 = 0) →
        (∃ (r5 : Int32), (mq_C mq_X0_times [.ref 2, .int x1, .int x2] M (some (.int r5), M)) ∧
        res = (some (.int r5), M))))))))) :
    mq_G mq_X9_product (0, [some (.ref 0), some (.int x1), some (.int x2)], [], M) res := by
  refine mz_Go.steps (n := 2) (k2 := (2, [some (.ref 0), some (.int x1), some (.int x2)], [.int x1, .ref 0], M)) (P := []) rfl mz_o0 ?_
  obtain ⟨r1, k1, h⟩ := h
  refine mz_Go.callV (As := [.int x1]) (rest := []) (rfl : mz_find 2 (mz_rows mq_X9_product) = some (2, .invokevirtual 103, 3, 123, 0, 68)) (rfl : mz_nth mq_tab 123 = some mq_X9_isElement) rfl rfl rfl rfl (Nat.le_of_ble_eq_true rfl) (Nat.le_of_ble_eq_true rfl) k1 ?_
  show mq_G mq_X9_product (5, [some (.ref 0), some (.int x1), some (.int x2)], [.int r1], M) res
  refine mz_Go.steps (n := 1) (k2 := (if r1 = 0 then 28 else 8, [some (.ref 0), some (.int x1), some (.int x2)], [], M)) (P := []) rfl mz_o0 ?_
  refine mz_Go.ite (fun c5 => ?_) (fun c5 => ?_)
  · replace h := h.1 c5
    refine mz_Go.steps (n := 1) (k2 := (29, [some (.ref 0), some (.int x1), some (.int x2)], [.int (-1)], M)) (P := []) rfl mz_o0 ?_
    rw [h]
    exact mz_Go.iret (rfl : mz_find 29 (mz_rows mq_X9_product) = some (29, .ireturn, 1, 0, 0, 0)) rfl
  · replace h := h.2 c5
    refine mz_Go.steps (n := 2) (k2 := (10, [some (.ref 0), some (.int x1), some (.int x2)], [.int x2, .ref 0], M)) (P := []) rfl mz_o0 ?_
    obtain ⟨r3, k3, h⟩ := h
    refine mz_Go.callV (As := [.int x2]) (rest := []) (rfl : mz_find 10 (mz_rows mq_X9_product) = some (10, .invokevirtual 103, 3, 123, 0, 68)) (rfl : mz_nth mq_tab 123 = some mq_X9_isElement) rfl rfl rfl rfl (Nat.le_of_ble_eq_true rfl) (Nat.le_of_ble_eq_true rfl) k3 ?_
    show mq_G mq_X9_product (13, [some (.ref 0), some (.int x1), some (.int x2)], [.int r3], M) res
    refine mz_Go.steps (n := 1) (k2 := (if r3 = 0 then 28 else 16, [some (.ref 0), some (.int x1), some (.int x2)], [], M)) (P := []) rfl mz_o0 ?_
    refine mz_Go.ite (fun c13 => ?_) (fun c13 => ?_)
    · replace h := h.1 c13
      refine mz_Go.steps (n := 1) (k2 := (29, [some (.ref 0), some (.int x1), some (.int x2)], [.int (-1)], M)) (P := []) rfl mz_o0 ?_
      rw [h]
      exact mz_Go.iret (rfl : mz_find 29 (mz_rows mq_X9_product) = some (29, .ireturn, 1, 0, 0, 0)) rfl
    · replace h := h.2 c13
      refine mz_Go.steps (n := 4) (k2 := (22, [some (.ref 0), some (.int x1), some (.int x2)], [.int x2, .int x1, .ref 2], M)) (P := []) rfl mz_o0 ?_
      obtain ⟨r5, k5, h⟩ := h
      refine mz_Go.callV (As := [.int x1, .int x2]) (rest := []) (rfl : mz_find 22 (mz_rows mq_X9_product) = some (22, .invokevirtual 106, 3, 3, 0, 70)) (rfl : mz_nth mq_tab 3 = some mq_X0_times) rfl rfl rfl rfl (Nat.le_of_ble_eq_true rfl) (Nat.le_of_ble_eq_true rfl) k5 ?_
      show mq_G mq_X9_product (25, [some (.ref 0), some (.int x1), some (.int x2)], [.int r5], M) res
      refine mz_Go.steps (n := 1) (k2 := (29, [some (.ref 0), some (.int x1), some (.int x2)], [.int r5], M)) (P := []) rfl mz_o0 ?_
      rw [h]
      exact mz_Go.iret (rfl : mz_find 29 (mz_rows mq_X9_product) = some (29, .ireturn, 1, 0, 0, 0)) rfl
set_option maxRecDepth 100000 in
set_option maxHeartbeats 4000000 in
theorem t_X9_inverse_0 (x1 : Int32) (M : mz_M) {res : mz_O} (h :
    (∃ (r1 : Int32), (mq_C mq_X9_isElement [.ref 0, .int x1] M (some (.int r1), M)) ∧
    ((¬ r1 = 0 →
      ((¬ x1 = 0 →
        (∃ (r4 : Int32), (mq_C mq_X0_turned [.ref 2, .int x1] M (some (.int r4), M)) ∧
        res = (some (.int r4), M))) ∧
      (¬ (¬ x1 = 0) →
        res = (some (.int (-2)), M)))) ∧
    (¬ (¬ r1 = 0) →
      res = (some (.int (-1)), M))))) :
    mq_G mq_X9_inverse (0, [some (.ref 0), some (.int x1)], [], M) res := by
  refine mz_Go.steps (n := 2) (k2 := (2, [some (.ref 0), some (.int x1)], [.int x1, .ref 0], M)) (P := []) rfl mz_o0 ?_
  obtain ⟨r1, k1, h⟩ := h
  refine mz_Go.callV (As := [.int x1]) (rest := []) (rfl : mz_find 2 (mz_rows mq_X9_inverse) = some (2, .invokevirtual 103, 3, 123, 0, 68)) (rfl : mz_nth mq_tab 123 = some mq_X9_isElement) rfl rfl rfl rfl (Nat.le_of_ble_eq_true rfl) (Nat.le_of_ble_eq_true rfl) k1 ?_
  show mq_G mq_X9_inverse (5, [some (.ref 0), some (.int x1)], [.int r1], M) res
  refine mz_Go.steps (n := 1) (k2 := (if ¬ r1 = 0 then 10 else 8, [some (.ref 0), some (.int x1)], [], M)) (P := []) rfl mz_o0 ?_
  refine mz_Go.ite (fun c5 => ?_) (fun c5 => ?_)
  · replace h := h.1 c5
    refine mz_Go.steps (n := 2) (k2 := (if ¬ x1 = 0 then 19 else 14, [some (.ref 0), some (.int x1)], [], M)) (P := []) rfl mz_o0 ?_
    refine mz_Go.ite (fun c11 => ?_) (fun c11 => ?_)
    · replace h := h.1 c11
      refine mz_Go.steps (n := 3) (k2 := (24, [some (.ref 0), some (.int x1)], [.int x1, .ref 2], M)) (P := []) rfl mz_o0 ?_
      obtain ⟨r4, k4, h⟩ := h
      refine mz_Go.callV (As := [.int x1]) (rest := []) (rfl : mz_find 24 (mz_rows mq_X9_inverse) = some (24, .invokevirtual 110, 3, 4, 0, 71)) (rfl : mz_nth mq_tab 4 = some mq_X0_turned) rfl rfl rfl rfl (Nat.le_of_ble_eq_true rfl) (Nat.le_of_ble_eq_true rfl) k4 ?_
      show mq_G mq_X9_inverse (27, [some (.ref 0), some (.int x1)], [.int r4], M) res
      rw [h]
      exact mz_Go.iret (rfl : mz_find 27 (mz_rows mq_X9_inverse) = some (27, .ireturn, 1, 0, 0, 0)) rfl
    · replace h := h.2 c11
      refine mz_Go.steps (n := 2) (k2 := (27, [some (.ref 0), some (.int x1)], [.int (-2)], M)) (P := []) rfl mz_o0 ?_
      rw [h]
      exact mz_Go.iret (rfl : mz_find 27 (mz_rows mq_X9_inverse) = some (27, .ireturn, 1, 0, 0, 0)) rfl
  · replace h := h.2 c5
    refine mz_Go.steps (n := 1) (k2 := (9, [some (.ref 0), some (.int x1)], [.int (-1)], M)) (P := []) rfl mz_o0 ?_
    rw [h]
    exact mz_Go.iret (rfl : mz_find 9 (mz_rows mq_X9_inverse) = some (9, .ireturn, 1, 0, 0, 0)) rfl
set_option maxRecDepth 100000 in
set_option maxHeartbeats 4000000 in
theorem t_X9_power_0 (x1 : Int32) (x2 : Int32) (M : mz_M) {res : mz_O} (h :
    (∃ (r1 : Int32), (mq_C mq_X9_isElement [.ref 0, .int x1] M (some (.int r1), M)) ∧
    ((r1 = 0 →
      res = (some (.int (-1)), M)) ∧
    (¬ (r1 = 0) →
      ((x2 < 0 →
        res = (some (.int (-1)), M)) ∧
      (¬ (x2 < 0) →
        ((x2 ≤ 1000000000 →
          (∃ (r5 : Int32), (mq_C mq_X0_raised [.ref 2, .int x1, .int x2] M (some (.int r5), M)) ∧
          res = (some (.int r5), M))) ∧
        (¬ (x2 ≤ 1000000000) →
          res = (some (.int (-1)), M))))))))) :
    mq_G mq_X9_power (0, [some (.ref 0), some (.int x1), some (.int x2)], [], M) res := by
  refine mz_Go.steps (n := 2) (k2 := (2, [some (.ref 0), some (.int x1), some (.int x2)], [.int x1, .ref 0], M)) (P := []) rfl mz_o0 ?_
  obtain ⟨r1, k1, h⟩ := h
  refine mz_Go.callV (As := [.int x1]) (rest := []) (rfl : mz_find 2 (mz_rows mq_X9_power) = some (2, .invokevirtual 103, 3, 123, 0, 68)) (rfl : mz_nth mq_tab 123 = some mq_X9_isElement) rfl rfl rfl rfl (Nat.le_of_ble_eq_true rfl) (Nat.le_of_ble_eq_true rfl) k1 ?_
  show mq_G mq_X9_power (5, [some (.ref 0), some (.int x1), some (.int x2)], [.int r1], M) res
  refine mz_Go.steps (n := 1) (k2 := (if r1 = 0 then 18 else 8, [some (.ref 0), some (.int x1), some (.int x2)], [], M)) (P := []) rfl mz_o0 ?_
  refine mz_Go.ite (fun c5 => ?_) (fun c5 => ?_)
  · replace h := h.1 c5
    refine mz_Go.steps (n := 1) (k2 := (19, [some (.ref 0), some (.int x1), some (.int x2)], [.int (-1)], M)) (P := []) rfl mz_o0 ?_
    rw [h]
    exact mz_Go.iret (rfl : mz_find 19 (mz_rows mq_X9_power) = some (19, .ireturn, 1, 0, 0, 0)) rfl
  · replace h := h.2 c5
    refine mz_Go.steps (n := 2) (k2 := (if x2 < 0 then 18 else 12, [some (.ref 0), some (.int x1), some (.int x2)], [], M)) (P := []) rfl mz_o0 ?_
    refine mz_Go.ite (fun c9 => ?_) (fun c9 => ?_)
    · replace h := h.1 c9
      refine mz_Go.steps (n := 1) (k2 := (19, [some (.ref 0), some (.int x1), some (.int x2)], [.int (-1)], M)) (P := []) rfl mz_o0 ?_
      rw [h]
      exact mz_Go.iret (rfl : mz_find 19 (mz_rows mq_X9_power) = some (19, .ireturn, 1, 0, 0, 0)) rfl
    · replace h := h.2 c9
      refine mz_Go.steps (n := 3) (k2 := (if x2 ≤ 1000000000 then 20 else 18, [some (.ref 0), some (.int x1), some (.int x2)], [], M)) (P := []) rfl mz_o0 ?_
      refine mz_Go.ite (fun c15 => ?_) (fun c15 => ?_)
      · replace h := h.1 c15
        refine mz_Go.steps (n := 4) (k2 := (26, [some (.ref 0), some (.int x1), some (.int x2)], [.int x2, .int x1, .ref 2], M)) (P := []) rfl mz_o0 ?_
        obtain ⟨r5, k5, h⟩ := h
        refine mz_Go.callV (As := [.int x1, .int x2]) (rest := []) (rfl : mz_find 26 (mz_rows mq_X9_power) = some (26, .invokevirtual 114, 3, 5, 0, 73)) (rfl : mz_nth mq_tab 5 = some mq_X0_raised) rfl rfl rfl rfl (Nat.le_of_ble_eq_true rfl) (Nat.le_of_ble_eq_true rfl) k5 ?_
        show mq_G mq_X9_power (29, [some (.ref 0), some (.int x1), some (.int x2)], [.int r5], M) res
        rw [h]
        exact mz_Go.iret (rfl : mz_find 29 (mz_rows mq_X9_power) = some (29, .ireturn, 1, 0, 0, 0)) rfl
      · replace h := h.2 c15
        refine mz_Go.steps (n := 1) (k2 := (19, [some (.ref 0), some (.int x1), some (.int x2)], [.int (-1)], M)) (P := []) rfl mz_o0 ?_
        rw [h]
        exact mz_Go.iret (rfl : mz_find 19 (mz_rows mq_X9_power) = some (19, .ireturn, 1, 0, 0, 0)) rfl
set_option maxRecDepth 100000 in
set_option maxHeartbeats 4000000 in
theorem t_X9_order_0 (x1 : Int32) (M : mz_M) {res : mz_O} (h :
    (∃ (r1 : Int32), (mq_C mq_X9_isElement [.ref 0, .int x1] M (some (.int r1), M)) ∧
    ((¬ r1 = 0 →
      ((¬ x1 = 0 →
        (∃ (r4 : Int32), (mq_C mq_X0_orderOf [.ref 2, .int x1] M (some (.int r4), M)) ∧
        (∃ (M5 : mz_M), (mq_C mq_X6_empties [.ref 73] M (none, M5)) ∧
        ((¬ r4 = ((M5.1 2 2) - 1) →
          (∃ (M7 : mz_M), (mq_C mq_X6_puts [.ref 73, .long ((0 : Int32).toInt64)] M5 (none, M7)) ∧
          res = (some (.int r4), M7))) ∧
        (¬ (¬ r4 = ((M5.1 2 2) - 1)) →
          (∃ (M8 : mz_M), (mq_C mq_X6_puts [.ref 73, .long ((1 : Int32).toInt64)] M5 (none, M8)) ∧
          res = (some (.int r4), M8))))))) ∧
      (¬ (¬ x1 = 0) →
        res = (some (.int (-2)), M)))) ∧
    (¬ (¬ r1 = 0) →
      res = (some (.int (-1)), M))))) :
    mq_G mq_X9_order (0, [some (.ref 0), some (.int x1), none], [], M) res := by
  refine mz_Go.steps (n := 2) (k2 := (2, [some (.ref 0), some (.int x1), none], [.int x1, .ref 0], M)) (P := []) rfl mz_o0 ?_
  obtain ⟨r1, k1, h⟩ := h
  refine mz_Go.callV (As := [.int x1]) (rest := []) (rfl : mz_find 2 (mz_rows mq_X9_order) = some (2, .invokevirtual 103, 3, 123, 0, 68)) (rfl : mz_nth mq_tab 123 = some mq_X9_isElement) rfl rfl rfl rfl (Nat.le_of_ble_eq_true rfl) (Nat.le_of_ble_eq_true rfl) k1 ?_
  show mq_G mq_X9_order (5, [some (.ref 0), some (.int x1), none], [.int r1], M) res
  refine mz_Go.steps (n := 1) (k2 := (if ¬ r1 = 0 then 10 else 8, [some (.ref 0), some (.int x1), none], [], M)) (P := []) rfl mz_o0 ?_
  refine mz_Go.ite (fun c5 => ?_) (fun c5 => ?_)
  · replace h := h.1 c5
    refine mz_Go.steps (n := 2) (k2 := (if ¬ x1 = 0 then 17 else 14, [some (.ref 0), some (.int x1), none], [], M)) (P := []) rfl mz_o0 ?_
    refine mz_Go.ite (fun c11 => ?_) (fun c11 => ?_)
    · replace h := h.1 c11
      refine mz_Go.steps (n := 3) (k2 := (22, [some (.ref 0), some (.int x1), none], [.int x1, .ref 2], M)) (P := []) rfl mz_o0 ?_
      obtain ⟨r4, k4, h⟩ := h
      refine mz_Go.callV (As := [.int x1]) (rest := []) (rfl : mz_find 22 (mz_rows mq_X9_order) = some (22, .invokevirtual 117, 3, 7, 0, 74)) (rfl : mz_nth mq_tab 7 = some mq_X0_orderOf) rfl rfl rfl rfl (Nat.le_of_ble_eq_true rfl) (Nat.le_of_ble_eq_true rfl) k4 ?_
      show mq_G mq_X9_order (25, [some (.ref 0), some (.int x1), none], [.int r4], M) res
      refine mz_Go.steps (n := 3) (k2 := (30, [some (.ref 0), some (.int x1), some (.int r4)], [.ref 73], M)) (P := []) rfl mz_o0 ?_
      obtain ⟨M5, k5, h⟩ := h
      refine mz_Go.callV (As := []) (rest := []) (rfl : mz_find 30 (mz_rows mq_X9_order) = some (30, .invokevirtual 120, 3, 44, 0, 76)) (rfl : mz_nth mq_tab 44 = some mq_X6_empties) rfl rfl rfl rfl (Nat.le_of_ble_eq_true rfl) (Nat.le_of_ble_eq_true rfl) k5 ?_
      show mq_G mq_X9_order (33, [some (.ref 0), some (.int x1), some (.int r4)], [], M5) res
      refine mz_Go.steps (n := 9) (k2 := (if ¬ r4 = ((M5.1 2 2) - 1) then 54 else 50, [some (.ref 0), some (.int x1), some (.int r4)], [.ref 73], M5)) (P := []) rfl mz_o0 ?_
      refine mz_Go.ite (fun c47 => ?_) (fun c47 => ?_)
      · replace h := h.1 c47
        refine mz_Go.steps (n := 1) (k2 := (55, [some (.ref 0), some (.int x1), some (.int r4)], [.long ((0 : Int32).toInt64), .ref 73], M5)) (P := []) rfl mz_o0 ?_
        obtain ⟨M7, k7, h⟩ := h
        refine mz_Go.callV (As := [.long ((0 : Int32).toInt64)]) (rest := []) (rfl : mz_find 55 (mz_rows mq_X9_order) = some (55, .invokevirtual 124, 3, 45, 0, 78)) (rfl : mz_nth mq_tab 45 = some mq_X6_puts) rfl rfl rfl rfl (Nat.le_of_ble_eq_true rfl) (Nat.le_of_ble_eq_true rfl) k7 ?_
        show mq_G mq_X9_order (58, [some (.ref 0), some (.int x1), some (.int r4)], [], M7) res
        refine mz_Go.steps (n := 1) (k2 := (59, [some (.ref 0), some (.int x1), some (.int r4)], [.int r4], M7)) (P := []) rfl mz_o0 ?_
        rw [h]
        exact mz_Go.iret (rfl : mz_find 59 (mz_rows mq_X9_order) = some (59, .ireturn, 1, 0, 0, 0)) rfl
      · replace h := h.2 c47
        refine mz_Go.steps (n := 2) (k2 := (55, [some (.ref 0), some (.int x1), some (.int r4)], [.long ((1 : Int32).toInt64), .ref 73], M5)) (P := []) rfl mz_o0 ?_
        obtain ⟨M8, k8, h⟩ := h
        refine mz_Go.callV (As := [.long ((1 : Int32).toInt64)]) (rest := []) (rfl : mz_find 55 (mz_rows mq_X9_order) = some (55, .invokevirtual 124, 3, 45, 0, 78)) (rfl : mz_nth mq_tab 45 = some mq_X6_puts) rfl rfl rfl rfl (Nat.le_of_ble_eq_true rfl) (Nat.le_of_ble_eq_true rfl) k8 ?_
        show mq_G mq_X9_order (58, [some (.ref 0), some (.int x1), some (.int r4)], [], M8) res
        refine mz_Go.steps (n := 1) (k2 := (59, [some (.ref 0), some (.int x1), some (.int r4)], [.int r4], M8)) (P := []) rfl mz_o0 ?_
        rw [h]
        exact mz_Go.iret (rfl : mz_find 59 (mz_rows mq_X9_order) = some (59, .ireturn, 1, 0, 0, 0)) rfl
    · replace h := h.2 c11
      refine mz_Go.steps (n := 1) (k2 := (16, [some (.ref 0), some (.int x1), none], [.int (-2)], M)) (P := []) rfl mz_o0 ?_
      rw [h]
      exact mz_Go.iret (rfl : mz_find 16 (mz_rows mq_X9_order) = some (16, .ireturn, 1, 0, 0, 0)) rfl
  · replace h := h.2 c5
    refine mz_Go.steps (n := 1) (k2 := (9, [some (.ref 0), some (.int x1), none], [.int (-1)], M)) (P := []) rfl mz_o0 ?_
    rw [h]
    exact mz_Go.iret (rfl : mz_find 9 (mz_rows mq_X9_order) = some (9, .ireturn, 1, 0, 0, 0)) rfl
set_option maxRecDepth 100000 in
set_option maxHeartbeats 4000000 in
theorem t_X9_conjugate_0 (x1 : Int32) (x2 : Int32) (M : mz_M) {res : mz_O} (h :
    (∃ (r1 : Int32), (mq_C mq_X9_isElement [.ref 0, .int x1] M (some (.int r1), M)) ∧
    ((r1 = 0 →
      res = (some (.int (-1)), M)) ∧
    (¬ (r1 = 0) →
      ((x2 < 0 →
        res = (some (.int (-1)), M)) ∧
      (¬ (x2 < 0) →
        ((x2 ≤ 100 →
          (∃ (r5 : Int32), (mq_C mq_X0_squared [.ref 2, .int x1, .int x2] M (some (.int r5), M)) ∧
          res = (some (.int r5), M))) ∧
        (¬ (x2 ≤ 100) →
          res = (some (.int (-1)), M))))))))) :
    mq_G mq_X9_conjugate (0, [some (.ref 0), some (.int x1), some (.int x2)], [], M) res := by
  refine mz_Go.steps (n := 2) (k2 := (2, [some (.ref 0), some (.int x1), some (.int x2)], [.int x1, .ref 0], M)) (P := []) rfl mz_o0 ?_
  obtain ⟨r1, k1, h⟩ := h
  refine mz_Go.callV (As := [.int x1]) (rest := []) (rfl : mz_find 2 (mz_rows mq_X9_conjugate) = some (2, .invokevirtual 103, 3, 123, 0, 68)) (rfl : mz_nth mq_tab 123 = some mq_X9_isElement) rfl rfl rfl rfl (Nat.le_of_ble_eq_true rfl) (Nat.le_of_ble_eq_true rfl) k1 ?_
  show mq_G mq_X9_conjugate (5, [some (.ref 0), some (.int x1), some (.int x2)], [.int r1], M) res
  refine mz_Go.steps (n := 1) (k2 := (if r1 = 0 then 18 else 8, [some (.ref 0), some (.int x1), some (.int x2)], [], M)) (P := []) rfl mz_o0 ?_
  refine mz_Go.ite (fun c5 => ?_) (fun c5 => ?_)
  · replace h := h.1 c5
    refine mz_Go.steps (n := 1) (k2 := (19, [some (.ref 0), some (.int x1), some (.int x2)], [.int (-1)], M)) (P := []) rfl mz_o0 ?_
    rw [h]
    exact mz_Go.iret (rfl : mz_find 19 (mz_rows mq_X9_conjugate) = some (19, .ireturn, 1, 0, 0, 0)) rfl
  · replace h := h.2 c5
    refine mz_Go.steps (n := 2) (k2 := (if x2 < 0 then 18 else 12, [some (.ref 0), some (.int x1), some (.int x2)], [], M)) (P := []) rfl mz_o0 ?_
    refine mz_Go.ite (fun c9 => ?_) (fun c9 => ?_)
    · replace h := h.1 c9
      refine mz_Go.steps (n := 1) (k2 := (19, [some (.ref 0), some (.int x1), some (.int x2)], [.int (-1)], M)) (P := []) rfl mz_o0 ?_
      rw [h]
      exact mz_Go.iret (rfl : mz_find 19 (mz_rows mq_X9_conjugate) = some (19, .ireturn, 1, 0, 0, 0)) rfl
    · replace h := h.2 c9
      refine mz_Go.steps (n := 3) (k2 := (if x2 ≤ 100 then 20 else 18, [some (.ref 0), some (.int x1), some (.int x2)], [], M)) (P := []) rfl mz_o0 ?_
      refine mz_Go.ite (fun c15 => ?_) (fun c15 => ?_)
      · replace h := h.1 c15
        refine mz_Go.steps (n := 4) (k2 := (26, [some (.ref 0), some (.int x1), some (.int x2)], [.int x2, .int x1, .ref 2], M)) (P := []) rfl mz_o0 ?_
        obtain ⟨r5, k5, h⟩ := h
        refine mz_Go.callV (As := [.int x1, .int x2]) (rest := []) (rfl : mz_find 26 (mz_rows mq_X9_conjugate) = some (26, .invokevirtual 128, 3, 6, 0, 79)) (rfl : mz_nth mq_tab 6 = some mq_X0_squared) rfl rfl rfl rfl (Nat.le_of_ble_eq_true rfl) (Nat.le_of_ble_eq_true rfl) k5 ?_
        show mq_G mq_X9_conjugate (29, [some (.ref 0), some (.int x1), some (.int x2)], [.int r5], M) res
        rw [h]
        exact mz_Go.iret (rfl : mz_find 29 (mz_rows mq_X9_conjugate) = some (29, .ireturn, 1, 0, 0, 0)) rfl
      · replace h := h.2 c15
        refine mz_Go.steps (n := 1) (k2 := (19, [some (.ref 0), some (.int x1), some (.int x2)], [.int (-1)], M)) (P := []) rfl mz_o0 ?_
        rw [h]
        exact mz_Go.iret (rfl : mz_find 19 (mz_rows mq_X9_conjugate) = some (19, .ireturn, 1, 0, 0, 0)) rfl
set_option maxRecDepth 100000 in
set_option maxHeartbeats 4000000 in
theorem t_X9_conjugates_0 (x1 : Int32) (M : mz_M) {res : mz_O} (h :
    (∃ (r1 : Int32), (mq_C mq_X9_isElement [.ref 0, .int x1] M (some (.int r1), M)) ∧
    ((¬ r1 = 0 →
      (∃ (r3 : Int32), (mq_C mq_X0_sizeOf [.ref 2, .int x1] M (some (.int r3), M)) ∧
      (∃ (M4 : mz_M), (mq_C mq_X6_empties [.ref 73] M (none, M4)) ∧
      mq_G mq_X9_conjugates (31, [some (.ref 0), some (.int x1), some (.int r3), some (.int x1), some (.int 0)], [], M4) res))) ∧
    (¬ (¬ r1 = 0) →
      res = (some (.int (-1)), M))))) :
    mq_G mq_X9_conjugates (0, [some (.ref 0), some (.int x1), none, none, none], [], M) res := by
  refine mz_Go.steps (n := 2) (k2 := (2, [some (.ref 0), some (.int x1), none, none, none], [.int x1, .ref 0], M)) (P := []) rfl mz_o0 ?_
  obtain ⟨r1, k1, h⟩ := h
  refine mz_Go.callV (As := [.int x1]) (rest := []) (rfl : mz_find 2 (mz_rows mq_X9_conjugates) = some (2, .invokevirtual 103, 3, 123, 0, 68)) (rfl : mz_nth mq_tab 123 = some mq_X9_isElement) rfl rfl rfl rfl (Nat.le_of_ble_eq_true rfl) (Nat.le_of_ble_eq_true rfl) k1 ?_
  show mq_G mq_X9_conjugates (5, [some (.ref 0), some (.int x1), none, none, none], [.int r1], M) res
  refine mz_Go.steps (n := 1) (k2 := (if ¬ r1 = 0 then 10 else 8, [some (.ref 0), some (.int x1), none, none, none], [], M)) (P := []) rfl mz_o0 ?_
  refine mz_Go.ite (fun c5 => ?_) (fun c5 => ?_)
  · replace h := h.1 c5
    refine mz_Go.steps (n := 3) (k2 := (15, [some (.ref 0), some (.int x1), none, none, none], [.int x1, .ref 2], M)) (P := []) rfl mz_o0 ?_
    obtain ⟨r3, k3, h⟩ := h
    refine mz_Go.callV (As := [.int x1]) (rest := []) (rfl : mz_find 15 (mz_rows mq_X9_conjugates) = some (15, .invokevirtual 131, 3, 10, 0, 80)) (rfl : mz_nth mq_tab 10 = some mq_X0_sizeOf) rfl rfl rfl rfl (Nat.le_of_ble_eq_true rfl) (Nat.le_of_ble_eq_true rfl) k3 ?_
    show mq_G mq_X9_conjugates (18, [some (.ref 0), some (.int x1), none, none, none], [.int r3], M) res
    refine mz_Go.steps (n := 3) (k2 := (23, [some (.ref 0), some (.int x1), some (.int r3), none, none], [.ref 73], M)) (P := []) rfl mz_o0 ?_
    obtain ⟨M4, k4, h⟩ := h
    refine mz_Go.callV (As := []) (rest := []) (rfl : mz_find 23 (mz_rows mq_X9_conjugates) = some (23, .invokevirtual 120, 3, 44, 0, 76)) (rfl : mz_nth mq_tab 44 = some mq_X6_empties) rfl rfl rfl rfl (Nat.le_of_ble_eq_true rfl) (Nat.le_of_ble_eq_true rfl) k4 ?_
    show mq_G mq_X9_conjugates (26, [some (.ref 0), some (.int x1), some (.int r3), none, none], [], M4) res
    refine mz_Go.steps (n := 4) (k2 := (31, [some (.ref 0), some (.int x1), some (.int r3), some (.int x1), some (.int 0)], [], M4)) (P := []) rfl mz_o0 ?_
    exact h
  · replace h := h.2 c5
    refine mz_Go.steps (n := 1) (k2 := (9, [some (.ref 0), some (.int x1), none, none, none], [.int (-1)], M)) (P := []) rfl mz_o0 ?_
    rw [h]
    exact mz_Go.iret (rfl : mz_find 9 (mz_rows mq_X9_conjugates) = some (9, .ireturn, 1, 0, 0, 0)) rfl
set_option maxRecDepth 100000 in
set_option maxHeartbeats 4000000 in
theorem t_X9_conjugates_31 (o1 : Option Value) (x2 : Int32) (x3 : Int32) (x4 : Int32) (M : mz_M) {res : mz_O} (h :
    ((x2 ≤ x4 →
      res = (some (.int x2), M)) ∧
    (¬ (x2 ≤ x4) →
      (∃ (M2 : mz_M), (mq_C mq_X6_puts [.ref 73, .long (x3.toInt64)] M (none, M2)) ∧
      (∃ (r3 : Int32), (mq_C mq_X0_times [.ref 2, .int x3, .int x3] M2 (some (.int r3), M2)) ∧
      mq_G mq_X9_conjugates (31, [some (.ref 0), o1, some (.int x2), some (.int r3), some (.int (x4 + 1))], [], M2) res))))) :
    mq_G mq_X9_conjugates (31, [some (.ref 0), o1, some (.int x2), some (.int x3), some (.int x4)], [], M) res := by
  refine mz_Go.steps (n := 3) (k2 := (if x2 ≤ x4 then 62 else 37, [some (.ref 0), o1, some (.int x2), some (.int x3), some (.int x4)], [], M)) (P := []) rfl mz_o0 ?_
  refine mz_Go.ite (fun c34 => ?_) (fun c34 => ?_)
  · replace h := h.1 c34
    refine mz_Go.steps (n := 1) (k2 := (63, [some (.ref 0), o1, some (.int x2), some (.int x3), some (.int x4)], [.int x2], M)) (P := []) rfl mz_o0 ?_
    rw [h]
    exact mz_Go.iret (rfl : mz_find 63 (mz_rows mq_X9_conjugates) = some (63, .ireturn, 1, 0, 0, 0)) rfl
  · replace h := h.2 c34
    refine mz_Go.steps (n := 4) (k2 := (43, [some (.ref 0), o1, some (.int x2), some (.int x3), some (.int x4)], [.long (x3.toInt64), .ref 73], M)) (P := []) rfl mz_o0 ?_
    obtain ⟨M2, k2, h⟩ := h
    refine mz_Go.callV (As := [.long (x3.toInt64)]) (rest := []) (rfl : mz_find 43 (mz_rows mq_X9_conjugates) = some (43, .invokevirtual 124, 3, 45, 0, 78)) (rfl : mz_nth mq_tab 45 = some mq_X6_puts) rfl rfl rfl rfl (Nat.le_of_ble_eq_true rfl) (Nat.le_of_ble_eq_true rfl) k2 ?_
    show mq_G mq_X9_conjugates (46, [some (.ref 0), o1, some (.int x2), some (.int x3), some (.int x4)], [], M2) res
    refine mz_Go.steps (n := 4) (k2 := (52, [some (.ref 0), o1, some (.int x2), some (.int x3), some (.int x4)], [.int x3, .int x3, .ref 2], M2)) (P := []) rfl mz_o0 ?_
    obtain ⟨r3, k3, h⟩ := h
    refine mz_Go.callV (As := [.int x3, .int x3]) (rest := []) (rfl : mz_find 52 (mz_rows mq_X9_conjugates) = some (52, .invokevirtual 106, 3, 3, 0, 70)) (rfl : mz_nth mq_tab 3 = some mq_X0_times) rfl rfl rfl rfl (Nat.le_of_ble_eq_true rfl) (Nat.le_of_ble_eq_true rfl) k3 ?_
    show mq_G mq_X9_conjugates (55, [some (.ref 0), o1, some (.int x2), some (.int x3), some (.int x4)], [.int r3], M2) res
    refine mz_Go.steps (n := 3) (k2 := (31, [some (.ref 0), o1, some (.int x2), some (.int r3), some (.int (x4 + 1))], [], M2)) (P := []) rfl mz_o0 ?_
    exact h
set_option maxRecDepth 100000 in
set_option maxHeartbeats 4000000 in
theorem t_X9_least_0 (x1 : Int32) (M : mz_M) {res : mz_O} (h :
    (∃ (r1 : Int32), (mq_C mq_X9_isElement [.ref 0, .int x1] M (some (.int r1), M)) ∧
    ((¬ r1 = 0 →
      (∃ (r3 : Int32) (M3 : mz_M), (mq_C mq_X2_leastPolynomial [.ref 1, .int x1] M (some (.int r3), M3)) ∧
      (∃ (r4 : Int32), (mq_C mq_X4_degreeOf [.int r3] M3 (some (.int r4), M3)) ∧
      (∃ (M5 : mz_M), (mq_C mq_X6_empties [.ref 73] M3 (none, M5)) ∧
      (∃ (M6 : mz_M), (mq_C mq_X6_puts [.ref 73, .long (r4.toInt64)] M5 (none, M6)) ∧
      ((r4 ≤ 0 →
        (∃ (M8 : mz_M), (mq_C mq_X6_puts [.ref 73, .long ((0 : Int32).toInt64)] M6 (none, M8)) ∧
        res = (some (.int r3), M8))) ∧
      (¬ (r4 ≤ 0) →
        (∃ (M9 : mz_M), (mq_C mq_X6_puts [.ref 73, .long (((r3 >>> ((r4 - 1) &&& 31)) &&& 1).toInt64)] M6 (none, M9)) ∧
        res = (some (.int r3), M9))))))))) ∧
    (¬ (¬ r1 = 0) →
      res = (some (.int (-1)), M))))) :
    mq_G mq_X9_least (0, [some (.ref 0), some (.int x1), none, none], [], M) res := by
  refine mz_Go.steps (n := 2) (k2 := (2, [some (.ref 0), some (.int x1), none, none], [.int x1, .ref 0], M)) (P := []) rfl mz_o0 ?_
  obtain ⟨r1, k1, h⟩ := h
  refine mz_Go.callV (As := [.int x1]) (rest := []) (rfl : mz_find 2 (mz_rows mq_X9_least) = some (2, .invokevirtual 103, 3, 123, 0, 68)) (rfl : mz_nth mq_tab 123 = some mq_X9_isElement) rfl rfl rfl rfl (Nat.le_of_ble_eq_true rfl) (Nat.le_of_ble_eq_true rfl) k1 ?_
  show mq_G mq_X9_least (5, [some (.ref 0), some (.int x1), none, none], [.int r1], M) res
  refine mz_Go.steps (n := 1) (k2 := (if ¬ r1 = 0 then 10 else 8, [some (.ref 0), some (.int x1), none, none], [], M)) (P := []) rfl mz_o0 ?_
  refine mz_Go.ite (fun c5 => ?_) (fun c5 => ?_)
  · replace h := h.1 c5
    refine mz_Go.steps (n := 3) (k2 := (15, [some (.ref 0), some (.int x1), none, none], [.int x1, .ref 1], M)) (P := []) rfl mz_o0 ?_
    obtain ⟨r3, M3, k3, h⟩ := h
    refine mz_Go.callV (As := [.int x1]) (rest := []) (rfl : mz_find 15 (mz_rows mq_X9_least) = some (15, .invokevirtual 134, 3, 28, 0, 82)) (rfl : mz_nth mq_tab 28 = some mq_X2_leastPolynomial) rfl rfl rfl rfl (Nat.le_of_ble_eq_true rfl) (Nat.le_of_ble_eq_true rfl) k3 ?_
    show mq_G mq_X9_least (18, [some (.ref 0), some (.int x1), none, none], [.int r3], M3) res
    refine mz_Go.steps (n := 2) (k2 := (20, [some (.ref 0), some (.int x1), some (.int r3), none], [.int r3], M3)) (P := []) rfl mz_o0 ?_
    obtain ⟨r4, k4, h⟩ := h
    refine mz_Go.callS (As := [.int r3]) (rest := []) (rfl : mz_find 20 (mz_rows mq_X9_least) = some (20, .invokestatic 100, 3, 37, 0, 67)) (rfl : mz_nth mq_tab 37 = some mq_X4_degreeOf) (by decide) rfl rfl rfl (Nat.le_of_ble_eq_true rfl) (Nat.le_of_ble_eq_true rfl) k4 ?_
    show mq_G mq_X9_least (23, [some (.ref 0), some (.int x1), some (.int r3), none], [.int r4], M3) res
    refine mz_Go.steps (n := 3) (k2 := (28, [some (.ref 0), some (.int x1), some (.int r3), some (.int r4)], [.ref 73], M3)) (P := []) rfl mz_o0 ?_
    obtain ⟨M5, k5, h⟩ := h
    refine mz_Go.callV (As := []) (rest := []) (rfl : mz_find 28 (mz_rows mq_X9_least) = some (28, .invokevirtual 120, 3, 44, 0, 76)) (rfl : mz_nth mq_tab 44 = some mq_X6_empties) rfl rfl rfl rfl (Nat.le_of_ble_eq_true rfl) (Nat.le_of_ble_eq_true rfl) k5 ?_
    show mq_G mq_X9_least (31, [some (.ref 0), some (.int x1), some (.int r3), some (.int r4)], [], M5) res
    refine mz_Go.steps (n := 4) (k2 := (37, [some (.ref 0), some (.int x1), some (.int r3), some (.int r4)], [.long (r4.toInt64), .ref 73], M5)) (P := []) rfl mz_o0 ?_
    obtain ⟨M6, k6, h⟩ := h
    refine mz_Go.callV (As := [.long (r4.toInt64)]) (rest := []) (rfl : mz_find 37 (mz_rows mq_X9_least) = some (37, .invokevirtual 124, 3, 45, 0, 78)) (rfl : mz_nth mq_tab 45 = some mq_X6_puts) rfl rfl rfl rfl (Nat.le_of_ble_eq_true rfl) (Nat.le_of_ble_eq_true rfl) k6 ?_
    show mq_G mq_X9_least (40, [some (.ref 0), some (.int x1), some (.int r3), some (.int r4)], [], M6) res
    refine mz_Go.steps (n := 4) (k2 := (if r4 ≤ 0 then 59 else 48, [some (.ref 0), some (.int x1), some (.int r3), some (.int r4)], [.ref 73], M6)) (P := []) rfl mz_o0 ?_
    refine mz_Go.ite (fun c45 => ?_) (fun c45 => ?_)
    · replace h := h.1 c45
      refine mz_Go.steps (n := 1) (k2 := (60, [some (.ref 0), some (.int x1), some (.int r3), some (.int r4)], [.long ((0 : Int32).toInt64), .ref 73], M6)) (P := []) rfl mz_o0 ?_
      obtain ⟨M8, k8, h⟩ := h
      refine mz_Go.callV (As := [.long ((0 : Int32).toInt64)]) (rest := []) (rfl : mz_find 60 (mz_rows mq_X9_least) = some (60, .invokevirtual 124, 3, 45, 0, 78)) (rfl : mz_nth mq_tab 45 = some mq_X6_puts) rfl rfl rfl rfl (Nat.le_of_ble_eq_true rfl) (Nat.le_of_ble_eq_true rfl) k8 ?_
      show mq_G mq_X9_least (63, [some (.ref 0), some (.int x1), some (.int r3), some (.int r4)], [], M8) res
      refine mz_Go.steps (n := 1) (k2 := (64, [some (.ref 0), some (.int x1), some (.int r3), some (.int r4)], [.int r3], M8)) (P := []) rfl mz_o0 ?_
      rw [h]
      exact mz_Go.iret (rfl : mz_find 64 (mz_rows mq_X9_least) = some (64, .ireturn, 1, 0, 0, 0)) rfl
    · replace h := h.2 c45
      refine mz_Go.steps (n := 9) (k2 := (60, [some (.ref 0), some (.int x1), some (.int r3), some (.int r4)], [.long (((r3 >>> ((r4 - 1) &&& 31)) &&& 1).toInt64), .ref 73], M6)) (P := []) rfl mz_o0 ?_
      obtain ⟨M9, k9, h⟩ := h
      refine mz_Go.callV (As := [.long (((r3 >>> ((r4 - 1) &&& 31)) &&& 1).toInt64)]) (rest := []) (rfl : mz_find 60 (mz_rows mq_X9_least) = some (60, .invokevirtual 124, 3, 45, 0, 78)) (rfl : mz_nth mq_tab 45 = some mq_X6_puts) rfl rfl rfl rfl (Nat.le_of_ble_eq_true rfl) (Nat.le_of_ble_eq_true rfl) k9 ?_
      show mq_G mq_X9_least (63, [some (.ref 0), some (.int x1), some (.int r3), some (.int r4)], [], M9) res
      refine mz_Go.steps (n := 1) (k2 := (64, [some (.ref 0), some (.int x1), some (.int r3), some (.int r4)], [.int r3], M9)) (P := []) rfl mz_o0 ?_
      rw [h]
      exact mz_Go.iret (rfl : mz_find 64 (mz_rows mq_X9_least) = some (64, .ireturn, 1, 0, 0, 0)) rfl
  · replace h := h.2 c5
    refine mz_Go.steps (n := 1) (k2 := (9, [some (.ref 0), some (.int x1), none, none], [.int (-1)], M)) (P := []) rfl mz_o0 ?_
    rw [h]
    exact mz_Go.iret (rfl : mz_find 9 (mz_rows mq_X9_least) = some (9, .ireturn, 1, 0, 0, 0)) rfl
set_option maxRecDepth 100000 in
set_option maxHeartbeats 4000000 in
theorem t_X9_trace_0 (x1 : Int32) (x2 : Int32) (M : mz_M) {res : mz_O} (h :
    (∃ (r1 : Int32), (mq_C mq_X9_isElement [.ref 0, .int x1] M (some (.int r1), M)) ∧
    ((r1 = 0 →
      res = (some (.int (-1)), M)) ∧
    (¬ (r1 = 0) →
      (∃ (r3 : Int32), (mq_C mq_X0_hasSubfield [.ref 2, .int x2] M (some (.int r3), M)) ∧
      ((r3 = 0 →
        res = (some (.int (-1)), M)) ∧
      (¬ (r3 = 0) →
        (∃ (r5 : Int32), (mq_C mq_X0_tracedTo [.ref 2, .int x1, .int x2] M (some (.int r5), M)) ∧
        res = (some (.int r5), M))))))))) :
    mq_G mq_X9_trace (0, [some (.ref 0), some (.int x1), some (.int x2)], [], M) res := by
  refine mz_Go.steps (n := 2) (k2 := (2, [some (.ref 0), some (.int x1), some (.int x2)], [.int x1, .ref 0], M)) (P := []) rfl mz_o0 ?_
  obtain ⟨r1, k1, h⟩ := h
  refine mz_Go.callV (As := [.int x1]) (rest := []) (rfl : mz_find 2 (mz_rows mq_X9_trace) = some (2, .invokevirtual 103, 3, 123, 0, 68)) (rfl : mz_nth mq_tab 123 = some mq_X9_isElement) rfl rfl rfl rfl (Nat.le_of_ble_eq_true rfl) (Nat.le_of_ble_eq_true rfl) k1 ?_
  show mq_G mq_X9_trace (5, [some (.ref 0), some (.int x1), some (.int x2)], [.int r1], M) res
  refine mz_Go.steps (n := 1) (k2 := (if r1 = 0 then 31 else 8, [some (.ref 0), some (.int x1), some (.int x2)], [], M)) (P := []) rfl mz_o0 ?_
  refine mz_Go.ite (fun c5 => ?_) (fun c5 => ?_)
  · replace h := h.1 c5
    refine mz_Go.steps (n := 1) (k2 := (32, [some (.ref 0), some (.int x1), some (.int x2)], [.int (-1)], M)) (P := []) rfl mz_o0 ?_
    rw [h]
    exact mz_Go.iret (rfl : mz_find 32 (mz_rows mq_X9_trace) = some (32, .ireturn, 1, 0, 0, 0)) rfl
  · replace h := h.2 c5
    refine mz_Go.steps (n := 3) (k2 := (13, [some (.ref 0), some (.int x1), some (.int x2)], [.int x2, .ref 2], M)) (P := []) rfl mz_o0 ?_
    obtain ⟨r3, k3, h⟩ := h
    refine mz_Go.callV (As := [.int x2]) (rest := []) (rfl : mz_find 13 (mz_rows mq_X9_trace) = some (13, .invokevirtual 137, 3, 11, 0, 83)) (rfl : mz_nth mq_tab 11 = some mq_X0_hasSubfield) rfl rfl rfl rfl (Nat.le_of_ble_eq_true rfl) (Nat.le_of_ble_eq_true rfl) k3 ?_
    show mq_G mq_X9_trace (16, [some (.ref 0), some (.int x1), some (.int x2)], [.int r3], M) res
    refine mz_Go.steps (n := 1) (k2 := (if r3 = 0 then 31 else 19, [some (.ref 0), some (.int x1), some (.int x2)], [], M)) (P := []) rfl mz_o0 ?_
    refine mz_Go.ite (fun c16 => ?_) (fun c16 => ?_)
    · replace h := h.1 c16
      refine mz_Go.steps (n := 1) (k2 := (32, [some (.ref 0), some (.int x1), some (.int x2)], [.int (-1)], M)) (P := []) rfl mz_o0 ?_
      rw [h]
      exact mz_Go.iret (rfl : mz_find 32 (mz_rows mq_X9_trace) = some (32, .ireturn, 1, 0, 0, 0)) rfl
    · replace h := h.2 c16
      refine mz_Go.steps (n := 4) (k2 := (25, [some (.ref 0), some (.int x1), some (.int x2)], [.int x2, .int x1, .ref 2], M)) (P := []) rfl mz_o0 ?_
      obtain ⟨r5, k5, h⟩ := h
      refine mz_Go.callV (As := [.int x1, .int x2]) (rest := []) (rfl : mz_find 25 (mz_rows mq_X9_trace) = some (25, .invokevirtual 140, 3, 12, 0, 84)) (rfl : mz_nth mq_tab 12 = some mq_X0_tracedTo) rfl rfl rfl rfl (Nat.le_of_ble_eq_true rfl) (Nat.le_of_ble_eq_true rfl) k5 ?_
      show mq_G mq_X9_trace (28, [some (.ref 0), some (.int x1), some (.int x2)], [.int r5], M) res
      refine mz_Go.steps (n := 1) (k2 := (32, [some (.ref 0), some (.int x1), some (.int x2)], [.int r5], M)) (P := []) rfl mz_o0 ?_
      rw [h]
      exact mz_Go.iret (rfl : mz_find 32 (mz_rows mq_X9_trace) = some (32, .ireturn, 1, 0, 0, 0)) rfl
set_option maxRecDepth 100000 in
set_option maxHeartbeats 4000000 in
theorem t_X9_norm_0 (x1 : Int32) (x2 : Int32) (M : mz_M) {res : mz_O} (h :
    (∃ (r1 : Int32), (mq_C mq_X9_isElement [.ref 0, .int x1] M (some (.int r1), M)) ∧
    ((r1 = 0 →
      res = (some (.int (-1)), M)) ∧
    (¬ (r1 = 0) →
      (∃ (r3 : Int32), (mq_C mq_X0_hasSubfield [.ref 2, .int x2] M (some (.int r3), M)) ∧
      ((r3 = 0 →
        res = (some (.int (-1)), M)) ∧
      (¬ (r3 = 0) →
        (∃ (r5 : Int32), (mq_C mq_X0_normedTo [.ref 2, .int x1, .int x2] M (some (.int r5), M)) ∧
        res = (some (.int r5), M))))))))) :
    mq_G mq_X9_norm (0, [some (.ref 0), some (.int x1), some (.int x2)], [], M) res := by
  refine mz_Go.steps (n := 2) (k2 := (2, [some (.ref 0), some (.int x1), some (.int x2)], [.int x1, .ref 0], M)) (P := []) rfl mz_o0 ?_
  obtain ⟨r1, k1, h⟩ := h
  refine mz_Go.callV (As := [.int x1]) (rest := []) (rfl : mz_find 2 (mz_rows mq_X9_norm) = some (2, .invokevirtual 103, 3, 123, 0, 68)) (rfl : mz_nth mq_tab 123 = some mq_X9_isElement) rfl rfl rfl rfl (Nat.le_of_ble_eq_true rfl) (Nat.le_of_ble_eq_true rfl) k1 ?_
  show mq_G mq_X9_norm (5, [some (.ref 0), some (.int x1), some (.int x2)], [.int r1], M) res
  refine mz_Go.steps (n := 1) (k2 := (if r1 = 0 then 31 else 8, [some (.ref 0), some (.int x1), some (.int x2)], [], M)) (P := []) rfl mz_o0 ?_
  refine mz_Go.ite (fun c5 => ?_) (fun c5 => ?_)
  · replace h := h.1 c5
    refine mz_Go.steps (n := 1) (k2 := (32, [some (.ref 0), some (.int x1), some (.int x2)], [.int (-1)], M)) (P := []) rfl mz_o0 ?_
    rw [h]
    exact mz_Go.iret (rfl : mz_find 32 (mz_rows mq_X9_norm) = some (32, .ireturn, 1, 0, 0, 0)) rfl
  · replace h := h.2 c5
    refine mz_Go.steps (n := 3) (k2 := (13, [some (.ref 0), some (.int x1), some (.int x2)], [.int x2, .ref 2], M)) (P := []) rfl mz_o0 ?_
    obtain ⟨r3, k3, h⟩ := h
    refine mz_Go.callV (As := [.int x2]) (rest := []) (rfl : mz_find 13 (mz_rows mq_X9_norm) = some (13, .invokevirtual 137, 3, 11, 0, 83)) (rfl : mz_nth mq_tab 11 = some mq_X0_hasSubfield) rfl rfl rfl rfl (Nat.le_of_ble_eq_true rfl) (Nat.le_of_ble_eq_true rfl) k3 ?_
    show mq_G mq_X9_norm (16, [some (.ref 0), some (.int x1), some (.int x2)], [.int r3], M) res
    refine mz_Go.steps (n := 1) (k2 := (if r3 = 0 then 31 else 19, [some (.ref 0), some (.int x1), some (.int x2)], [], M)) (P := []) rfl mz_o0 ?_
    refine mz_Go.ite (fun c16 => ?_) (fun c16 => ?_)
    · replace h := h.1 c16
      refine mz_Go.steps (n := 1) (k2 := (32, [some (.ref 0), some (.int x1), some (.int x2)], [.int (-1)], M)) (P := []) rfl mz_o0 ?_
      rw [h]
      exact mz_Go.iret (rfl : mz_find 32 (mz_rows mq_X9_norm) = some (32, .ireturn, 1, 0, 0, 0)) rfl
    · replace h := h.2 c16
      refine mz_Go.steps (n := 4) (k2 := (25, [some (.ref 0), some (.int x1), some (.int x2)], [.int x2, .int x1, .ref 2], M)) (P := []) rfl mz_o0 ?_
      obtain ⟨r5, k5, h⟩ := h
      refine mz_Go.callV (As := [.int x1, .int x2]) (rest := []) (rfl : mz_find 25 (mz_rows mq_X9_norm) = some (25, .invokevirtual 143, 3, 14, 0, 85)) (rfl : mz_nth mq_tab 14 = some mq_X0_normedTo) rfl rfl rfl rfl (Nat.le_of_ble_eq_true rfl) (Nat.le_of_ble_eq_true rfl) k5 ?_
      show mq_G mq_X9_norm (28, [some (.ref 0), some (.int x1), some (.int x2)], [.int r5], M) res
      refine mz_Go.steps (n := 1) (k2 := (32, [some (.ref 0), some (.int x1), some (.int x2)], [.int r5], M)) (P := []) rfl mz_o0 ?_
      rw [h]
      exact mz_Go.iret (rfl : mz_find 32 (mz_rows mq_X9_norm) = some (32, .ireturn, 1, 0, 0, 0)) rfl
set_option maxRecDepth 100000 in
set_option maxHeartbeats 4000000 in
theorem t_X9_root_0 (x1 : Int32) (M : mz_M) {res : mz_O} (h :
    (∃ (r1 : Int32), (mq_C mq_X9_isElement [.ref 0, .int x1] M (some (.int r1), M)) ∧
    ((r1 = 0 →
      res = (some (.int (-1)), M)) ∧
    (¬ (r1 = 0) →
      (∃ (r3 : Int32), (mq_C mq_X0_squared [.ref 2, .int x1, .int ((M.1 2 1) - 1)] M (some (.int r3), M)) ∧
      res = (some (.int r3), M)))))) :
    mq_G mq_X9_root (0, [some (.ref 0), some (.int x1)], [], M) res := by
  refine mz_Go.steps (n := 2) (k2 := (2, [some (.ref 0), some (.int x1)], [.int x1, .ref 0], M)) (P := []) rfl mz_o0 ?_
  obtain ⟨r1, k1, h⟩ := h
  refine mz_Go.callV (As := [.int x1]) (rest := []) (rfl : mz_find 2 (mz_rows mq_X9_root) = some (2, .invokevirtual 103, 3, 123, 0, 68)) (rfl : mz_nth mq_tab 123 = some mq_X9_isElement) rfl rfl rfl rfl (Nat.le_of_ble_eq_true rfl) (Nat.le_of_ble_eq_true rfl) k1 ?_
  show mq_G mq_X9_root (5, [some (.ref 0), some (.int x1)], [.int r1], M) res
  refine mz_Go.steps (n := 1) (k2 := (if r1 = 0 then 28 else 8, [some (.ref 0), some (.int x1)], [], M)) (P := []) rfl mz_o0 ?_
  refine mz_Go.ite (fun c5 => ?_) (fun c5 => ?_)
  · replace h := h.1 c5
    refine mz_Go.steps (n := 1) (k2 := (29, [some (.ref 0), some (.int x1)], [.int (-1)], M)) (P := []) rfl mz_o0 ?_
    rw [h]
    exact mz_Go.iret (rfl : mz_find 29 (mz_rows mq_X9_root) = some (29, .ireturn, 1, 0, 0, 0)) rfl
  · replace h := h.2 c5
    refine mz_Go.steps (n := 8) (k2 := (22, [some (.ref 0), some (.int x1)], [.int ((M.1 2 1) - 1), .int x1, .ref 2], M)) (P := []) rfl mz_o0 ?_
    obtain ⟨r3, k3, h⟩ := h
    refine mz_Go.callV (As := [.int x1, .int ((M.1 2 1) - 1)]) (rest := []) (rfl : mz_find 22 (mz_rows mq_X9_root) = some (22, .invokevirtual 128, 3, 6, 0, 79)) (rfl : mz_nth mq_tab 6 = some mq_X0_squared) rfl rfl rfl rfl (Nat.le_of_ble_eq_true rfl) (Nat.le_of_ble_eq_true rfl) k3 ?_
    show mq_G mq_X9_root (25, [some (.ref 0), some (.int x1)], [.int r3], M) res
    refine mz_Go.steps (n := 1) (k2 := (29, [some (.ref 0), some (.int x1)], [.int r3], M)) (P := []) rfl mz_o0 ?_
    rw [h]
    exact mz_Go.iret (rfl : mz_find 29 (mz_rows mq_X9_root) = some (29, .ireturn, 1, 0, 0, 0)) rfl
set_option maxRecDepth 100000 in
set_option maxHeartbeats 4000000 in
theorem t_X9_solves_0 (x1 : Int32) (M : mz_M) {res : mz_O} (h :
    (∃ (r1 : Int32), (mq_C mq_X9_isElement [.ref 0, .int x1] M (some (.int r1), M)) ∧
    ((¬ r1 = 0 →
      mq_G mq_X9_solves (12, [some (.ref 0), some (.int x1), some (.int 0)], [], M) res) ∧
    (¬ (¬ r1 = 0) →
      res = (some (.int (-1)), M))))) :
    mq_G mq_X9_solves (0, [some (.ref 0), some (.int x1), none], [], M) res := by
  refine mz_Go.steps (n := 2) (k2 := (2, [some (.ref 0), some (.int x1), none], [.int x1, .ref 0], M)) (P := []) rfl mz_o0 ?_
  obtain ⟨r1, k1, h⟩ := h
  refine mz_Go.callV (As := [.int x1]) (rest := []) (rfl : mz_find 2 (mz_rows mq_X9_solves) = some (2, .invokevirtual 103, 3, 123, 0, 68)) (rfl : mz_nth mq_tab 123 = some mq_X9_isElement) rfl rfl rfl rfl (Nat.le_of_ble_eq_true rfl) (Nat.le_of_ble_eq_true rfl) k1 ?_
  show mq_G mq_X9_solves (5, [some (.ref 0), some (.int x1), none], [.int r1], M) res
  refine mz_Go.steps (n := 1) (k2 := (if ¬ r1 = 0 then 10 else 8, [some (.ref 0), some (.int x1), none], [], M)) (P := []) rfl mz_o0 ?_
  refine mz_Go.ite (fun c5 => ?_) (fun c5 => ?_)
  · replace h := h.1 c5
    refine mz_Go.steps (n := 2) (k2 := (12, [some (.ref 0), some (.int x1), some (.int 0)], [], M)) (P := []) rfl mz_o0 ?_
    exact h
  · replace h := h.2 c5
    refine mz_Go.steps (n := 1) (k2 := (9, [some (.ref 0), some (.int x1), none], [.int (-1)], M)) (P := []) rfl mz_o0 ?_
    rw [h]
    exact mz_Go.iret (rfl : mz_find 9 (mz_rows mq_X9_solves) = some (9, .ireturn, 1, 0, 0, 0)) rfl
set_option maxRecDepth 100000 in
set_option maxHeartbeats 4000000 in
theorem t_X9_solves_12 (x1 : Int32) (x2 : Int32) (M : mz_M) {res : mz_O} (h :
    (((M.1 2 2) ≤ x2 →
      res = (some (.int (-2)), M)) ∧
    (¬ ((M.1 2 2) ≤ x2) →
      (∃ (r2 : Int32), (mq_C mq_X0_times [.ref 2, .int x2, .int x2] M (some (.int r2), M)) ∧
      ((¬ (r2 ^^^ x2) = x1 →
        mq_G mq_X9_solves (12, [some (.ref 0), some (.int x1), some (.int (x2 + 1))], [], M) res) ∧
      (¬ (¬ (r2 ^^^ x2) = x1) →
        (∃ (M4 : mz_M), (mq_C mq_X6_empties [.ref 73] M (none, M4)) ∧
        (∃ (M5 : mz_M), (mq_C mq_X6_puts [.ref 73, .long ((x2 ^^^ 1).toInt64)] M4 (none, M5)) ∧
        res = (some (.int x2), M5))))))))) :
    mq_G mq_X9_solves (12, [some (.ref 0), some (.int x1), some (.int x2)], [], M) res := by
  refine mz_Go.steps (n := 5) (k2 := (if (M.1 2 2) ≤ x2 then 64 else 23, [some (.ref 0), some (.int x1), some (.int x2)], [], M)) (P := []) rfl mz_o0 ?_
  refine mz_Go.ite (fun c20 => ?_) (fun c20 => ?_)
  · replace h := h.1 c20
    refine mz_Go.steps (n := 1) (k2 := (66, [some (.ref 0), some (.int x1), some (.int x2)], [.int (-2)], M)) (P := []) rfl mz_o0 ?_
    rw [h]
    exact mz_Go.iret (rfl : mz_find 66 (mz_rows mq_X9_solves) = some (66, .ireturn, 1, 0, 0, 0)) rfl
  · replace h := h.2 c20
    refine mz_Go.steps (n := 4) (k2 := (29, [some (.ref 0), some (.int x1), some (.int x2)], [.int x2, .int x2, .ref 2], M)) (P := []) rfl mz_o0 ?_
    obtain ⟨r2, k2, h⟩ := h
    refine mz_Go.callV (As := [.int x2, .int x2]) (rest := []) (rfl : mz_find 29 (mz_rows mq_X9_solves) = some (29, .invokevirtual 106, 3, 3, 0, 70)) (rfl : mz_nth mq_tab 3 = some mq_X0_times) rfl rfl rfl rfl (Nat.le_of_ble_eq_true rfl) (Nat.le_of_ble_eq_true rfl) k2 ?_
    show mq_G mq_X9_solves (32, [some (.ref 0), some (.int x1), some (.int x2)], [.int r2], M) res
    refine mz_Go.steps (n := 4) (k2 := (if ¬ (r2 ^^^ x2) = x1 then 58 else 38, [some (.ref 0), some (.int x1), some (.int x2)], [], M)) (P := []) rfl mz_o0 ?_
    refine mz_Go.ite (fun c35 => ?_) (fun c35 => ?_)
    · replace h := h.1 c35
      refine mz_Go.steps (n := 2) (k2 := (12, [some (.ref 0), some (.int x1), some (.int (x2 + 1))], [], M)) (P := []) rfl mz_o0 ?_
      exact h
    · replace h := h.2 c35
      refine mz_Go.steps (n := 2) (k2 := (42, [some (.ref 0), some (.int x1), some (.int x2)], [.ref 73], M)) (P := []) rfl mz_o0 ?_
      obtain ⟨M4, k4, h⟩ := h
      refine mz_Go.callV (As := []) (rest := []) (rfl : mz_find 42 (mz_rows mq_X9_solves) = some (42, .invokevirtual 120, 3, 44, 0, 76)) (rfl : mz_nth mq_tab 44 = some mq_X6_empties) rfl rfl rfl rfl (Nat.le_of_ble_eq_true rfl) (Nat.le_of_ble_eq_true rfl) k4 ?_
      show mq_G mq_X9_solves (45, [some (.ref 0), some (.int x1), some (.int x2)], [], M4) res
      refine mz_Go.steps (n := 6) (k2 := (53, [some (.ref 0), some (.int x1), some (.int x2)], [.long ((x2 ^^^ 1).toInt64), .ref 73], M4)) (P := []) rfl mz_o0 ?_
      obtain ⟨M5, k5, h⟩ := h
      refine mz_Go.callV (As := [.long ((x2 ^^^ 1).toInt64)]) (rest := []) (rfl : mz_find 53 (mz_rows mq_X9_solves) = some (53, .invokevirtual 124, 3, 45, 0, 78)) (rfl : mz_nth mq_tab 45 = some mq_X6_puts) rfl rfl rfl rfl (Nat.le_of_ble_eq_true rfl) (Nat.le_of_ble_eq_true rfl) k5 ?_
      show mq_G mq_X9_solves (56, [some (.ref 0), some (.int x1), some (.int x2)], [], M5) res
      refine mz_Go.steps (n := 1) (k2 := (57, [some (.ref 0), some (.int x1), some (.int x2)], [.int x2], M5)) (P := []) rfl mz_o0 ?_
      rw [h]
      exact mz_Go.iret (rfl : mz_find 57 (mz_rows mq_X9_solves) = some (57, .ireturn, 1, 0, 0, 0)) rfl
set_option maxRecDepth 100000 in
set_option maxHeartbeats 4000000 in
theorem t_X9_log_0 (x1 : Int32) (x2 : Int32) (M : mz_M) {res : mz_O} (h :
    (∃ (r1 : Int32), (mq_C mq_X9_isElement [.ref 0, .int x1] M (some (.int r1), M)) ∧
    ((r1 = 0 →
      res = (some (.int (-1)), M)) ∧
    (¬ (r1 = 0) →
      (∃ (r3 : Int32), (mq_C mq_X9_isElement [.ref 0, .int x2] M (some (.int r3), M)) ∧
      ((¬ r3 = 0 →
        mq_G mq_X9_log (23, [some (.ref 0), some (.int x1), some (.int x2), some (.int 1), some (.int 0)], [], M) res) ∧
      (¬ (¬ r3 = 0) →
        res = (some (.int (-1)), M)))))))) :
    mq_G mq_X9_log (0, [some (.ref 0), some (.int x1), some (.int x2), none, none], [], M) res := by
  refine mz_Go.steps (n := 2) (k2 := (2, [some (.ref 0), some (.int x1), some (.int x2), none, none], [.int x1, .ref 0], M)) (P := []) rfl mz_o0 ?_
  obtain ⟨r1, k1, h⟩ := h
  refine mz_Go.callV (As := [.int x1]) (rest := []) (rfl : mz_find 2 (mz_rows mq_X9_log) = some (2, .invokevirtual 103, 3, 123, 0, 68)) (rfl : mz_nth mq_tab 123 = some mq_X9_isElement) rfl rfl rfl rfl (Nat.le_of_ble_eq_true rfl) (Nat.le_of_ble_eq_true rfl) k1 ?_
  show mq_G mq_X9_log (5, [some (.ref 0), some (.int x1), some (.int x2), none, none], [.int r1], M) res
  refine mz_Go.steps (n := 1) (k2 := (if r1 = 0 then 16 else 8, [some (.ref 0), some (.int x1), some (.int x2), none, none], [], M)) (P := []) rfl mz_o0 ?_
  refine mz_Go.ite (fun c5 => ?_) (fun c5 => ?_)
  · replace h := h.1 c5
    refine mz_Go.steps (n := 1) (k2 := (17, [some (.ref 0), some (.int x1), some (.int x2), none, none], [.int (-1)], M)) (P := []) rfl mz_o0 ?_
    rw [h]
    exact mz_Go.iret (rfl : mz_find 17 (mz_rows mq_X9_log) = some (17, .ireturn, 1, 0, 0, 0)) rfl
  · replace h := h.2 c5
    refine mz_Go.steps (n := 2) (k2 := (10, [some (.ref 0), some (.int x1), some (.int x2), none, none], [.int x2, .ref 0], M)) (P := []) rfl mz_o0 ?_
    obtain ⟨r3, k3, h⟩ := h
    refine mz_Go.callV (As := [.int x2]) (rest := []) (rfl : mz_find 10 (mz_rows mq_X9_log) = some (10, .invokevirtual 103, 3, 123, 0, 68)) (rfl : mz_nth mq_tab 123 = some mq_X9_isElement) rfl rfl rfl rfl (Nat.le_of_ble_eq_true rfl) (Nat.le_of_ble_eq_true rfl) k3 ?_
    show mq_G mq_X9_log (13, [some (.ref 0), some (.int x1), some (.int x2), none, none], [.int r3], M) res
    refine mz_Go.steps (n := 1) (k2 := (if ¬ r3 = 0 then 18 else 16, [some (.ref 0), some (.int x1), some (.int x2), none, none], [], M)) (P := []) rfl mz_o0 ?_
    refine mz_Go.ite (fun c13 => ?_) (fun c13 => ?_)
    · replace h := h.1 c13
      refine mz_Go.steps (n := 4) (k2 := (23, [some (.ref 0), some (.int x1), some (.int x2), some (.int 1), some (.int 0)], [], M)) (P := []) rfl mz_o0 ?_
      exact h
    · replace h := h.2 c13
      refine mz_Go.steps (n := 1) (k2 := (17, [some (.ref 0), some (.int x1), some (.int x2), none, none], [.int (-1)], M)) (P := []) rfl mz_o0 ?_
      rw [h]
      exact mz_Go.iret (rfl : mz_find 17 (mz_rows mq_X9_log) = some (17, .ireturn, 1, 0, 0, 0)) rfl
set_option maxRecDepth 100000 in
set_option maxHeartbeats 4000000 in
theorem t_X9_log_23 (x1 : Int32) (x2 : Int32) (x3 : Int32) (x4 : Int32) (M : mz_M) {res : mz_O} (h :
    (((M.1 2 2) ≤ x4 →
      res = (some (.int (-2)), M)) ∧
    (¬ ((M.1 2 2) ≤ x4) →
      ((¬ x3 = x2 →
        (∃ (r3 : Int32), (mq_C mq_X0_times [.ref 2, .int x3, .int x1] M (some (.int r3), M)) ∧
        mq_G mq_X9_log (23, [some (.ref 0), some (.int x1), some (.int x2), some (.int r3), some (.int (x4 + 1))], [], M) res)) ∧
      (¬ (¬ x3 = x2) →
        res = (some (.int x4), M)))))) :
    mq_G mq_X9_log (23, [some (.ref 0), some (.int x1), some (.int x2), some (.int x3), some (.int x4)], [], M) res := by
  refine mz_Go.steps (n := 5) (k2 := (if (M.1 2 2) ≤ x4 then 59 else 35, [some (.ref 0), some (.int x1), some (.int x2), some (.int x3), some (.int x4)], [], M)) (P := []) rfl mz_o0 ?_
  refine mz_Go.ite (fun c32 => ?_) (fun c32 => ?_)
  · replace h := h.1 c32
    refine mz_Go.steps (n := 1) (k2 := (61, [some (.ref 0), some (.int x1), some (.int x2), some (.int x3), some (.int x4)], [.int (-2)], M)) (P := []) rfl mz_o0 ?_
    rw [h]
    exact mz_Go.iret (rfl : mz_find 61 (mz_rows mq_X9_log) = some (61, .ireturn, 1, 0, 0, 0)) rfl
  · replace h := h.2 c32
    refine mz_Go.steps (n := 3) (k2 := (if ¬ x3 = x2 then 43 else 40, [some (.ref 0), some (.int x1), some (.int x2), some (.int x3), some (.int x4)], [], M)) (P := []) rfl mz_o0 ?_
    refine mz_Go.ite (fun c37 => ?_) (fun c37 => ?_)
    · replace h := h.1 c37
      refine mz_Go.steps (n := 4) (k2 := (49, [some (.ref 0), some (.int x1), some (.int x2), some (.int x3), some (.int x4)], [.int x1, .int x3, .ref 2], M)) (P := []) rfl mz_o0 ?_
      obtain ⟨r3, k3, h⟩ := h
      refine mz_Go.callV (As := [.int x3, .int x1]) (rest := []) (rfl : mz_find 49 (mz_rows mq_X9_log) = some (49, .invokevirtual 106, 3, 3, 0, 70)) (rfl : mz_nth mq_tab 3 = some mq_X0_times) rfl rfl rfl rfl (Nat.le_of_ble_eq_true rfl) (Nat.le_of_ble_eq_true rfl) k3 ?_
      show mq_G mq_X9_log (52, [some (.ref 0), some (.int x1), some (.int x2), some (.int x3), some (.int x4)], [.int r3], M) res
      refine mz_Go.steps (n := 3) (k2 := (23, [some (.ref 0), some (.int x1), some (.int x2), some (.int r3), some (.int (x4 + 1))], [], M)) (P := []) rfl mz_o0 ?_
      exact h
    · replace h := h.2 c37
      refine mz_Go.steps (n := 1) (k2 := (42, [some (.ref 0), some (.int x1), some (.int x2), some (.int x3), some (.int x4)], [.int x4], M)) (P := []) rfl mz_o0 ?_
      rw [h]
      exact mz_Go.iret (rfl : mz_find 42 (mz_rows mq_X9_log) = some (42, .ireturn, 1, 0, 0, 0)) rfl
set_option maxRecDepth 100000 in
set_option maxHeartbeats 4000000 in
theorem t_X9_traced_0 (x1 : Int32) (x2 : Int32) (M : mz_M) {res : mz_O} (h :
    (∃ (r1 : Int32), (mq_C mq_X0_hasSubfield [.ref 2, .int x1] M (some (.int r1), M)) ∧
    ((r1 = 0 →
      res = (some (.int (-1)), M)) ∧
    (¬ (r1 = 0) →
      (∃ (r3 : Int32), (mq_C mq_X9_isElement [.ref 0, .int x2] M (some (.int r3), M)) ∧
      ((¬ r3 = 0 →
        mq_G mq_X9_traced (29, [some (.ref 0), some (.int x1), some (.int x2), some (.int 0), some (.int (-1)), some (.int 0)], [], M) res) ∧
      (¬ (¬ r3 = 0) →
        res = (some (.int (-1)), M)))))))) :
    mq_G mq_X9_traced (0, [some (.ref 0), some (.int x1), some (.int x2), none, none, none], [], M) res := by
  refine mz_Go.steps (n := 3) (k2 := (5, [some (.ref 0), some (.int x1), some (.int x2), none, none, none], [.int x1, .ref 2], M)) (P := []) rfl mz_o0 ?_
  obtain ⟨r1, k1, h⟩ := h
  refine mz_Go.callV (As := [.int x1]) (rest := []) (rfl : mz_find 5 (mz_rows mq_X9_traced) = some (5, .invokevirtual 137, 3, 11, 0, 83)) (rfl : mz_nth mq_tab 11 = some mq_X0_hasSubfield) rfl rfl rfl rfl (Nat.le_of_ble_eq_true rfl) (Nat.le_of_ble_eq_true rfl) k1 ?_
  show mq_G mq_X9_traced (8, [some (.ref 0), some (.int x1), some (.int x2), none, none, none], [.int r1], M) res
  refine mz_Go.steps (n := 1) (k2 := (if r1 = 0 then 19 else 11, [some (.ref 0), some (.int x1), some (.int x2), none, none, none], [], M)) (P := []) rfl mz_o0 ?_
  refine mz_Go.ite (fun c8 => ?_) (fun c8 => ?_)
  · replace h := h.1 c8
    refine mz_Go.steps (n := 1) (k2 := (20, [some (.ref 0), some (.int x1), some (.int x2), none, none, none], [.int (-1)], M)) (P := []) rfl mz_o0 ?_
    rw [h]
    exact mz_Go.iret (rfl : mz_find 20 (mz_rows mq_X9_traced) = some (20, .ireturn, 1, 0, 0, 0)) rfl
  · replace h := h.2 c8
    refine mz_Go.steps (n := 2) (k2 := (13, [some (.ref 0), some (.int x1), some (.int x2), none, none, none], [.int x2, .ref 0], M)) (P := []) rfl mz_o0 ?_
    obtain ⟨r3, k3, h⟩ := h
    refine mz_Go.callV (As := [.int x2]) (rest := []) (rfl : mz_find 13 (mz_rows mq_X9_traced) = some (13, .invokevirtual 103, 3, 123, 0, 68)) (rfl : mz_nth mq_tab 123 = some mq_X9_isElement) rfl rfl rfl rfl (Nat.le_of_ble_eq_true rfl) (Nat.le_of_ble_eq_true rfl) k3 ?_
    show mq_G mq_X9_traced (16, [some (.ref 0), some (.int x1), some (.int x2), none, none, none], [.int r3], M) res
    refine mz_Go.steps (n := 1) (k2 := (if ¬ r3 = 0 then 21 else 19, [some (.ref 0), some (.int x1), some (.int x2), none, none, none], [], M)) (P := []) rfl mz_o0 ?_
    refine mz_Go.ite (fun c16 => ?_) (fun c16 => ?_)
    · replace h := h.1 c16
      refine mz_Go.steps (n := 6) (k2 := (29, [some (.ref 0), some (.int x1), some (.int x2), some (.int 0), some (.int (-1)), some (.int 0)], [], M)) (P := []) rfl mz_o0 ?_
      exact h
    · replace h := h.2 c16
      refine mz_Go.steps (n := 1) (k2 := (20, [some (.ref 0), some (.int x1), some (.int x2), none, none, none], [.int (-1)], M)) (P := []) rfl mz_o0 ?_
      rw [h]
      exact mz_Go.iret (rfl : mz_find 20 (mz_rows mq_X9_traced) = some (20, .ireturn, 1, 0, 0, 0)) rfl
set_option maxRecDepth 100000 in
set_option maxHeartbeats 4000000 in
theorem t_X9_traced_29 (x1 : Int32) (x2 : Int32) (x3 : Int32) (x4 : Int32) (x5 : Int32) (M : mz_M) {res : mz_O} (h :
    (((M.1 2 2) ≤ x5 →
      (∃ (M2 : mz_M), (mq_C mq_X6_empties [.ref 73] M (none, M2)) ∧
      (∃ (M3 : mz_M), (mq_C mq_X6_puts [.ref 73, .long (x4.toInt64)] M2 (none, M3)) ∧
      res = (some (.int x3), M3)))) ∧
    (¬ ((M.1 2 2) ≤ x5) →
      (∃ (r4 : Int32), (mq_C mq_X0_tracedTo [.ref 2, .int x5, .int x1] M (some (.int r4), M)) ∧
      ((¬ r4 = x2 →
        mq_G mq_X9_traced (29, [some (.ref 0), some (.int x1), some (.int x2), some (.int x3), some (.int x4), some (.int (x5 + 1))], [], M) res) ∧
      (¬ (¬ r4 = x2) →
        ((¬ x4 = (-1) →
          mq_G mq_X9_traced (29, [some (.ref 0), some (.int x1), some (.int x2), some (.int (x3 + 1)), some (.int x4), some (.int (x5 + 1))], [], M) res) ∧
        (¬ (¬ x4 = (-1)) →
          mq_G mq_X9_traced (29, [some (.ref 0), some (.int x1), some (.int x2), some (.int (x3 + 1)), some (.int x5), some (.int (x5 + 1))], [], M) res)))))))) :
    mq_G mq_X9_traced (29, [some (.ref 0), some (.int x1), some (.int x2), some (.int x3), some (.int x4), some (.int x5)], [], M) res := by
  refine mz_Go.steps (n := 5) (k2 := (if (M.1 2 2) ≤ x5 then 79 else 41, [some (.ref 0), some (.int x1), some (.int x2), some (.int x3), some (.int x4), some (.int x5)], [], M)) (P := []) rfl mz_o0 ?_
  refine mz_Go.ite (fun c38 => ?_) (fun c38 => ?_)
  · replace h := h.1 c38
    refine mz_Go.steps (n := 2) (k2 := (83, [some (.ref 0), some (.int x1), some (.int x2), some (.int x3), some (.int x4), some (.int x5)], [.ref 73], M)) (P := []) rfl mz_o0 ?_
    obtain ⟨M2, k2, h⟩ := h
    refine mz_Go.callV (As := []) (rest := []) (rfl : mz_find 83 (mz_rows mq_X9_traced) = some (83, .invokevirtual 120, 3, 44, 0, 76)) (rfl : mz_nth mq_tab 44 = some mq_X6_empties) rfl rfl rfl rfl (Nat.le_of_ble_eq_true rfl) (Nat.le_of_ble_eq_true rfl) k2 ?_
    show mq_G mq_X9_traced (86, [some (.ref 0), some (.int x1), some (.int x2), some (.int x3), some (.int x4), some (.int x5)], [], M2) res
    refine mz_Go.steps (n := 4) (k2 := (93, [some (.ref 0), some (.int x1), some (.int x2), some (.int x3), some (.int x4), some (.int x5)], [.long (x4.toInt64), .ref 73], M2)) (P := []) rfl mz_o0 ?_
    obtain ⟨M3, k3, h⟩ := h
    refine mz_Go.callV (As := [.long (x4.toInt64)]) (rest := []) (rfl : mz_find 93 (mz_rows mq_X9_traced) = some (93, .invokevirtual 124, 3, 45, 0, 78)) (rfl : mz_nth mq_tab 45 = some mq_X6_puts) rfl rfl rfl rfl (Nat.le_of_ble_eq_true rfl) (Nat.le_of_ble_eq_true rfl) k3 ?_
    show mq_G mq_X9_traced (96, [some (.ref 0), some (.int x1), some (.int x2), some (.int x3), some (.int x4), some (.int x5)], [], M3) res
    refine mz_Go.steps (n := 1) (k2 := (97, [some (.ref 0), some (.int x1), some (.int x2), some (.int x3), some (.int x4), some (.int x5)], [.int x3], M3)) (P := []) rfl mz_o0 ?_
    rw [h]
    exact mz_Go.iret (rfl : mz_find 97 (mz_rows mq_X9_traced) = some (97, .ireturn, 1, 0, 0, 0)) rfl
  · replace h := h.2 c38
    refine mz_Go.steps (n := 4) (k2 := (48, [some (.ref 0), some (.int x1), some (.int x2), some (.int x3), some (.int x4), some (.int x5)], [.int x1, .int x5, .ref 2], M)) (P := []) rfl mz_o0 ?_
    obtain ⟨r4, k4, h⟩ := h
    refine mz_Go.callV (As := [.int x5, .int x1]) (rest := []) (rfl : mz_find 48 (mz_rows mq_X9_traced) = some (48, .invokevirtual 140, 3, 12, 0, 84)) (rfl : mz_nth mq_tab 12 = some mq_X0_tracedTo) rfl rfl rfl rfl (Nat.le_of_ble_eq_true rfl) (Nat.le_of_ble_eq_true rfl) k4 ?_
    show mq_G mq_X9_traced (51, [some (.ref 0), some (.int x1), some (.int x2), some (.int x3), some (.int x4), some (.int x5)], [.int r4], M) res
    refine mz_Go.steps (n := 2) (k2 := (if ¬ r4 = x2 then 73 else 55, [some (.ref 0), some (.int x1), some (.int x2), some (.int x3), some (.int x4), some (.int x5)], [], M)) (P := []) rfl mz_o0 ?_
    refine mz_Go.ite (fun c52 => ?_) (fun c52 => ?_)
    · replace h := h.1 c52
      refine mz_Go.steps (n := 2) (k2 := (29, [some (.ref 0), some (.int x1), some (.int x2), some (.int x3), some (.int x4), some (.int (x5 + 1))], [], M)) (P := []) rfl mz_o0 ?_
      exact h
    · replace h := h.2 c52
      refine mz_Go.steps (n := 4) (k2 := (if ¬ x4 = (-1) then 69 else 64, [some (.ref 0), some (.int x1), some (.int x2), some (.int (x3 + 1)), some (.int x4), some (.int x5)], [], M)) (P := []) rfl mz_o0 ?_
      refine mz_Go.ite (fun c61 => ?_) (fun c61 => ?_)
      · replace h := h.1 c61
        refine mz_Go.steps (n := 4) (k2 := (29, [some (.ref 0), some (.int x1), some (.int x2), some (.int (x3 + 1)), some (.int x4), some (.int (x5 + 1))], [], M)) (P := []) rfl mz_o0 ?_
        exact h
      · replace h := h.2 c61
        refine mz_Go.steps (n := 5) (k2 := (29, [some (.ref 0), some (.int x1), some (.int x2), some (.int (x3 + 1)), some (.int x5), some (.int (x5 + 1))], [], M)) (P := []) rfl mz_o0 ?_
        exact h
set_option maxRecDepth 100000 in
set_option maxHeartbeats 4000000 in
theorem t_X9_factors_0 (x1 : Int32) (M : mz_M) {res : mz_O} (h :
    ((x1 < 2 →
      res = (some (.int (-1)), M)) ∧
    (¬ (x1 < 2) →
      ((x1 ≤ 1023 →
        (∃ (M3 : mz_M), (mq_C mq_X6_empties [.ref 73] M (none, M3)) ∧
        mq_G mq_X9_factors (28, [some (.ref 0), some (.int x1), some (.int (-1)), some (.int x1), some (.int 2), none, none], [], M3) res)) ∧
      (¬ (x1 ≤ 1023) →
        res = (some (.int (-1)), M)))))) :
    mq_G mq_X9_factors (0, [some (.ref 0), some (.int x1), none, none, none, none, none], [], M) res := by
  refine mz_Go.steps (n := 3) (k2 := (if x1 < 2 then 12 else 5, [some (.ref 0), some (.int x1), none, none, none, none, none], [], M)) (P := []) rfl mz_o0 ?_
  refine mz_Go.ite (fun c2 => ?_) (fun c2 => ?_)
  · replace h := h.1 c2
    refine mz_Go.steps (n := 1) (k2 := (13, [some (.ref 0), some (.int x1), none, none, none, none, none], [.int (-1)], M)) (P := []) rfl mz_o0 ?_
    rw [h]
    exact mz_Go.iret (rfl : mz_find 13 (mz_rows mq_X9_factors) = some (13, .ireturn, 1, 0, 0, 0)) rfl
  · replace h := h.2 c2
    refine mz_Go.steps (n := 3) (k2 := (if x1 ≤ 1023 then 14 else 12, [some (.ref 0), some (.int x1), none, none, none, none, none], [], M)) (P := []) rfl mz_o0 ?_
    refine mz_Go.ite (fun c9 => ?_) (fun c9 => ?_)
    · replace h := h.1 c9
      refine mz_Go.steps (n := 2) (k2 := (18, [some (.ref 0), some (.int x1), none, none, none, none, none], [.ref 73], M)) (P := []) rfl mz_o0 ?_
      obtain ⟨M3, k3, h⟩ := h
      refine mz_Go.callV (As := []) (rest := []) (rfl : mz_find 18 (mz_rows mq_X9_factors) = some (18, .invokevirtual 120, 3, 44, 0, 76)) (rfl : mz_nth mq_tab 44 = some mq_X6_empties) rfl rfl rfl rfl (Nat.le_of_ble_eq_true rfl) (Nat.le_of_ble_eq_true rfl) k3 ?_
      show mq_G mq_X9_factors (21, [some (.ref 0), some (.int x1), none, none, none, none, none], [], M3) res
      refine mz_Go.steps (n := 6) (k2 := (28, [some (.ref 0), some (.int x1), some (.int (-1)), some (.int x1), some (.int 2), none, none], [], M3)) (P := []) rfl mz_o0 ?_
      exact h
    · replace h := h.2 c9
      refine mz_Go.steps (n := 1) (k2 := (13, [some (.ref 0), some (.int x1), none, none, none, none, none], [.int (-1)], M)) (P := []) rfl mz_o0 ?_
      rw [h]
      exact mz_Go.iret (rfl : mz_find 13 (mz_rows mq_X9_factors) = some (13, .ireturn, 1, 0, 0, 0)) rfl
set_option maxRecDepth 100000 in
set_option maxHeartbeats 4000000 in
theorem t_X9_factors_28 (o1 : Option Value) (x2 : Int32) (x3 : Int32) (x4 : Int32) (o5 : Option Value) (o6 : Option Value) (M : mz_M) {res : mz_O} (h :
    ((1023 < x4 →
      res = (some (.int x2), M)) ∧
    (¬ (1023 < x4) →
      ((x3 ≤ 1 →
        res = (some (.int x2), M)) ∧
      (¬ (x3 ≤ 1) →
        (∃ (r3 : Int32), (mq_C mq_X4_degreeOf [.int x4] M (some (.int r3), M)) ∧
        (∃ (r4 : Int32), (mq_C mq_X4_degreeOf [.int x3] M (some (.int r4), M)) ∧
        (((2 * r3) ≤ r4 →
          mq_G mq_X9_factors (66, [some (.ref 0), o1, some (.int x2), some (.int x3), some (.int x4), some (.int x4), some (.int 0)], [], M) res) ∧
        (¬ ((2 * r3) ≤ r4) →
          mq_G mq_X9_factors (66, [some (.ref 0), o1, some (.int x2), some (.int x3), some (.int x4), some (.int x3), some (.int 0)], [], M) res))))))))) :
    mq_G mq_X9_factors (28, [some (.ref 0), o1, some (.int x2), some (.int x3), some (.int x4), o5, o6], [], M) res := by
  refine mz_Go.steps (n := 3) (k2 := (if 1023 < x4 then 128 else 36, [some (.ref 0), o1, some (.int x2), some (.int x3), some (.int x4), o5, o6], [], M)) (P := []) rfl mz_o0 ?_
  refine mz_Go.ite (fun c33 => ?_) (fun c33 => ?_)
  · replace h := h.1 c33
    refine mz_Go.steps (n := 1) (k2 := (129, [some (.ref 0), o1, some (.int x2), some (.int x3), some (.int x4), o5, o6], [.int x2], M)) (P := []) rfl mz_o0 ?_
    rw [h]
    exact mz_Go.iret (rfl : mz_find 129 (mz_rows mq_X9_factors) = some (129, .ireturn, 1, 0, 0, 0)) rfl
  · replace h := h.2 c33
    refine mz_Go.steps (n := 3) (k2 := (if x3 ≤ 1 then 128 else 41, [some (.ref 0), o1, some (.int x2), some (.int x3), some (.int x4), o5, o6], [], M)) (P := []) rfl mz_o0 ?_
    refine mz_Go.ite (fun c38 => ?_) (fun c38 => ?_)
    · replace h := h.1 c38
      refine mz_Go.steps (n := 1) (k2 := (129, [some (.ref 0), o1, some (.int x2), some (.int x3), some (.int x4), o5, o6], [.int x2], M)) (P := []) rfl mz_o0 ?_
      rw [h]
      exact mz_Go.iret (rfl : mz_find 129 (mz_rows mq_X9_factors) = some (129, .ireturn, 1, 0, 0, 0)) rfl
    · replace h := h.2 c38
      refine mz_Go.steps (n := 2) (k2 := (44, [some (.ref 0), o1, some (.int x2), some (.int x3), some (.int x4), o5, o6], [.int x4, .int 2], M)) (P := []) rfl mz_o0 ?_
      obtain ⟨r3, k3, h⟩ := h
      refine mz_Go.callS (As := [.int x4]) (rest := [.int 2]) (rfl : mz_find 44 (mz_rows mq_X9_factors) = some (44, .invokestatic 100, 3, 37, 0, 67)) (rfl : mz_nth mq_tab 37 = some mq_X4_degreeOf) (by decide) rfl rfl rfl (Nat.le_of_ble_eq_true rfl) (Nat.le_of_ble_eq_true rfl) k3 ?_
      show mq_G mq_X9_factors (47, [some (.ref 0), o1, some (.int x2), some (.int x3), some (.int x4), o5, o6], [.int r3, .int 2], M) res
      refine mz_Go.steps (n := 2) (k2 := (49, [some (.ref 0), o1, some (.int x2), some (.int x3), some (.int x4), o5, o6], [.int x3, .int (2 * r3)], M)) (P := []) rfl mz_o0 ?_
      obtain ⟨r4, k4, h⟩ := h
      refine mz_Go.callS (As := [.int x3]) (rest := [.int (2 * r3)]) (rfl : mz_find 49 (mz_rows mq_X9_factors) = some (49, .invokestatic 100, 3, 37, 0, 67)) (rfl : mz_nth mq_tab 37 = some mq_X4_degreeOf) (by decide) rfl rfl rfl (Nat.le_of_ble_eq_true rfl) (Nat.le_of_ble_eq_true rfl) k4 ?_
      show mq_G mq_X9_factors (52, [some (.ref 0), o1, some (.int x2), some (.int x3), some (.int x4), o5, o6], [.int r4, .int (2 * r3)], M) res
      refine mz_Go.steps (n := 1) (k2 := (if (2 * r3) ≤ r4 then 59 else 55, [some (.ref 0), o1, some (.int x2), some (.int x3), some (.int x4), o5, o6], [], M)) (P := []) rfl mz_o0 ?_
      refine mz_Go.ite (fun c52 => ?_) (fun c52 => ?_)
      · replace h := h.1 c52
        refine mz_Go.steps (n := 4) (k2 := (66, [some (.ref 0), o1, some (.int x2), some (.int x3), some (.int x4), some (.int x4), some (.int 0)], [], M)) (P := []) rfl mz_o0 ?_
        exact h
      · replace h := h.2 c52
        refine mz_Go.steps (n := 5) (k2 := (66, [some (.ref 0), o1, some (.int x2), some (.int x3), some (.int x4), some (.int x3), some (.int 0)], [], M)) (P := []) rfl mz_o0 ?_
        exact h
set_option maxRecDepth 100000 in
set_option maxHeartbeats 4000000 in
theorem t_X9_factors_66 (o1 : Option Value) (x2 : Int32) (x3 : Int32) (x4 : Int32) (x5 : Int32) (x6 : Int32) (M : mz_M) {res : mz_O} (h :
    ((10 ≤ x6 →
      mq_G mq_X9_factors (28, [some (.ref 0), o1, some (.int x2), some (.int x3), some (.int (x4 + 1)), some (.int x5), some (.int x6)], [], M) res) ∧
    (¬ (10 ≤ x6) →
      ((x3 ≤ 1 →
        mq_G mq_X9_factors (28, [some (.ref 0), o1, some (.int x2), some (.int x3), some (.int (x4 + 1)), some (.int x5), some (.int x6)], [], M) res) ∧
      (¬ (x3 ≤ 1) →
        (∃ (r3 : Int32), (mq_C mq_X4_remainder [.int x3, .int x5] M (some (.int r3), M)) ∧
        ((¬ r3 = 0 →
          mq_G mq_X9_factors (28, [some (.ref 0), o1, some (.int x2), some (.int x3), some (.int (x4 + 1)), some (.int x5), some (.int x6)], [], M) res) ∧
        (¬ (¬ r3 = 0) →
          (∃ (M5 : mz_M), (mq_C mq_X6_puts [.ref 73, .long (x5.toInt64)] M (none, M5)) ∧
          ((¬ x2 = (-1) →
            (∃ (r7 : Int32), (mq_C mq_X4_quotient [.int x3, .int x5] M5 (some (.int r7), M5)) ∧
            mq_G mq_X9_factors (66, [some (.ref 0), (mz_nw o1), some (.int x2), some (.int r7), some (.int x4), some (.int x5), some (.int (x6 + 1))], [], M5) res)) ∧
          (¬ (¬ x2 = (-1)) →
            (∃ (r8 : Int32), (mq_C mq_X4_quotient [.int x3, .int x5] M5 (some (.int r8), M5)) ∧
            mq_G mq_X9_factors (66, [some (.ref 0), (mz_nw o1), some (.int x5), some (.int r8), some (.int x4), some (.int x5), some (.int (x6 + 1))], [], M5) res)))))))))))) :
    mq_G mq_X9_factors (66, [some (.ref 0), o1, some (.int x2), some (.int x3), some (.int x4), some (.int x5), some (.int x6)], [], M) res := by
  refine mz_Go.steps (n := 3) (k2 := (if 10 ≤ x6 then 122 else 73, [some (.ref 0), o1, some (.int x2), some (.int x3), some (.int x4), some (.int x5), some (.int x6)], [], M)) (P := []) rfl mz_o0 ?_
  refine mz_Go.ite (fun c70 => ?_) (fun c70 => ?_)
  · replace h := h.1 c70
    refine mz_Go.steps (n := 2) (k2 := (28, [some (.ref 0), o1, some (.int x2), some (.int x3), some (.int (x4 + 1)), some (.int x5), some (.int x6)], [], M)) (P := []) rfl mz_o0 ?_
    exact h
  · replace h := h.2 c70
    refine mz_Go.steps (n := 3) (k2 := (if x3 ≤ 1 then 122 else 78, [some (.ref 0), o1, some (.int x2), some (.int x3), some (.int x4), some (.int x5), some (.int x6)], [], M)) (P := []) rfl mz_o0 ?_
    refine mz_Go.ite (fun c75 => ?_) (fun c75 => ?_)
    · replace h := h.1 c75
      refine mz_Go.steps (n := 2) (k2 := (28, [some (.ref 0), o1, some (.int x2), some (.int x3), some (.int (x4 + 1)), some (.int x5), some (.int x6)], [], M)) (P := []) rfl mz_o0 ?_
      exact h
    · replace h := h.2 c75
      refine mz_Go.steps (n := 2) (k2 := (81, [some (.ref 0), o1, some (.int x2), some (.int x3), some (.int x4), some (.int x5), some (.int x6)], [.int x5, .int x3], M)) (P := []) rfl mz_o0 ?_
      obtain ⟨r3, k3, h⟩ := h
      refine mz_Go.callS (As := [.int x3, .int x5]) (rest := []) (rfl : mz_find 81 (mz_rows mq_X9_factors) = some (81, .invokestatic 149, 3, 38, 0, 87)) (rfl : mz_nth mq_tab 38 = some mq_X4_remainder) (by decide) rfl rfl rfl (Nat.le_of_ble_eq_true rfl) (Nat.le_of_ble_eq_true rfl) k3 ?_
      show mq_G mq_X9_factors (84, [some (.ref 0), o1, some (.int x2), some (.int x3), some (.int x4), some (.int x5), some (.int x6)], [.int r3], M) res
      refine mz_Go.steps (n := 1) (k2 := (if ¬ r3 = 0 then 122 else 87, [some (.ref 0), o1, some (.int x2), some (.int x3), some (.int x4), some (.int x5), some (.int x6)], [], M)) (P := []) rfl mz_o0 ?_
      refine mz_Go.ite (fun c84 => ?_) (fun c84 => ?_)
      · replace h := h.1 c84
        refine mz_Go.steps (n := 2) (k2 := (28, [some (.ref 0), o1, some (.int x2), some (.int x3), some (.int (x4 + 1)), some (.int x5), some (.int x6)], [], M)) (P := []) rfl mz_o0 ?_
        exact h
      · replace h := h.2 c84
        refine mz_Go.steps (n := 4) (k2 := (94, [some (.ref 0), o1, some (.int x2), some (.int x3), some (.int x4), some (.int x5), some (.int x6)], [.long (x5.toInt64), .ref 73], M)) (P := []) rfl mz_o0 ?_
        obtain ⟨M5, k5, h⟩ := h
        refine mz_Go.callV (As := [.long (x5.toInt64)]) (rest := []) (rfl : mz_find 94 (mz_rows mq_X9_factors) = some (94, .invokevirtual 124, 3, 45, 0, 78)) (rfl : mz_nth mq_tab 45 = some mq_X6_puts) rfl rfl rfl rfl (Nat.le_of_ble_eq_true rfl) (Nat.le_of_ble_eq_true rfl) k5 ?_
        show mq_G mq_X9_factors (97, [some (.ref 0), o1, some (.int x2), some (.int x3), some (.int x4), some (.int x5), some (.int x6)], [], M5) res
        refine mz_Go.steps (n := 3) (k2 := (if ¬ x2 = (-1) then 107 else 102, [some (.ref 0), o1, some (.int x2), some (.int x3), some (.int x4), some (.int x5), some (.int x6)], [], M5)) (P := []) rfl mz_o0 ?_
        refine mz_Go.ite (fun c99 => ?_) (fun c99 => ?_)
        · replace h := h.1 c99
          refine mz_Go.steps (n := 4) (k2 := (112, [some (.ref 0), (mz_nw o1), some (.int x2), some (.int x3), some (.int x4), some (.int x5), some (.int x6)], [.int x5, .int x3], M5)) (P := []) rfl mz_o0 ?_
          obtain ⟨r7, k7, h⟩ := h
          refine mz_Go.callS (As := [.int x3, .int x5]) (rest := []) (rfl : mz_find 112 (mz_rows mq_X9_factors) = some (112, .invokestatic 152, 3, 39, 0, 88)) (rfl : mz_nth mq_tab 39 = some mq_X4_quotient) (by decide) rfl rfl rfl (Nat.le_of_ble_eq_true rfl) (Nat.le_of_ble_eq_true rfl) k7 ?_
          show mq_G mq_X9_factors (115, [some (.ref 0), (mz_nw o1), some (.int x2), some (.int x3), some (.int x4), some (.int x5), some (.int x6)], [.int r7], M5) res
          refine mz_Go.steps (n := 3) (k2 := (66, [some (.ref 0), (mz_nw o1), some (.int x2), some (.int r7), some (.int x4), some (.int x5), some (.int (x6 + 1))], [], M5)) (P := []) rfl mz_o0 ?_
          exact h
        · replace h := h.2 c99
          refine mz_Go.steps (n := 5) (k2 := (112, [some (.ref 0), (mz_nw o1), some (.int x5), some (.int x3), some (.int x4), some (.int x5), some (.int x6)], [.int x5, .int x3], M5)) (P := []) rfl mz_o0 ?_
          obtain ⟨r8, k8, h⟩ := h
          refine mz_Go.callS (As := [.int x3, .int x5]) (rest := []) (rfl : mz_find 112 (mz_rows mq_X9_factors) = some (112, .invokestatic 152, 3, 39, 0, 88)) (rfl : mz_nth mq_tab 39 = some mq_X4_quotient) (by decide) rfl rfl rfl (Nat.le_of_ble_eq_true rfl) (Nat.le_of_ble_eq_true rfl) k8 ?_
          show mq_G mq_X9_factors (115, [some (.ref 0), (mz_nw o1), some (.int x5), some (.int x3), some (.int x4), some (.int x5), some (.int x6)], [.int r8], M5) res
          refine mz_Go.steps (n := 3) (k2 := (66, [some (.ref 0), (mz_nw o1), some (.int x5), some (.int r8), some (.int x4), some (.int x5), some (.int (x6 + 1))], [], M5)) (P := []) rfl mz_o0 ?_
          exact h
set_option maxRecDepth 100000 in
set_option maxHeartbeats 4000000 in
theorem t_X9_orders_0 (M : mz_M) {res : mz_O} (h :
    (∃ (M1 : mz_M), (mq_C mq_X6_empties [.ref 73] M (none, M1)) ∧
    mq_G mq_X9_orders (11, [some (.ref 0), some (.int 0), some (.int 1), none], [], M1) res)) :
    mq_G mq_X9_orders (0, [some (.ref 0), none, none, none], [], M) res := by
  refine mz_Go.steps (n := 4) (k2 := (6, [some (.ref 0), some (.int 0), none, none], [.ref 73], M)) (P := []) rfl mz_o0 ?_
  obtain ⟨M1, k1, h⟩ := h
  refine mz_Go.callV (As := []) (rest := []) (rfl : mz_find 6 (mz_rows mq_X9_orders) = some (6, .invokevirtual 120, 3, 44, 0, 76)) (rfl : mz_nth mq_tab 44 = some mq_X6_empties) rfl rfl rfl rfl (Nat.le_of_ble_eq_true rfl) (Nat.le_of_ble_eq_true rfl) k1 ?_
  show mq_G mq_X9_orders (9, [some (.ref 0), some (.int 0), none, none], [], M1) res
  refine mz_Go.steps (n := 2) (k2 := (11, [some (.ref 0), some (.int 0), some (.int 1), none], [], M1)) (P := []) rfl mz_o0 ?_
  exact h
set_option maxRecDepth 100000 in
set_option maxHeartbeats 4000000 in
theorem t_X9_orders_11 (x1 : Int32) (x2 : Int32) (o3 : Option Value) (M : mz_M) {res : mz_O} (h :
    (((M.1 2 2) ≤ x2 →
      res = (some (.int x1), M)) ∧
    (¬ ((M.1 2 2) ≤ x2) →
      (∃ (r2 : Int32), (mq_C mq_X0_howManyOfOrder [.ref 2, .int x2] M (some (.int r2), M)) ∧
      ((r2 ≤ 0 →
        mq_G mq_X9_orders (11, [some (.ref 0), some (.int x1), some (.int (x2 + 1)), some (.int r2)], [], M) res) ∧
      (¬ (r2 ≤ 0) →
        (∃ (M4 : mz_M), (mq_C mq_X6_puts [.ref 73, .long (x2.toInt64)] M (none, M4)) ∧
        (∃ (M5 : mz_M), (mq_C mq_X6_puts [.ref 73, .long (r2.toInt64)] M4 (none, M5)) ∧
        mq_G mq_X9_orders (11, [some (.ref 0), some (.int (x1 + 1)), some (.int (x2 + 1)), some (.int r2)], [], M5) res)))))))) :
    mq_G mq_X9_orders (11, [some (.ref 0), some (.int x1), some (.int x2), o3], [], M) res := by
  refine mz_Go.steps (n := 5) (k2 := (if (M.1 2 2) ≤ x2 then 62 else 22, [some (.ref 0), some (.int x1), some (.int x2), o3], [], M)) (P := []) rfl mz_o0 ?_
  refine mz_Go.ite (fun c19 => ?_) (fun c19 => ?_)
  · replace h := h.1 c19
    refine mz_Go.steps (n := 1) (k2 := (63, [some (.ref 0), some (.int x1), some (.int x2), o3], [.int x1], M)) (P := []) rfl mz_o0 ?_
    rw [h]
    exact mz_Go.iret (rfl : mz_find 63 (mz_rows mq_X9_orders) = some (63, .ireturn, 1, 0, 0, 0)) rfl
  · replace h := h.2 c19
    refine mz_Go.steps (n := 3) (k2 := (27, [some (.ref 0), some (.int x1), some (.int x2), o3], [.int x2, .ref 2], M)) (P := []) rfl mz_o0 ?_
    obtain ⟨r2, k2, h⟩ := h
    refine mz_Go.callV (As := [.int x2]) (rest := []) (rfl : mz_find 27 (mz_rows mq_X9_orders) = some (27, .invokevirtual 155, 3, 9, 0, 89)) (rfl : mz_nth mq_tab 9 = some mq_X0_howManyOfOrder) rfl rfl rfl rfl (Nat.le_of_ble_eq_true rfl) (Nat.le_of_ble_eq_true rfl) k2 ?_
    show mq_G mq_X9_orders (30, [some (.ref 0), some (.int x1), some (.int x2), o3], [.int r2], M) res
    refine mz_Go.steps (n := 3) (k2 := (if r2 ≤ 0 then 56 else 35, [some (.ref 0), some (.int x1), some (.int x2), some (.int r2)], [], M)) (P := []) rfl mz_o0 ?_
    refine mz_Go.ite (fun c32 => ?_) (fun c32 => ?_)
    · replace h := h.1 c32
      refine mz_Go.steps (n := 2) (k2 := (11, [some (.ref 0), some (.int x1), some (.int (x2 + 1)), some (.int r2)], [], M)) (P := []) rfl mz_o0 ?_
      exact h
    · replace h := h.2 c32
      refine mz_Go.steps (n := 5) (k2 := (44, [some (.ref 0), some (.int (x1 + 1)), some (.int x2), some (.int r2)], [.long (x2.toInt64), .ref 73], M)) (P := []) rfl mz_o0 ?_
      obtain ⟨M4, k4, h⟩ := h
      refine mz_Go.callV (As := [.long (x2.toInt64)]) (rest := []) (rfl : mz_find 44 (mz_rows mq_X9_orders) = some (44, .invokevirtual 124, 3, 45, 0, 78)) (rfl : mz_nth mq_tab 45 = some mq_X6_puts) rfl rfl rfl rfl (Nat.le_of_ble_eq_true rfl) (Nat.le_of_ble_eq_true rfl) k4 ?_
      show mq_G mq_X9_orders (47, [some (.ref 0), some (.int (x1 + 1)), some (.int x2), some (.int r2)], [], M4) res
      refine mz_Go.steps (n := 4) (k2 := (53, [some (.ref 0), some (.int (x1 + 1)), some (.int x2), some (.int r2)], [.long (r2.toInt64), .ref 73], M4)) (P := []) rfl mz_o0 ?_
      obtain ⟨M5, k5, h⟩ := h
      refine mz_Go.callV (As := [.long (r2.toInt64)]) (rest := []) (rfl : mz_find 53 (mz_rows mq_X9_orders) = some (53, .invokevirtual 124, 3, 45, 0, 78)) (rfl : mz_nth mq_tab 45 = some mq_X6_puts) rfl rfl rfl rfl (Nat.le_of_ble_eq_true rfl) (Nat.le_of_ble_eq_true rfl) k5 ?_
      show mq_G mq_X9_orders (56, [some (.ref 0), some (.int (x1 + 1)), some (.int x2), some (.int r2)], [], M5) res
      refine mz_Go.steps (n := 2) (k2 := (11, [some (.ref 0), some (.int (x1 + 1)), some (.int (x2 + 1)), some (.int r2)], [], M5)) (P := []) rfl mz_o0 ?_
      exact h
set_option maxRecDepth 100000 in
set_option maxHeartbeats 4000000 in
theorem t_X9_quadratic_0 (x1 : Int32) (x2 : Int32) (x3 : Int32) (M : mz_M) {res : mz_O} (h :
    (∃ (r1 : Int32), (mq_C mq_X9_isElement [.ref 0, .int x1] M (some (.int r1), M)) ∧
    ((r1 = 0 →
      res = (some (.int (-1)), M)) ∧
    (¬ (r1 = 0) →
      (∃ (r3 : Int32), (mq_C mq_X9_isElement [.ref 0, .int x2] M (some (.int r3), M)) ∧
      ((r3 = 0 →
        res = (some (.int (-1)), M)) ∧
      (¬ (r3 = 0) →
        (∃ (r5 : Int32), (mq_C mq_X9_isElement [.ref 0, .int x3] M (some (.int r5), M)) ∧
        ((¬ r5 = 0 →
          (∃ (M7 : mz_M), (mq_C mq_X6_empties [.ref 73] M (none, M7)) ∧
          mq_G mq_X9_quadratic (39, [some (.ref 0), some (.int x1), some (.int x2), some (.int x3), some (.int 0), some (.int 0), none], [], M7) res)) ∧
        (¬ (¬ r5 = 0) →
          res = (some (.int (-1)), M))))))))))) :
    mq_G mq_X9_quadratic (0, [some (.ref 0), some (.int x1), some (.int x2), some (.int x3), none, none, none], [], M) res := by
  refine mz_Go.steps (n := 2) (k2 := (2, [some (.ref 0), some (.int x1), some (.int x2), some (.int x3), none, none, none], [.int x1, .ref 0], M)) (P := []) rfl mz_o0 ?_
  obtain ⟨r1, k1, h⟩ := h
  refine mz_Go.callV (As := [.int x1]) (rest := []) (rfl : mz_find 2 (mz_rows mq_X9_quadratic) = some (2, .invokevirtual 103, 3, 123, 0, 68)) (rfl : mz_nth mq_tab 123 = some mq_X9_isElement) rfl rfl rfl rfl (Nat.le_of_ble_eq_true rfl) (Nat.le_of_ble_eq_true rfl) k1 ?_
  show mq_G mq_X9_quadratic (5, [some (.ref 0), some (.int x1), some (.int x2), some (.int x3), none, none, none], [.int r1], M) res
  refine mz_Go.steps (n := 1) (k2 := (if r1 = 0 then 24 else 8, [some (.ref 0), some (.int x1), some (.int x2), some (.int x3), none, none, none], [], M)) (P := []) rfl mz_o0 ?_
  refine mz_Go.ite (fun c5 => ?_) (fun c5 => ?_)
  · replace h := h.1 c5
    refine mz_Go.steps (n := 1) (k2 := (25, [some (.ref 0), some (.int x1), some (.int x2), some (.int x3), none, none, none], [.int (-1)], M)) (P := []) rfl mz_o0 ?_
    rw [h]
    exact mz_Go.iret (rfl : mz_find 25 (mz_rows mq_X9_quadratic) = some (25, .ireturn, 1, 0, 0, 0)) rfl
  · replace h := h.2 c5
    refine mz_Go.steps (n := 2) (k2 := (10, [some (.ref 0), some (.int x1), some (.int x2), some (.int x3), none, none, none], [.int x2, .ref 0], M)) (P := []) rfl mz_o0 ?_
    obtain ⟨r3, k3, h⟩ := h
    refine mz_Go.callV (As := [.int x2]) (rest := []) (rfl : mz_find 10 (mz_rows mq_X9_quadratic) = some (10, .invokevirtual 103, 3, 123, 0, 68)) (rfl : mz_nth mq_tab 123 = some mq_X9_isElement) rfl rfl rfl rfl (Nat.le_of_ble_eq_true rfl) (Nat.le_of_ble_eq_true rfl) k3 ?_
    show mq_G mq_X9_quadratic (13, [some (.ref 0), some (.int x1), some (.int x2), some (.int x3), none, none, none], [.int r3], M) res
    refine mz_Go.steps (n := 1) (k2 := (if r3 = 0 then 24 else 16, [some (.ref 0), some (.int x1), some (.int x2), some (.int x3), none, none, none], [], M)) (P := []) rfl mz_o0 ?_
    refine mz_Go.ite (fun c13 => ?_) (fun c13 => ?_)
    · replace h := h.1 c13
      refine mz_Go.steps (n := 1) (k2 := (25, [some (.ref 0), some (.int x1), some (.int x2), some (.int x3), none, none, none], [.int (-1)], M)) (P := []) rfl mz_o0 ?_
      rw [h]
      exact mz_Go.iret (rfl : mz_find 25 (mz_rows mq_X9_quadratic) = some (25, .ireturn, 1, 0, 0, 0)) rfl
    · replace h := h.2 c13
      refine mz_Go.steps (n := 2) (k2 := (18, [some (.ref 0), some (.int x1), some (.int x2), some (.int x3), none, none, none], [.int x3, .ref 0], M)) (P := []) rfl mz_o0 ?_
      obtain ⟨r5, k5, h⟩ := h
      refine mz_Go.callV (As := [.int x3]) (rest := []) (rfl : mz_find 18 (mz_rows mq_X9_quadratic) = some (18, .invokevirtual 103, 3, 123, 0, 68)) (rfl : mz_nth mq_tab 123 = some mq_X9_isElement) rfl rfl rfl rfl (Nat.le_of_ble_eq_true rfl) (Nat.le_of_ble_eq_true rfl) k5 ?_
      show mq_G mq_X9_quadratic (21, [some (.ref 0), some (.int x1), some (.int x2), some (.int x3), none, none, none], [.int r5], M) res
      refine mz_Go.steps (n := 1) (k2 := (if ¬ r5 = 0 then 26 else 24, [some (.ref 0), some (.int x1), some (.int x2), some (.int x3), none, none, none], [], M)) (P := []) rfl mz_o0 ?_
      refine mz_Go.ite (fun c21 => ?_) (fun c21 => ?_)
      · replace h := h.1 c21
        refine mz_Go.steps (n := 4) (k2 := (33, [some (.ref 0), some (.int x1), some (.int x2), some (.int x3), some (.int 0), none, none], [.ref 73], M)) (P := []) rfl mz_o0 ?_
        obtain ⟨M7, k7, h⟩ := h
        refine mz_Go.callV (As := []) (rest := []) (rfl : mz_find 33 (mz_rows mq_X9_quadratic) = some (33, .invokevirtual 120, 3, 44, 0, 76)) (rfl : mz_nth mq_tab 44 = some mq_X6_empties) rfl rfl rfl rfl (Nat.le_of_ble_eq_true rfl) (Nat.le_of_ble_eq_true rfl) k7 ?_
        show mq_G mq_X9_quadratic (36, [some (.ref 0), some (.int x1), some (.int x2), some (.int x3), some (.int 0), none, none], [], M7) res
        refine mz_Go.steps (n := 2) (k2 := (39, [some (.ref 0), some (.int x1), some (.int x2), some (.int x3), some (.int 0), some (.int 0), none], [], M7)) (P := []) rfl mz_o0 ?_
        exact h
      · replace h := h.2 c21
        refine mz_Go.steps (n := 1) (k2 := (25, [some (.ref 0), some (.int x1), some (.int x2), some (.int x3), none, none, none], [.int (-1)], M)) (P := []) rfl mz_o0 ?_
        rw [h]
        exact mz_Go.iret (rfl : mz_find 25 (mz_rows mq_X9_quadratic) = some (25, .ireturn, 1, 0, 0, 0)) rfl
set_option maxRecDepth 100000 in
set_option maxHeartbeats 4000000 in
theorem t_X9_quadratic_39 (x1 : Int32) (x2 : Int32) (x3 : Int32) (x4 : Int32) (x5 : Int32) (o6 : Option Value) (M : mz_M) {res : mz_O} (h :
    (((M.1 2 2) ≤ x5 →
      res = (some (.int x4), M)) ∧
    (¬ ((M.1 2 2) ≤ x5) →
      (∃ (r2 : Int32), (mq_C mq_X0_times [.ref 2, .int x1, .int x5] M (some (.int r2), M)) ∧
      (∃ (r3 : Int32), (mq_C mq_X0_times [.ref 2, .int (r2 ^^^ x2), .int x5] M (some (.int r3), M)) ∧
      ((¬ r3 = x3 →
        mq_G mq_X9_quadratic (39, [some (.ref 0), some (.int x1), some (.int x2), some (.int x3), some (.int x4), some (.int (x5 + 1)), some (.int (r2 ^^^ x2))], [], M) res) ∧
      (¬ (¬ r3 = x3) →
        ((8 ≤ x4 →
          mq_G mq_X9_quadratic (39, [some (.ref 0), some (.int x1), some (.int x2), some (.int x3), some (.int (x4 + 1)), some (.int (x5 + 1)), some (.int (r2 ^^^ x2))], [], M) res) ∧
        (¬ (8 ≤ x4) →
          (∃ (M6 : mz_M), (mq_C mq_X6_puts [.ref 73, .long (x5.toInt64)] M (none, M6)) ∧
          mq_G mq_X9_quadratic (39, [some (.ref 0), some (.int x1), some (.int x2), some (.int x3), some (.int (x4 + 1)), some (.int (x5 + 1)), some (.int (r2 ^^^ x2))], [], M6) res)))))))))) :
    mq_G mq_X9_quadratic (39, [some (.ref 0), some (.int x1), some (.int x2), some (.int x3), some (.int x4), some (.int x5), o6], [], M) res := by
  refine mz_Go.steps (n := 5) (k2 := (if (M.1 2 2) ≤ x5 then 106 else 51, [some (.ref 0), some (.int x1), some (.int x2), some (.int x3), some (.int x4), some (.int x5), o6], [], M)) (P := []) rfl mz_o0 ?_
  refine mz_Go.ite (fun c48 => ?_) (fun c48 => ?_)
  · replace h := h.1 c48
    refine mz_Go.steps (n := 1) (k2 := (108, [some (.ref 0), some (.int x1), some (.int x2), some (.int x3), some (.int x4), some (.int x5), o6], [.int x4], M)) (P := []) rfl mz_o0 ?_
    rw [h]
    exact mz_Go.iret (rfl : mz_find 108 (mz_rows mq_X9_quadratic) = some (108, .ireturn, 1, 0, 0, 0)) rfl
  · replace h := h.2 c48
    refine mz_Go.steps (n := 4) (k2 := (58, [some (.ref 0), some (.int x1), some (.int x2), some (.int x3), some (.int x4), some (.int x5), o6], [.int x5, .int x1, .ref 2], M)) (P := []) rfl mz_o0 ?_
    obtain ⟨r2, k2, h⟩ := h
    refine mz_Go.callV (As := [.int x1, .int x5]) (rest := []) (rfl : mz_find 58 (mz_rows mq_X9_quadratic) = some (58, .invokevirtual 106, 3, 3, 0, 70)) (rfl : mz_nth mq_tab 3 = some mq_X0_times) rfl rfl rfl rfl (Nat.le_of_ble_eq_true rfl) (Nat.le_of_ble_eq_true rfl) k2 ?_
    show mq_G mq_X9_quadratic (61, [some (.ref 0), some (.int x1), some (.int x2), some (.int x3), some (.int x4), some (.int x5), o6], [.int r2], M) res
    refine mz_Go.steps (n := 7) (k2 := (73, [some (.ref 0), some (.int x1), some (.int x2), some (.int x3), some (.int x4), some (.int x5), some (.int (r2 ^^^ x2))], [.int x5, .int (r2 ^^^ x2), .ref 2], M)) (P := []) rfl mz_o0 ?_
    obtain ⟨r3, k3, h⟩ := h
    refine mz_Go.callV (As := [.int (r2 ^^^ x2), .int x5]) (rest := []) (rfl : mz_find 73 (mz_rows mq_X9_quadratic) = some (73, .invokevirtual 106, 3, 3, 0, 70)) (rfl : mz_nth mq_tab 3 = some mq_X0_times) rfl rfl rfl rfl (Nat.le_of_ble_eq_true rfl) (Nat.le_of_ble_eq_true rfl) k3 ?_
    show mq_G mq_X9_quadratic (76, [some (.ref 0), some (.int x1), some (.int x2), some (.int x3), some (.int x4), some (.int x5), some (.int (r2 ^^^ x2))], [.int r3], M) res
    refine mz_Go.steps (n := 2) (k2 := (if ¬ r3 = x3 then 100 else 80, [some (.ref 0), some (.int x1), some (.int x2), some (.int x3), some (.int x4), some (.int x5), some (.int (r2 ^^^ x2))], [], M)) (P := []) rfl mz_o0 ?_
    refine mz_Go.ite (fun c77 => ?_) (fun c77 => ?_)
    · replace h := h.1 c77
      refine mz_Go.steps (n := 2) (k2 := (39, [some (.ref 0), some (.int x1), some (.int x2), some (.int x3), some (.int x4), some (.int (x5 + 1)), some (.int (r2 ^^^ x2))], [], M)) (P := []) rfl mz_o0 ?_
      exact h
    · replace h := h.2 c77
      refine mz_Go.steps (n := 3) (k2 := (if 8 ≤ x4 then 97 else 87, [some (.ref 0), some (.int x1), some (.int x2), some (.int x3), some (.int x4), some (.int x5), some (.int (r2 ^^^ x2))], [], M)) (P := []) rfl mz_o0 ?_
      refine mz_Go.ite (fun c84 => ?_) (fun c84 => ?_)
      · replace h := h.1 c84
        refine mz_Go.steps (n := 3) (k2 := (39, [some (.ref 0), some (.int x1), some (.int x2), some (.int x3), some (.int (x4 + 1)), some (.int (x5 + 1)), some (.int (r2 ^^^ x2))], [], M)) (P := []) rfl mz_o0 ?_
        exact h
      · replace h := h.2 c84
        refine mz_Go.steps (n := 4) (k2 := (94, [some (.ref 0), some (.int x1), some (.int x2), some (.int x3), some (.int x4), some (.int x5), some (.int (r2 ^^^ x2))], [.long (x5.toInt64), .ref 73], M)) (P := []) rfl mz_o0 ?_
        obtain ⟨M6, k6, h⟩ := h
        refine mz_Go.callV (As := [.long (x5.toInt64)]) (rest := []) (rfl : mz_find 94 (mz_rows mq_X9_quadratic) = some (94, .invokevirtual 124, 3, 45, 0, 78)) (rfl : mz_nth mq_tab 45 = some mq_X6_puts) rfl rfl rfl rfl (Nat.le_of_ble_eq_true rfl) (Nat.le_of_ble_eq_true rfl) k6 ?_
        show mq_G mq_X9_quadratic (97, [some (.ref 0), some (.int x1), some (.int x2), some (.int x3), some (.int x4), some (.int x5), some (.int (r2 ^^^ x2))], [], M6) res
        refine mz_Go.steps (n := 3) (k2 := (39, [some (.ref 0), some (.int x1), some (.int x2), some (.int x3), some (.int (x4 + 1)), some (.int (x5 + 1)), some (.int (r2 ^^^ x2))], [], M6)) (P := []) rfl mz_o0 ?_
        exact h
set_option maxRecDepth 100000 in
set_option maxHeartbeats 4000000 in
theorem t_X9_classes_0 (M : mz_M) {res : mz_O} (h :
    (∃ (M1 : mz_M), (mq_C mq_X6_empties [.ref 73] M (none, M1)) ∧
    mq_G mq_X9_classes (11, [some (.ref 0), some (.int 0), some (.int 1), none, none], [], M1) res)) :
    mq_G mq_X9_classes (0, [some (.ref 0), none, none, none, none], [], M) res := by
  refine mz_Go.steps (n := 4) (k2 := (6, [some (.ref 0), some (.int 0), none, none, none], [.ref 73], M)) (P := []) rfl mz_o0 ?_
  obtain ⟨M1, k1, h⟩ := h
  refine mz_Go.callV (As := []) (rest := []) (rfl : mz_find 6 (mz_rows mq_X9_classes) = some (6, .invokevirtual 120, 3, 44, 0, 76)) (rfl : mz_nth mq_tab 44 = some mq_X6_empties) rfl rfl rfl rfl (Nat.le_of_ble_eq_true rfl) (Nat.le_of_ble_eq_true rfl) k1 ?_
  show mq_G mq_X9_classes (9, [some (.ref 0), some (.int 0), none, none, none], [], M1) res
  refine mz_Go.steps (n := 2) (k2 := (11, [some (.ref 0), some (.int 0), some (.int 1), none, none], [], M1)) (P := []) rfl mz_o0 ?_
  exact h
set_option maxRecDepth 100000 in
set_option maxHeartbeats 4000000 in
theorem t_X9_classes_11 (x1 : Int32) (x2 : Int32) (o3 : Option Value) (o4 : Option Value) (M : mz_M) {res : mz_O} (h :
    (((M.1 2 1) < x2 →
      res = (some (.int x1), M)) ∧
    (¬ ((M.1 2 1) < x2) →
      mq_G mq_X9_classes (27, [some (.ref 0), some (.int x1), some (.int x2), some (.int 0), some (.int 0)], [], M) res))) :
    mq_G mq_X9_classes (11, [some (.ref 0), some (.int x1), some (.int x2), o3, o4], [], M) res := by
  refine mz_Go.steps (n := 5) (k2 := (if (M.1 2 1) < x2 then 87 else 22, [some (.ref 0), some (.int x1), some (.int x2), o3, o4], [], M)) (P := []) rfl mz_o0 ?_
  refine mz_Go.ite (fun c19 => ?_) (fun c19 => ?_)
  · replace h := h.1 c19
    refine mz_Go.steps (n := 1) (k2 := (88, [some (.ref 0), some (.int x1), some (.int x2), o3, o4], [.int x1], M)) (P := []) rfl mz_o0 ?_
    rw [h]
    exact mz_Go.iret (rfl : mz_find 88 (mz_rows mq_X9_classes) = some (88, .ireturn, 1, 0, 0, 0)) rfl
  · replace h := h.2 c19
    refine mz_Go.steps (n := 4) (k2 := (27, [some (.ref 0), some (.int x1), some (.int x2), some (.int 0), some (.int 0)], [], M)) (P := []) rfl mz_o0 ?_
    exact h
set_option maxRecDepth 100000 in
set_option maxHeartbeats 4000000 in
theorem t_X9_classes_27 (x1 : Int32) (x2 : Int32) (x3 : Int32) (x4 : Int32) (M : mz_M) {res : mz_O} (h :
    (((M.1 2 2) ≤ x4 →
      (∃ (M2 : mz_M), (mq_C mq_X6_puts [.ref 73, .long (x3.toInt64)] M (none, M2)) ∧
      (¬ x2 = 0) ∧
      mq_G mq_X9_classes (11, [some (.ref 0), some (.int (x1 + (x3 / x2))), some (.int (x2 + 1)), some (.int x3), some (.int x4)], [], M2) res)) ∧
    (¬ ((M.1 2 2) ≤ x4) →
      (∃ (r4 : Int32), (mq_C mq_X0_sizeOf [.ref 2, .int x4] M (some (.int r4), M)) ∧
      ((¬ r4 = x2 →
        mq_G mq_X9_classes (27, [some (.ref 0), some (.int x1), some (.int x2), some (.int (x3 + 0)), some (.int (x4 + 1))], [], M) res) ∧
      (¬ (¬ r4 = x2) →
        mq_G mq_X9_classes (27, [some (.ref 0), some (.int x1), some (.int x2), some (.int (x3 + 1)), some (.int (x4 + 1))], [], M) res)))))) :
    mq_G mq_X9_classes (27, [some (.ref 0), some (.int x1), some (.int x2), some (.int x3), some (.int x4)], [], M) res := by
  refine mz_Go.steps (n := 5) (k2 := (if (M.1 2 2) ≤ x4 then 66 else 39, [some (.ref 0), some (.int x1), some (.int x2), some (.int x3), some (.int x4)], [], M)) (P := []) rfl mz_o0 ?_
  refine mz_Go.ite (fun c36 => ?_) (fun c36 => ?_)
  · replace h := h.1 c36
    refine mz_Go.steps (n := 4) (k2 := (72, [some (.ref 0), some (.int x1), some (.int x2), some (.int x3), some (.int x4)], [.long (x3.toInt64), .ref 73], M)) (P := []) rfl mz_o0 ?_
    obtain ⟨M2, k2, h⟩ := h
    refine mz_Go.callV (As := [.long (x3.toInt64)]) (rest := []) (rfl : mz_find 72 (mz_rows mq_X9_classes) = some (72, .invokevirtual 124, 3, 45, 0, 78)) (rfl : mz_nth mq_tab 45 = some mq_X6_puts) rfl rfl rfl rfl (Nat.le_of_ble_eq_true rfl) (Nat.le_of_ble_eq_true rfl) k2 ?_
    show mq_G mq_X9_classes (75, [some (.ref 0), some (.int x1), some (.int x2), some (.int x3), some (.int x4)], [], M2) res
    obtain ⟨q3, h⟩ := h
    refine mz_Go.steps (n := 8) (k2 := (11, [some (.ref 0), some (.int (x1 + (x3 / x2))), some (.int (x2 + 1)), some (.int x3), some (.int x4)], [], M2)) (P := [¬ x2 = 0]) rfl (mz_o1 q3) ?_
    exact h
  · replace h := h.2 c36
    refine mz_Go.steps (n := 4) (k2 := (46, [some (.ref 0), some (.int x1), some (.int x2), some (.int x3), some (.int x4)], [.int x4, .ref 2, .int x3], M)) (P := []) rfl mz_o0 ?_
    obtain ⟨r4, k4, h⟩ := h
    refine mz_Go.callV (As := [.int x4]) (rest := [.int x3]) (rfl : mz_find 46 (mz_rows mq_X9_classes) = some (46, .invokevirtual 131, 3, 10, 0, 80)) (rfl : mz_nth mq_tab 10 = some mq_X0_sizeOf) rfl rfl rfl rfl (Nat.le_of_ble_eq_true rfl) (Nat.le_of_ble_eq_true rfl) k4 ?_
    show mq_G mq_X9_classes (49, [some (.ref 0), some (.int x1), some (.int x2), some (.int x3), some (.int x4)], [.int r4, .int x3], M) res
    refine mz_Go.steps (n := 2) (k2 := (if ¬ r4 = x2 then 57 else 53, [some (.ref 0), some (.int x1), some (.int x2), some (.int x3), some (.int x4)], [.int x3], M)) (P := []) rfl mz_o0 ?_
    refine mz_Go.ite (fun c50 => ?_) (fun c50 => ?_)
    · replace h := h.1 c50
      refine mz_Go.steps (n := 5) (k2 := (27, [some (.ref 0), some (.int x1), some (.int x2), some (.int (x3 + 0)), some (.int (x4 + 1))], [], M)) (P := []) rfl mz_o0 ?_
      exact h
    · replace h := h.2 c50
      refine mz_Go.steps (n := 6) (k2 := (27, [some (.ref 0), some (.int x1), some (.int x2), some (.int (x3 + 1)), some (.int (x4 + 1))], [], M)) (P := []) rfl mz_o0 ?_
      exact h
set_option maxRecDepth 100000 in
set_option maxHeartbeats 4000000 in
theorem t_X9_generators_0 (M : mz_M) {res : mz_O} (h :
    mq_G mq_X9_generators (6, [some (.ref 0), some (.int 0), some (.int (-1)), some (.int 1)], [], M) res) :
    mq_G mq_X9_generators (0, [some (.ref 0), none, none, none], [], M) res := by
  refine mz_Go.steps (n := 6) (k2 := (6, [some (.ref 0), some (.int 0), some (.int (-1)), some (.int 1)], [], M)) (P := []) rfl mz_o0 ?_
  exact h
set_option maxRecDepth 100000 in
set_option maxHeartbeats 4000000 in
theorem t_X9_generators_6 (x1 : Int32) (x2 : Int32) (x3 : Int32) (M : mz_M) {res : mz_O} (h :
    (((M.1 2 2) ≤ x3 →
      (∃ (M2 : mz_M), (mq_C mq_X6_empties [.ref 73] M (none, M2)) ∧
      (∃ (M3 : mz_M), (mq_C mq_X6_puts [.ref 73, .long (x2.toInt64)] M2 (none, M3)) ∧
      res = (some (.int x1), M3)))) ∧
    (¬ ((M.1 2 2) ≤ x3) →
      (∃ (r4 : Int32), (mq_C mq_X0_generates [.ref 2, .int x3] M (some (.int r4), M)) ∧
      ((r4 = 0 →
        mq_G mq_X9_generators (6, [some (.ref 0), some (.int x1), some (.int x2), some (.int (x3 + 1))], [], M) res) ∧
      (¬ (r4 = 0) →
        ((¬ x2 = (-1) →
          mq_G mq_X9_generators (6, [some (.ref 0), some (.int (x1 + 1)), some (.int x2), some (.int (x3 + 1))], [], M) res) ∧
        (¬ (¬ x2 = (-1)) →
          mq_G mq_X9_generators (6, [some (.ref 0), some (.int (x1 + 1)), some (.int x3), some (.int (x3 + 1))], [], M) res)))))))) :
    mq_G mq_X9_generators (6, [some (.ref 0), some (.int x1), some (.int x2), some (.int x3)], [], M) res := by
  refine mz_Go.steps (n := 5) (k2 := (if (M.1 2 2) ≤ x3 then 48 else 17, [some (.ref 0), some (.int x1), some (.int x2), some (.int x3)], [], M)) (P := []) rfl mz_o0 ?_
  refine mz_Go.ite (fun c14 => ?_) (fun c14 => ?_)
  · replace h := h.1 c14
    refine mz_Go.steps (n := 2) (k2 := (52, [some (.ref 0), some (.int x1), some (.int x2), some (.int x3)], [.ref 73], M)) (P := []) rfl mz_o0 ?_
    obtain ⟨M2, k2, h⟩ := h
    refine mz_Go.callV (As := []) (rest := []) (rfl : mz_find 52 (mz_rows mq_X9_generators) = some (52, .invokevirtual 120, 3, 44, 0, 76)) (rfl : mz_nth mq_tab 44 = some mq_X6_empties) rfl rfl rfl rfl (Nat.le_of_ble_eq_true rfl) (Nat.le_of_ble_eq_true rfl) k2 ?_
    show mq_G mq_X9_generators (55, [some (.ref 0), some (.int x1), some (.int x2), some (.int x3)], [], M2) res
    refine mz_Go.steps (n := 4) (k2 := (61, [some (.ref 0), some (.int x1), some (.int x2), some (.int x3)], [.long (x2.toInt64), .ref 73], M2)) (P := []) rfl mz_o0 ?_
    obtain ⟨M3, k3, h⟩ := h
    refine mz_Go.callV (As := [.long (x2.toInt64)]) (rest := []) (rfl : mz_find 61 (mz_rows mq_X9_generators) = some (61, .invokevirtual 124, 3, 45, 0, 78)) (rfl : mz_nth mq_tab 45 = some mq_X6_puts) rfl rfl rfl rfl (Nat.le_of_ble_eq_true rfl) (Nat.le_of_ble_eq_true rfl) k3 ?_
    show mq_G mq_X9_generators (64, [some (.ref 0), some (.int x1), some (.int x2), some (.int x3)], [], M3) res
    refine mz_Go.steps (n := 1) (k2 := (65, [some (.ref 0), some (.int x1), some (.int x2), some (.int x3)], [.int x1], M3)) (P := []) rfl mz_o0 ?_
    rw [h]
    exact mz_Go.iret (rfl : mz_find 65 (mz_rows mq_X9_generators) = some (65, .ireturn, 1, 0, 0, 0)) rfl
  · replace h := h.2 c14
    refine mz_Go.steps (n := 3) (k2 := (22, [some (.ref 0), some (.int x1), some (.int x2), some (.int x3)], [.int x3, .ref 2], M)) (P := []) rfl mz_o0 ?_
    obtain ⟨r4, k4, h⟩ := h
    refine mz_Go.callV (As := [.int x3]) (rest := []) (rfl : mz_find 22 (mz_rows mq_X9_generators) = some (22, .invokevirtual 158, 3, 8, 0, 90)) (rfl : mz_nth mq_tab 8 = some mq_X0_generates) rfl rfl rfl rfl (Nat.le_of_ble_eq_true rfl) (Nat.le_of_ble_eq_true rfl) k4 ?_
    show mq_G mq_X9_generators (25, [some (.ref 0), some (.int x1), some (.int x2), some (.int x3)], [.int r4], M) res
    refine mz_Go.steps (n := 1) (k2 := (if r4 = 0 then 42 else 28, [some (.ref 0), some (.int x1), some (.int x2), some (.int x3)], [], M)) (P := []) rfl mz_o0 ?_
    refine mz_Go.ite (fun c25 => ?_) (fun c25 => ?_)
    · replace h := h.1 c25
      refine mz_Go.steps (n := 2) (k2 := (6, [some (.ref 0), some (.int x1), some (.int x2), some (.int (x3 + 1))], [], M)) (P := []) rfl mz_o0 ?_
      exact h
    · replace h := h.2 c25
      refine mz_Go.steps (n := 4) (k2 := (if ¬ x2 = (-1) then 40 else 36, [some (.ref 0), some (.int (x1 + 1)), some (.int x2), some (.int x3)], [], M)) (P := []) rfl mz_o0 ?_
      refine mz_Go.ite (fun c33 => ?_) (fun c33 => ?_)
      · replace h := h.1 c33
        refine mz_Go.steps (n := 4) (k2 := (6, [some (.ref 0), some (.int (x1 + 1)), some (.int x2), some (.int (x3 + 1))], [], M)) (P := []) rfl mz_o0 ?_
        exact h
      · replace h := h.2 c33
        refine mz_Go.steps (n := 5) (k2 := (6, [some (.ref 0), some (.int (x1 + 1)), some (.int x3), some (.int (x3 + 1))], [], M)) (P := []) rfl mz_o0 ?_
        exact h
set_option maxRecDepth 100000 in
set_option maxHeartbeats 4000000 in
theorem t_X9_subfield_0 (x1 : Int32) (M : mz_M) {res : mz_O} (h :
    (∃ (r1 : Int32), (mq_C mq_X0_hasSubfield [.ref 2, .int x1] M (some (.int r1), M)) ∧
    ((¬ r1 = 0 →
      (∃ (M3 : mz_M), (mq_C mq_X2_fillsSubbase [.ref 1, .ref 76, .int x1] M (none, M3)) ∧
      (∃ (M4 : mz_M), (mq_C mq_X6_empties [.ref 73] M3 (none, M4)) ∧
      (∃ (M5 : mz_M), (mq_C mq_X6_putsAll [.ref 73, .ref 76, .int x1] M4 (none, M5)) ∧
      res = (some (.int ((1 : Int32) <<< (x1 &&& 31))), M5))))) ∧
    (¬ (¬ r1 = 0) →
      res = (some (.int (-1)), M))))) :
    mq_G mq_X9_subfield (0, [some (.ref 0), some (.int x1)], [], M) res := by
  refine mz_Go.steps (n := 3) (k2 := (5, [some (.ref 0), some (.int x1)], [.int x1, .ref 2], M)) (P := []) rfl mz_o0 ?_
  obtain ⟨r1, k1, h⟩ := h
  refine mz_Go.callV (As := [.int x1]) (rest := []) (rfl : mz_find 5 (mz_rows mq_X9_subfield) = some (5, .invokevirtual 137, 3, 11, 0, 83)) (rfl : mz_nth mq_tab 11 = some mq_X0_hasSubfield) rfl rfl rfl rfl (Nat.le_of_ble_eq_true rfl) (Nat.le_of_ble_eq_true rfl) k1 ?_
  show mq_G mq_X9_subfield (8, [some (.ref 0), some (.int x1)], [.int r1], M) res
  refine mz_Go.steps (n := 1) (k2 := (if ¬ r1 = 0 then 13 else 11, [some (.ref 0), some (.int x1)], [], M)) (P := []) rfl mz_o0 ?_
  refine mz_Go.ite (fun c8 => ?_) (fun c8 => ?_)
  · replace h := h.1 c8
    refine mz_Go.steps (n := 5) (k2 := (22, [some (.ref 0), some (.int x1)], [.int x1, .ref 76, .ref 1], M)) (P := []) rfl mz_o0 ?_
    obtain ⟨M3, k3, h⟩ := h
    refine mz_Go.callV (As := [.ref 76, .int x1]) (rest := []) (rfl : mz_find 22 (mz_rows mq_X9_subfield) = some (22, .invokevirtual 161, 3, 29, 0, 92)) (rfl : mz_nth mq_tab 29 = some mq_X2_fillsSubbase) rfl rfl rfl rfl (Nat.le_of_ble_eq_true rfl) (Nat.le_of_ble_eq_true rfl) k3 ?_
    show mq_G mq_X9_subfield (25, [some (.ref 0), some (.int x1)], [], M3) res
    refine mz_Go.steps (n := 2) (k2 := (29, [some (.ref 0), some (.int x1)], [.ref 73], M3)) (P := []) rfl mz_o0 ?_
    obtain ⟨M4, k4, h⟩ := h
    refine mz_Go.callV (As := []) (rest := []) (rfl : mz_find 29 (mz_rows mq_X9_subfield) = some (29, .invokevirtual 120, 3, 44, 0, 76)) (rfl : mz_nth mq_tab 44 = some mq_X6_empties) rfl rfl rfl rfl (Nat.le_of_ble_eq_true rfl) (Nat.le_of_ble_eq_true rfl) k4 ?_
    show mq_G mq_X9_subfield (32, [some (.ref 0), some (.int x1)], [], M4) res
    refine mz_Go.steps (n := 5) (k2 := (41, [some (.ref 0), some (.int x1)], [.int x1, .ref 76, .ref 73], M4)) (P := []) rfl mz_o0 ?_
    obtain ⟨M5, k5, h⟩ := h
    refine mz_Go.callV (As := [.ref 76, .int x1]) (rest := []) (rfl : mz_find 41 (mz_rows mq_X9_subfield) = some (41, .invokevirtual 165, 3, 46, 0, 93)) (rfl : mz_nth mq_tab 46 = some mq_X6_putsAll) rfl rfl rfl rfl (Nat.le_of_ble_eq_true rfl) (Nat.le_of_ble_eq_true rfl) k5 ?_
    show mq_G mq_X9_subfield (44, [some (.ref 0), some (.int x1)], [], M5) res
    refine mz_Go.steps (n := 3) (k2 := (47, [some (.ref 0), some (.int x1)], [.int ((1 : Int32) <<< (x1 &&& 31))], M5)) (P := []) rfl mz_o0 ?_
    rw [h]
    exact mz_Go.iret (rfl : mz_find 47 (mz_rows mq_X9_subfield) = some (47, .ireturn, 1, 0, 0, 0)) rfl
  · replace h := h.2 c8
    refine mz_Go.steps (n := 1) (k2 := (12, [some (.ref 0), some (.int x1)], [.int (-1)], M)) (P := []) rfl mz_o0 ?_
    rw [h]
    exact mz_Go.iret (rfl : mz_find 12 (mz_rows mq_X9_subfield) = some (12, .ireturn, 1, 0, 0, 0)) rfl
set_option maxRecDepth 100000 in
set_option maxHeartbeats 4000000 in
theorem t_X9_normal_0 (x1 : Int32) (M : mz_M) {res : mz_O} (h :
    (∃ (r1 : Int32), (mq_C mq_X9_isElement [.ref 0, .int x1] M (some (.int r1), M)) ∧
    ((¬ r1 = 0 →
      (∃ (M3 : mz_M), (mq_C mq_X0_fillsConjugates [.ref 2, .ref 75, .int x1] M (none, M3)) ∧
      (∃ (r4 : Int32) (M4 : mz_M), (mq_C mq_X1_holds [.ref 5, .ref 75, .int (M3.1 2 1)] M3 (some (.int r4), M4)) ∧
      (∃ (M5 : mz_M), (mq_C mq_X6_empties [.ref 73] M4 (none, M5)) ∧
      (∃ (M6 : mz_M), (mq_C mq_X6_puts [.ref 73, .long ((M5.1 5 2).toInt64)] M5 (none, M6)) ∧
      ((r4 = 0 →
        res = (some (.int 0), M6)) ∧
      (¬ (r4 = 0) →
        res = (some (.int 1), M6)))))))) ∧
    (¬ (¬ r1 = 0) →
      res = (some (.int (-1)), M))))) :
    mq_G mq_X9_normal (0, [some (.ref 0), some (.int x1), none], [], M) res := by
  refine mz_Go.steps (n := 2) (k2 := (2, [some (.ref 0), some (.int x1), none], [.int x1, .ref 0], M)) (P := []) rfl mz_o0 ?_
  obtain ⟨r1, k1, h⟩ := h
  refine mz_Go.callV (As := [.int x1]) (rest := []) (rfl : mz_find 2 (mz_rows mq_X9_normal) = some (2, .invokevirtual 103, 3, 123, 0, 68)) (rfl : mz_nth mq_tab 123 = some mq_X9_isElement) rfl rfl rfl rfl (Nat.le_of_ble_eq_true rfl) (Nat.le_of_ble_eq_true rfl) k1 ?_
  show mq_G mq_X9_normal (5, [some (.ref 0), some (.int x1), none], [.int r1], M) res
  refine mz_Go.steps (n := 1) (k2 := (if ¬ r1 = 0 then 10 else 8, [some (.ref 0), some (.int x1), none], [], M)) (P := []) rfl mz_o0 ?_
  refine mz_Go.ite (fun c5 => ?_) (fun c5 => ?_)
  · replace h := h.1 c5
    refine mz_Go.steps (n := 5) (k2 := (19, [some (.ref 0), some (.int x1), none], [.int x1, .ref 75, .ref 2], M)) (P := []) rfl mz_o0 ?_
    obtain ⟨M3, k3, h⟩ := h
    refine mz_Go.callV (As := [.ref 75, .int x1]) (rest := []) (rfl : mz_find 19 (mz_rows mq_X9_normal) = some (19, .invokevirtual 168, 3, 17, 0, 95)) (rfl : mz_nth mq_tab 17 = some mq_X0_fillsConjugates) rfl rfl rfl rfl (Nat.le_of_ble_eq_true rfl) (Nat.le_of_ble_eq_true rfl) k3 ?_
    show mq_G mq_X9_normal (22, [some (.ref 0), some (.int x1), none], [], M3) res
    refine mz_Go.steps (n := 7) (k2 := (37, [some (.ref 0), some (.int x1), none], [.int (M3.1 2 1), .ref 75, .ref 5], M3)) (P := []) rfl mz_o0 ?_
    obtain ⟨r4, M4, k4, h⟩ := h
    refine mz_Go.callV (As := [.ref 75, .int (M3.1 2 1)]) (rest := []) (rfl : mz_find 37 (mz_rows mq_X9_normal) = some (37, .invokevirtual 171, 3, 20, 0, 97)) (rfl : mz_nth mq_tab 20 = some mq_X1_holds) rfl rfl rfl rfl (Nat.le_of_ble_eq_true rfl) (Nat.le_of_ble_eq_true rfl) k4 ?_
    show mq_G mq_X9_normal (40, [some (.ref 0), some (.int x1), none], [.int r4], M4) res
    refine mz_Go.steps (n := 3) (k2 := (45, [some (.ref 0), some (.int x1), some (.int r4)], [.ref 73], M4)) (P := []) rfl mz_o0 ?_
    obtain ⟨M5, k5, h⟩ := h
    refine mz_Go.callV (As := []) (rest := []) (rfl : mz_find 45 (mz_rows mq_X9_normal) = some (45, .invokevirtual 120, 3, 44, 0, 76)) (rfl : mz_nth mq_tab 44 = some mq_X6_empties) rfl rfl rfl rfl (Nat.le_of_ble_eq_true rfl) (Nat.le_of_ble_eq_true rfl) k5 ?_
    show mq_G mq_X9_normal (48, [some (.ref 0), some (.int x1), some (.int r4)], [], M5) res
    refine mz_Go.steps (n := 6) (k2 := (60, [some (.ref 0), some (.int x1), some (.int r4)], [.long ((M5.1 5 2).toInt64), .ref 73], M5)) (P := []) rfl mz_o0 ?_
    obtain ⟨M6, k6, h⟩ := h
    refine mz_Go.callV (As := [.long ((M5.1 5 2).toInt64)]) (rest := []) (rfl : mz_find 60 (mz_rows mq_X9_normal) = some (60, .invokevirtual 124, 3, 45, 0, 78)) (rfl : mz_nth mq_tab 45 = some mq_X6_puts) rfl rfl rfl rfl (Nat.le_of_ble_eq_true rfl) (Nat.le_of_ble_eq_true rfl) k6 ?_
    show mq_G mq_X9_normal (63, [some (.ref 0), some (.int x1), some (.int r4)], [], M6) res
    refine mz_Go.steps (n := 2) (k2 := (if r4 = 0 then 71 else 67, [some (.ref 0), some (.int x1), some (.int r4)], [], M6)) (P := []) rfl mz_o0 ?_
    refine mz_Go.ite (fun c64 => ?_) (fun c64 => ?_)
    · replace h := h.1 c64
      refine mz_Go.steps (n := 1) (k2 := (72, [some (.ref 0), some (.int x1), some (.int r4)], [.int 0], M6)) (P := []) rfl mz_o0 ?_
      rw [h]
      exact mz_Go.iret (rfl : mz_find 72 (mz_rows mq_X9_normal) = some (72, .ireturn, 1, 0, 0, 0)) rfl
    · replace h := h.2 c64
      refine mz_Go.steps (n := 2) (k2 := (72, [some (.ref 0), some (.int x1), some (.int r4)], [.int 1], M6)) (P := []) rfl mz_o0 ?_
      rw [h]
      exact mz_Go.iret (rfl : mz_find 72 (mz_rows mq_X9_normal) = some (72, .ireturn, 1, 0, 0, 0)) rfl
  · replace h := h.2 c5
    refine mz_Go.steps (n := 1) (k2 := (9, [some (.ref 0), some (.int x1), none], [.int (-1)], M)) (P := []) rfl mz_o0 ?_
    rw [h]
    exact mz_Go.iret (rfl : mz_find 9 (mz_rows mq_X9_normal) = some (9, .ireturn, 1, 0, 0, 0)) rfl
set_option maxRecDepth 100000 in
set_option maxHeartbeats 4000000 in
theorem t_X9_normals_0 (M : mz_M) {res : mz_O} (h :
    mq_G mq_X9_normals (9, [some (.ref 0), some (.int 0), some (.int (-1)), some (.int (-1)), some (.int 1)], [], M) res) :
    mq_G mq_X9_normals (0, [some (.ref 0), none, none, none, none], [], M) res := by
  refine mz_Go.steps (n := 8) (k2 := (9, [some (.ref 0), some (.int 0), some (.int (-1)), some (.int (-1)), some (.int 1)], [], M)) (P := []) rfl mz_o0 ?_
  exact h
set_option maxRecDepth 100000 in
set_option maxHeartbeats 4000000 in
theorem t_X9_normals_9 (x1 : Int32) (x2 : Int32) (x3 : Int32) (x4 : Int32) (M : mz_M) {res : mz_O} (h :
    (((M.1 2 2) ≤ x4 →
      (∃ (M2 : mz_M), (mq_C mq_X6_empties [.ref 73] M (none, M2)) ∧
      (∃ (M3 : mz_M), (mq_C mq_X6_puts [.ref 73, .long (x2.toInt64)] M2 (none, M3)) ∧
      (∃ (M4 : mz_M), (mq_C mq_X6_puts [.ref 73, .long (x3.toInt64)] M3 (none, M4)) ∧
      res = (some (.int x1), M4))))) ∧
    (¬ ((M.1 2 2) ≤ x4) →
      (∃ (M5 : mz_M), (mq_C mq_X0_fillsConjugates [.ref 2, .ref 75, .int x4] M (none, M5)) ∧
      (∃ (r6 : Int32) (M6 : mz_M), (mq_C mq_X1_holds [.ref 5, .ref 75, .int (M5.1 2 1)] M5 (some (.int r6), M6)) ∧
      ((r6 = 0 →
        mq_G mq_X9_normals (9, [some (.ref 0), some (.int x1), some (.int x2), some (.int x3), some (.int (x4 + 1))], [], M6) res) ∧
      (¬ (r6 = 0) →
        ((¬ x2 = (-1) →
          ((¬ x3 = (-1) →
            mq_G mq_X9_normals (9, [some (.ref 0), some (.int (x1 + 1)), some (.int x2), some (.int x3), some (.int (x4 + 1))], [], M6) res) ∧
          (¬ (¬ x3 = (-1)) →
            (∃ (r10 : Int32), (mq_C mq_X0_generates [.ref 2, .int x4] M6 (some (.int r10), M6)) ∧
            ((r10 = 0 →
              mq_G mq_X9_normals (9, [some (.ref 0), some (.int (x1 + 1)), some (.int x2), some (.int x3), some (.int (x4 + 1))], [], M6) res) ∧
            (¬ (r10 = 0) →
              mq_G mq_X9_normals (9, [some (.ref 0), some (.int (x1 + 1)), some (.int x2), some (.int x4), some (.int (x4 + 1))], [], M6) res)))))) ∧
        (¬ (¬ x2 = (-1)) →
          ((¬ x3 = (-1) →
            mq_G mq_X9_normals (9, [some (.ref 0), some (.int (x1 + 1)), some (.int x4), some (.int x3), some (.int (x4 + 1))], [], M6) res) ∧
          (¬ (¬ x3 = (-1)) →
            (∃ (r13 : Int32), (mq_C mq_X0_generates [.ref 2, .int x4] M6 (some (.int r13), M6)) ∧
            ((r13 = 0 →
              mq_G mq_X9_normals (9, [some (.ref 0), some (.int (x1 + 1)), some (.int x4), some (.int x3), some (.int (x4 + 1))], [], M6) res) ∧
            (¬ (r13 = 0) →
              mq_G mq_X9_normals (9, [some (.ref 0), some (.int (x1 + 1)), some (.int x4), some (.int x4), some (.int (x4 + 1))], [], M6) res)))))))))))))) :
    mq_G mq_X9_normals (9, [some (.ref 0), some (.int x1), some (.int x2), some (.int x3), some (.int x4)], [], M) res := by
  refine mz_Go.steps (n := 5) (k2 := (if (M.1 2 2) ≤ x4 then 100 else 21, [some (.ref 0), some (.int x1), some (.int x2), some (.int x3), some (.int x4)], [], M)) (P := []) rfl mz_o0 ?_
  refine mz_Go.ite (fun c18 => ?_) (fun c18 => ?_)
  · replace h := h.1 c18
    refine mz_Go.steps (n := 2) (k2 := (104, [some (.ref 0), some (.int x1), some (.int x2), some (.int x3), some (.int x4)], [.ref 73], M)) (P := []) rfl mz_o0 ?_
    obtain ⟨M2, k2, h⟩ := h
    refine mz_Go.callV (As := []) (rest := []) (rfl : mz_find 104 (mz_rows mq_X9_normals) = some (104, .invokevirtual 120, 3, 44, 0, 76)) (rfl : mz_nth mq_tab 44 = some mq_X6_empties) rfl rfl rfl rfl (Nat.le_of_ble_eq_true rfl) (Nat.le_of_ble_eq_true rfl) k2 ?_
    show mq_G mq_X9_normals (107, [some (.ref 0), some (.int x1), some (.int x2), some (.int x3), some (.int x4)], [], M2) res
    refine mz_Go.steps (n := 4) (k2 := (113, [some (.ref 0), some (.int x1), some (.int x2), some (.int x3), some (.int x4)], [.long (x2.toInt64), .ref 73], M2)) (P := []) rfl mz_o0 ?_
    obtain ⟨M3, k3, h⟩ := h
    refine mz_Go.callV (As := [.long (x2.toInt64)]) (rest := []) (rfl : mz_find 113 (mz_rows mq_X9_normals) = some (113, .invokevirtual 124, 3, 45, 0, 78)) (rfl : mz_nth mq_tab 45 = some mq_X6_puts) rfl rfl rfl rfl (Nat.le_of_ble_eq_true rfl) (Nat.le_of_ble_eq_true rfl) k3 ?_
    show mq_G mq_X9_normals (116, [some (.ref 0), some (.int x1), some (.int x2), some (.int x3), some (.int x4)], [], M3) res
    refine mz_Go.steps (n := 4) (k2 := (122, [some (.ref 0), some (.int x1), some (.int x2), some (.int x3), some (.int x4)], [.long (x3.toInt64), .ref 73], M3)) (P := []) rfl mz_o0 ?_
    obtain ⟨M4, k4, h⟩ := h
    refine mz_Go.callV (As := [.long (x3.toInt64)]) (rest := []) (rfl : mz_find 122 (mz_rows mq_X9_normals) = some (122, .invokevirtual 124, 3, 45, 0, 78)) (rfl : mz_nth mq_tab 45 = some mq_X6_puts) rfl rfl rfl rfl (Nat.le_of_ble_eq_true rfl) (Nat.le_of_ble_eq_true rfl) k4 ?_
    show mq_G mq_X9_normals (125, [some (.ref 0), some (.int x1), some (.int x2), some (.int x3), some (.int x4)], [], M4) res
    refine mz_Go.steps (n := 1) (k2 := (126, [some (.ref 0), some (.int x1), some (.int x2), some (.int x3), some (.int x4)], [.int x1], M4)) (P := []) rfl mz_o0 ?_
    rw [h]
    exact mz_Go.iret (rfl : mz_find 126 (mz_rows mq_X9_normals) = some (126, .ireturn, 1, 0, 0, 0)) rfl
  · replace h := h.2 c18
    refine mz_Go.steps (n := 5) (k2 := (31, [some (.ref 0), some (.int x1), some (.int x2), some (.int x3), some (.int x4)], [.int x4, .ref 75, .ref 2], M)) (P := []) rfl mz_o0 ?_
    obtain ⟨M5, k5, h⟩ := h
    refine mz_Go.callV (As := [.ref 75, .int x4]) (rest := []) (rfl : mz_find 31 (mz_rows mq_X9_normals) = some (31, .invokevirtual 168, 3, 17, 0, 95)) (rfl : mz_nth mq_tab 17 = some mq_X0_fillsConjugates) rfl rfl rfl rfl (Nat.le_of_ble_eq_true rfl) (Nat.le_of_ble_eq_true rfl) k5 ?_
    show mq_G mq_X9_normals (34, [some (.ref 0), some (.int x1), some (.int x2), some (.int x3), some (.int x4)], [], M5) res
    refine mz_Go.steps (n := 7) (k2 := (49, [some (.ref 0), some (.int x1), some (.int x2), some (.int x3), some (.int x4)], [.int (M5.1 2 1), .ref 75, .ref 5], M5)) (P := []) rfl mz_o0 ?_
    obtain ⟨r6, M6, k6, h⟩ := h
    refine mz_Go.callV (As := [.ref 75, .int (M5.1 2 1)]) (rest := []) (rfl : mz_find 49 (mz_rows mq_X9_normals) = some (49, .invokevirtual 171, 3, 20, 0, 97)) (rfl : mz_nth mq_tab 20 = some mq_X1_holds) rfl rfl rfl rfl (Nat.le_of_ble_eq_true rfl) (Nat.le_of_ble_eq_true rfl) k6 ?_
    show mq_G mq_X9_normals (52, [some (.ref 0), some (.int x1), some (.int x2), some (.int x3), some (.int x4)], [.int r6], M6) res
    refine mz_Go.steps (n := 1) (k2 := (if r6 = 0 then 94 else 55, [some (.ref 0), some (.int x1), some (.int x2), some (.int x3), some (.int x4)], [], M6)) (P := []) rfl mz_o0 ?_
    refine mz_Go.ite (fun c52 => ?_) (fun c52 => ?_)
    · replace h := h.1 c52
      refine mz_Go.steps (n := 2) (k2 := (9, [some (.ref 0), some (.int x1), some (.int x2), some (.int x3), some (.int (x4 + 1))], [], M6)) (P := []) rfl mz_o0 ?_
      exact h
    · replace h := h.2 c52
      refine mz_Go.steps (n := 4) (k2 := (if ¬ x2 = (-1) then 68 else 63, [some (.ref 0), some (.int (x1 + 1)), some (.int x2), some (.int x3), some (.int x4)], [], M6)) (P := []) rfl mz_o0 ?_
      refine mz_Go.ite (fun c60 => ?_) (fun c60 => ?_)
      · replace h := h.1 c60
        refine mz_Go.steps (n := 5) (k2 := (if ¬ x3 = (-1) then 92 else 75, [some (.ref 0), some (.int (x1 + 1)), some (.int x2), some (.int x3), some (.int x4)], [], M6)) (P := []) rfl mz_o0 ?_
        refine mz_Go.ite (fun c72 => ?_) (fun c72 => ?_)
        · replace h := h.1 c72
          refine mz_Go.steps (n := 4) (k2 := (9, [some (.ref 0), some (.int (x1 + 1)), some (.int x2), some (.int x3), some (.int (x4 + 1))], [], M6)) (P := []) rfl mz_o0 ?_
          exact h
        · replace h := h.2 c72
          refine mz_Go.steps (n := 3) (k2 := (81, [some (.ref 0), some (.int (x1 + 1)), some (.int x2), some (.int x3), some (.int x4)], [.int x4, .ref 2], M6)) (P := []) rfl mz_o0 ?_
          obtain ⟨r10, k10, h⟩ := h
          refine mz_Go.callV (As := [.int x4]) (rest := []) (rfl : mz_find 81 (mz_rows mq_X9_normals) = some (81, .invokevirtual 158, 3, 8, 0, 90)) (rfl : mz_nth mq_tab 8 = some mq_X0_generates) rfl rfl rfl rfl (Nat.le_of_ble_eq_true rfl) (Nat.le_of_ble_eq_true rfl) k10 ?_
          show mq_G mq_X9_normals (84, [some (.ref 0), some (.int (x1 + 1)), some (.int x2), some (.int x3), some (.int x4)], [.int r10], M6) res
          refine mz_Go.steps (n := 1) (k2 := (if r10 = 0 then 92 else 87, [some (.ref 0), some (.int (x1 + 1)), some (.int x2), some (.int x3), some (.int x4)], [], M6)) (P := []) rfl mz_o0 ?_
          refine mz_Go.ite (fun c84 => ?_) (fun c84 => ?_)
          · replace h := h.1 c84
            refine mz_Go.steps (n := 4) (k2 := (9, [some (.ref 0), some (.int (x1 + 1)), some (.int x2), some (.int x3), some (.int (x4 + 1))], [], M6)) (P := []) rfl mz_o0 ?_
            exact h
          · replace h := h.2 c84
            refine mz_Go.steps (n := 5) (k2 := (9, [some (.ref 0), some (.int (x1 + 1)), some (.int x2), some (.int x4), some (.int (x4 + 1))], [], M6)) (P := []) rfl mz_o0 ?_
            exact h
      · replace h := h.2 c60
        refine mz_Go.steps (n := 6) (k2 := (if ¬ x3 = (-1) then 92 else 75, [some (.ref 0), some (.int (x1 + 1)), some (.int x4), some (.int x3), some (.int x4)], [], M6)) (P := []) rfl mz_o0 ?_
        refine mz_Go.ite (fun c72 => ?_) (fun c72 => ?_)
        · replace h := h.1 c72
          refine mz_Go.steps (n := 4) (k2 := (9, [some (.ref 0), some (.int (x1 + 1)), some (.int x4), some (.int x3), some (.int (x4 + 1))], [], M6)) (P := []) rfl mz_o0 ?_
          exact h
        · replace h := h.2 c72
          refine mz_Go.steps (n := 3) (k2 := (81, [some (.ref 0), some (.int (x1 + 1)), some (.int x4), some (.int x3), some (.int x4)], [.int x4, .ref 2], M6)) (P := []) rfl mz_o0 ?_
          obtain ⟨r13, k13, h⟩ := h
          refine mz_Go.callV (As := [.int x4]) (rest := []) (rfl : mz_find 81 (mz_rows mq_X9_normals) = some (81, .invokevirtual 158, 3, 8, 0, 90)) (rfl : mz_nth mq_tab 8 = some mq_X0_generates) rfl rfl rfl rfl (Nat.le_of_ble_eq_true rfl) (Nat.le_of_ble_eq_true rfl) k13 ?_
          show mq_G mq_X9_normals (84, [some (.ref 0), some (.int (x1 + 1)), some (.int x4), some (.int x3), some (.int x4)], [.int r13], M6) res
          refine mz_Go.steps (n := 1) (k2 := (if r13 = 0 then 92 else 87, [some (.ref 0), some (.int (x1 + 1)), some (.int x4), some (.int x3), some (.int x4)], [], M6)) (P := []) rfl mz_o0 ?_
          refine mz_Go.ite (fun c84 => ?_) (fun c84 => ?_)
          · replace h := h.1 c84
            refine mz_Go.steps (n := 4) (k2 := (9, [some (.ref 0), some (.int (x1 + 1)), some (.int x4), some (.int x3), some (.int (x4 + 1))], [], M6)) (P := []) rfl mz_o0 ?_
            exact h
          · replace h := h.2 c84
            refine mz_Go.steps (n := 5) (k2 := (9, [some (.ref 0), some (.int (x1 + 1)), some (.int x4), some (.int x4), some (.int (x4 + 1))], [], M6)) (P := []) rfl mz_o0 ?_
            exact h
set_option maxRecDepth 100000 in
set_option maxHeartbeats 4000000 in
theorem t_X9_complete_0 (x1 : Int32) (M : mz_M) {res : mz_O} (h :
    (∃ (r1 : Int32), (mq_C mq_X9_isElement [.ref 0, .int x1] M (some (.int r1), M)) ∧
    ((¬ r1 = 0 →
      mq_G mq_X9_complete (14, [some (.ref 0), some (.int x1), some (.int 0), some (.int 1)], [], M) res) ∧
    (¬ (¬ r1 = 0) →
      res = (some (.int (-1)), M))))) :
    mq_G mq_X9_complete (0, [some (.ref 0), some (.int x1), none, none], [], M) res := by
  refine mz_Go.steps (n := 2) (k2 := (2, [some (.ref 0), some (.int x1), none, none], [.int x1, .ref 0], M)) (P := []) rfl mz_o0 ?_
  obtain ⟨r1, k1, h⟩ := h
  refine mz_Go.callV (As := [.int x1]) (rest := []) (rfl : mz_find 2 (mz_rows mq_X9_complete) = some (2, .invokevirtual 103, 3, 123, 0, 68)) (rfl : mz_nth mq_tab 123 = some mq_X9_isElement) rfl rfl rfl rfl (Nat.le_of_ble_eq_true rfl) (Nat.le_of_ble_eq_true rfl) k1 ?_
  show mq_G mq_X9_complete (5, [some (.ref 0), some (.int x1), none, none], [.int r1], M) res
  refine mz_Go.steps (n := 1) (k2 := (if ¬ r1 = 0 then 10 else 8, [some (.ref 0), some (.int x1), none, none], [], M)) (P := []) rfl mz_o0 ?_
  refine mz_Go.ite (fun c5 => ?_) (fun c5 => ?_)
  · replace h := h.1 c5
    refine mz_Go.steps (n := 4) (k2 := (14, [some (.ref 0), some (.int x1), some (.int 0), some (.int 1)], [], M)) (P := []) rfl mz_o0 ?_
    exact h
  · replace h := h.2 c5
    refine mz_Go.steps (n := 1) (k2 := (9, [some (.ref 0), some (.int x1), none, none], [.int (-1)], M)) (P := []) rfl mz_o0 ?_
    rw [h]
    exact mz_Go.iret (rfl : mz_find 9 (mz_rows mq_X9_complete) = some (9, .ireturn, 1, 0, 0, 0)) rfl
set_option maxRecDepth 100000 in
set_option maxHeartbeats 4000000 in
theorem t_X9_complete_14 (x1 : Int32) (x2 : Int32) (x3 : Int32) (M : mz_M) {res : mz_O} (h :
    (((M.1 2 1) ≤ x3 →
      res = (some (.int x2), M)) ∧
    (¬ ((M.1 2 1) ≤ x3) →
      (∃ (r2 : Int32), (mq_C mq_X0_hasSubfield [.ref 2, .int x3] M (some (.int r2), M)) ∧
      ((r2 = 0 →
        mq_G mq_X9_complete (14, [some (.ref 0), some (.int x1), some (.int x2), some (.int (x3 + 1))], [], M) res) ∧
      (¬ (r2 = 0) →
        (∃ (M4 : mz_M), (mq_C mq_X2_fillsSubbase [.ref 1, .ref 76, .int x3] M (none, M4)) ∧
        (∃ (M5 : mz_M), (mq_C mq_X2_fillsOverSubbase [.ref 1, .ref 75, .ref 76, .int x3, .int x1] M4 (none, M5)) ∧
        (∃ (r6 : Int32) (M6 : mz_M), (mq_C mq_X1_holds [.ref 5, .ref 75, .int (M5.1 2 1)] M5 (some (.int r6), M6)) ∧
        ((r6 = 0 →
          mq_G mq_X9_complete (14, [some (.ref 0), some (.int x1), some (.int (x2 ||| 0)), some (.int (x3 + 1))], [], M6) res) ∧
        (¬ (r6 = 0) →
          mq_G mq_X9_complete (14, [some (.ref 0), some (.int x1), some (.int (x2 ||| ((1 : Int32) <<< (x3 &&& 31)))), some (.int (x3 + 1))], [], M6) res))))))))))) :
    mq_G mq_X9_complete (14, [some (.ref 0), some (.int x1), some (.int x2), some (.int x3)], [], M) res := by
  refine mz_Go.steps (n := 5) (k2 := (if (M.1 2 1) ≤ x3 then 102 else 25, [some (.ref 0), some (.int x1), some (.int x2), some (.int x3)], [], M)) (P := []) rfl mz_o0 ?_
  refine mz_Go.ite (fun c22 => ?_) (fun c22 => ?_)
  · replace h := h.1 c22
    refine mz_Go.steps (n := 1) (k2 := (103, [some (.ref 0), some (.int x1), some (.int x2), some (.int x3)], [.int x2], M)) (P := []) rfl mz_o0 ?_
    rw [h]
    exact mz_Go.iret (rfl : mz_find 103 (mz_rows mq_X9_complete) = some (103, .ireturn, 1, 0, 0, 0)) rfl
  · replace h := h.2 c22
    refine mz_Go.steps (n := 3) (k2 := (30, [some (.ref 0), some (.int x1), some (.int x2), some (.int x3)], [.int x3, .ref 2], M)) (P := []) rfl mz_o0 ?_
    obtain ⟨r2, k2, h⟩ := h
    refine mz_Go.callV (As := [.int x3]) (rest := []) (rfl : mz_find 30 (mz_rows mq_X9_complete) = some (30, .invokevirtual 137, 3, 11, 0, 83)) (rfl : mz_nth mq_tab 11 = some mq_X0_hasSubfield) rfl rfl rfl rfl (Nat.le_of_ble_eq_true rfl) (Nat.le_of_ble_eq_true rfl) k2 ?_
    show mq_G mq_X9_complete (33, [some (.ref 0), some (.int x1), some (.int x2), some (.int x3)], [.int r2], M) res
    refine mz_Go.steps (n := 1) (k2 := (if r2 = 0 then 96 else 36, [some (.ref 0), some (.int x1), some (.int x2), some (.int x3)], [], M)) (P := []) rfl mz_o0 ?_
    refine mz_Go.ite (fun c33 => ?_) (fun c33 => ?_)
    · replace h := h.1 c33
      refine mz_Go.steps (n := 2) (k2 := (14, [some (.ref 0), some (.int x1), some (.int x2), some (.int (x3 + 1))], [], M)) (P := []) rfl mz_o0 ?_
      exact h
    · replace h := h.2 c33
      refine mz_Go.steps (n := 5) (k2 := (45, [some (.ref 0), some (.int x1), some (.int x2), some (.int x3)], [.int x3, .ref 76, .ref 1], M)) (P := []) rfl mz_o0 ?_
      obtain ⟨M4, k4, h⟩ := h
      refine mz_Go.callV (As := [.ref 76, .int x3]) (rest := []) (rfl : mz_find 45 (mz_rows mq_X9_complete) = some (45, .invokevirtual 161, 3, 29, 0, 92)) (rfl : mz_nth mq_tab 29 = some mq_X2_fillsSubbase) rfl rfl rfl rfl (Nat.le_of_ble_eq_true rfl) (Nat.le_of_ble_eq_true rfl) k4 ?_
      show mq_G mq_X9_complete (48, [some (.ref 0), some (.int x1), some (.int x2), some (.int x3)], [], M4) res
      refine mz_Go.steps (n := 8) (k2 := (62, [some (.ref 0), some (.int x1), some (.int x2), some (.int x3)], [.int x1, .int x3, .ref 76, .ref 75, .ref 1], M4)) (P := []) rfl mz_o0 ?_
      obtain ⟨M5, k5, h⟩ := h
      refine mz_Go.callV (As := [.ref 75, .ref 76, .int x3, .int x1]) (rest := []) (rfl : mz_find 62 (mz_rows mq_X9_complete) = some (62, .invokevirtual 180, 3, 30, 0, 99)) (rfl : mz_nth mq_tab 30 = some mq_X2_fillsOverSubbase) rfl rfl rfl rfl (Nat.le_of_ble_eq_true rfl) (Nat.le_of_ble_eq_true rfl) k5 ?_
      show mq_G mq_X9_complete (65, [some (.ref 0), some (.int x1), some (.int x2), some (.int x3)], [], M5) res
      refine mz_Go.steps (n := 8) (k2 := (81, [some (.ref 0), some (.int x1), some (.int x2), some (.int x3)], [.int (M5.1 2 1), .ref 75, .ref 5, .int x2], M5)) (P := []) rfl mz_o0 ?_
      obtain ⟨r6, M6, k6, h⟩ := h
      refine mz_Go.callV (As := [.ref 75, .int (M5.1 2 1)]) (rest := [.int x2]) (rfl : mz_find 81 (mz_rows mq_X9_complete) = some (81, .invokevirtual 171, 3, 20, 0, 97)) (rfl : mz_nth mq_tab 20 = some mq_X1_holds) rfl rfl rfl rfl (Nat.le_of_ble_eq_true rfl) (Nat.le_of_ble_eq_true rfl) k6 ?_
      show mq_G mq_X9_complete (84, [some (.ref 0), some (.int x1), some (.int x2), some (.int x3)], [.int r6, .int x2], M6) res
      refine mz_Go.steps (n := 1) (k2 := (if r6 = 0 then 93 else 87, [some (.ref 0), some (.int x1), some (.int x2), some (.int x3)], [.int x2], M6)) (P := []) rfl mz_o0 ?_
      refine mz_Go.ite (fun c84 => ?_) (fun c84 => ?_)
      · replace h := h.1 c84
        refine mz_Go.steps (n := 5) (k2 := (14, [some (.ref 0), some (.int x1), some (.int (x2 ||| 0)), some (.int (x3 + 1))], [], M6)) (P := []) rfl mz_o0 ?_
        exact h
      · replace h := h.2 c84
        refine mz_Go.steps (n := 8) (k2 := (14, [some (.ref 0), some (.int x1), some (.int (x2 ||| ((1 : Int32) <<< (x3 &&& 31)))), some (.int (x3 + 1))], [], M6)) (P := []) rfl mz_o0 ?_
        exact h
set_option maxRecDepth 100000 in
set_option maxHeartbeats 4000000 in
theorem t_X9_leastNormal_0 (M : mz_M) {res : mz_O} (h :
    mq_G mq_X9_leastNormal (9, [some (.ref 0), some (.int 0), some (.int (-1)), some (.int 0), some (.int 1), none], [], M) res) :
    mq_G mq_X9_leastNormal (0, [some (.ref 0), none, none, none, none, none], [], M) res := by
  refine mz_Go.steps (n := 8) (k2 := (9, [some (.ref 0), some (.int 0), some (.int (-1)), some (.int 0), some (.int 1), none], [], M)) (P := []) rfl mz_o0 ?_
  exact h
set_option maxRecDepth 100000 in
set_option maxHeartbeats 4000000 in
theorem t_X9_leastNormal_9 (x1 : Int32) (x2 : Int32) (x3 : Int32) (x4 : Int32) (o5 : Option Value) (M : mz_M) {res : mz_O} (h :
    (((M.1 2 2) ≤ x4 →
      (∃ (M2 : mz_M), (mq_C mq_X6_empties [.ref 73] M (none, M2)) ∧
      (∃ (M3 : mz_M), (mq_C mq_X6_puts [.ref 73, .long (x2.toInt64)] M2 (none, M3)) ∧
      (∃ (M4 : mz_M), (mq_C mq_X6_puts [.ref 73, .long (x3.toInt64)] M3 (none, M4)) ∧
      res = (some (.int x1), M4))))) ∧
    (¬ ((M.1 2 2) ≤ x4) →
      (∃ (M5 : mz_M), (mq_C mq_X0_fillsConjugates [.ref 2, .ref 75, .int x4] M (none, M5)) ∧
      (∃ (r6 : Int32) (M6 : mz_M), (mq_C mq_X1_holds [.ref 5, .ref 75, .int (M5.1 2 1)] M5 (some (.int r6), M6)) ∧
      ((r6 = 0 →
        mq_G mq_X9_leastNormal (9, [some (.ref 0), some (.int x1), some (.int x2), some (.int x3), some (.int (x4 + 1)), o5], [], M6) res) ∧
      (¬ (r6 = 0) →
        (∃ (r8 : Int32), (mq_C mq_X2_bitsOfFirst [.ref 1, .ref 75] M6 (some (.int r8), M6)) ∧
        ((x2 = (-1) →
          ((¬ r8 = r8 →
            mq_G mq_X9_leastNormal (9, [some (.ref 0), some (.int r8), some (.int x4), some (.int (0 + 0 : Int32)), some (.int (x4 + 1)), some (.int r8)], [], M6) res) ∧
          (¬ (¬ r8 = r8) →
            mq_G mq_X9_leastNormal (9, [some (.ref 0), some (.int r8), some (.int x4), some (.int (0 + 1 : Int32)), some (.int (x4 + 1)), some (.int r8)], [], M6) res))) ∧
        (¬ (x2 = (-1)) →
          ((x1 ≤ r8 →
            ((¬ r8 = x1 →
              mq_G mq_X9_leastNormal (9, [some (.ref 0), some (.int x1), some (.int x2), some (.int (x3 + 0)), some (.int (x4 + 1)), some (.int r8)], [], M6) res) ∧
            (¬ (¬ r8 = x1) →
              mq_G mq_X9_leastNormal (9, [some (.ref 0), some (.int x1), some (.int x2), some (.int (x3 + 1)), some (.int (x4 + 1)), some (.int r8)], [], M6) res))) ∧
          (¬ (x1 ≤ r8) →
            ((¬ r8 = r8 →
              mq_G mq_X9_leastNormal (9, [some (.ref 0), some (.int r8), some (.int x4), some (.int (0 + 0 : Int32)), some (.int (x4 + 1)), some (.int r8)], [], M6) res) ∧
            (¬ (¬ r8 = r8) →
              mq_G mq_X9_leastNormal (9, [some (.ref 0), some (.int r8), some (.int x4), some (.int (0 + 1 : Int32)), some (.int (x4 + 1)), some (.int r8)], [], M6) res)))))))))))))) :
    mq_G mq_X9_leastNormal (9, [some (.ref 0), some (.int x1), some (.int x2), some (.int x3), some (.int x4), o5], [], M) res := by
  refine mz_Go.steps (n := 5) (k2 := (if (M.1 2 2) ≤ x4 then 107 else 21, [some (.ref 0), some (.int x1), some (.int x2), some (.int x3), some (.int x4), o5], [], M)) (P := []) rfl mz_o0 ?_
  refine mz_Go.ite (fun c18 => ?_) (fun c18 => ?_)
  · replace h := h.1 c18
    refine mz_Go.steps (n := 2) (k2 := (111, [some (.ref 0), some (.int x1), some (.int x2), some (.int x3), some (.int x4), o5], [.ref 73], M)) (P := []) rfl mz_o0 ?_
    obtain ⟨M2, k2, h⟩ := h
    refine mz_Go.callV (As := []) (rest := []) (rfl : mz_find 111 (mz_rows mq_X9_leastNormal) = some (111, .invokevirtual 120, 3, 44, 0, 76)) (rfl : mz_nth mq_tab 44 = some mq_X6_empties) rfl rfl rfl rfl (Nat.le_of_ble_eq_true rfl) (Nat.le_of_ble_eq_true rfl) k2 ?_
    show mq_G mq_X9_leastNormal (114, [some (.ref 0), some (.int x1), some (.int x2), some (.int x3), some (.int x4), o5], [], M2) res
    refine mz_Go.steps (n := 4) (k2 := (120, [some (.ref 0), some (.int x1), some (.int x2), some (.int x3), some (.int x4), o5], [.long (x2.toInt64), .ref 73], M2)) (P := []) rfl mz_o0 ?_
    obtain ⟨M3, k3, h⟩ := h
    refine mz_Go.callV (As := [.long (x2.toInt64)]) (rest := []) (rfl : mz_find 120 (mz_rows mq_X9_leastNormal) = some (120, .invokevirtual 124, 3, 45, 0, 78)) (rfl : mz_nth mq_tab 45 = some mq_X6_puts) rfl rfl rfl rfl (Nat.le_of_ble_eq_true rfl) (Nat.le_of_ble_eq_true rfl) k3 ?_
    show mq_G mq_X9_leastNormal (123, [some (.ref 0), some (.int x1), some (.int x2), some (.int x3), some (.int x4), o5], [], M3) res
    refine mz_Go.steps (n := 4) (k2 := (129, [some (.ref 0), some (.int x1), some (.int x2), some (.int x3), some (.int x4), o5], [.long (x3.toInt64), .ref 73], M3)) (P := []) rfl mz_o0 ?_
    obtain ⟨M4, k4, h⟩ := h
    refine mz_Go.callV (As := [.long (x3.toInt64)]) (rest := []) (rfl : mz_find 129 (mz_rows mq_X9_leastNormal) = some (129, .invokevirtual 124, 3, 45, 0, 78)) (rfl : mz_nth mq_tab 45 = some mq_X6_puts) rfl rfl rfl rfl (Nat.le_of_ble_eq_true rfl) (Nat.le_of_ble_eq_true rfl) k4 ?_
    show mq_G mq_X9_leastNormal (132, [some (.ref 0), some (.int x1), some (.int x2), some (.int x3), some (.int x4), o5], [], M4) res
    refine mz_Go.steps (n := 1) (k2 := (133, [some (.ref 0), some (.int x1), some (.int x2), some (.int x3), some (.int x4), o5], [.int x1], M4)) (P := []) rfl mz_o0 ?_
    rw [h]
    exact mz_Go.iret (rfl : mz_find 133 (mz_rows mq_X9_leastNormal) = some (133, .ireturn, 1, 0, 0, 0)) rfl
  · replace h := h.2 c18
    refine mz_Go.steps (n := 5) (k2 := (31, [some (.ref 0), some (.int x1), some (.int x2), some (.int x3), some (.int x4), o5], [.int x4, .ref 75, .ref 2], M)) (P := []) rfl mz_o0 ?_
    obtain ⟨M5, k5, h⟩ := h
    refine mz_Go.callV (As := [.ref 75, .int x4]) (rest := []) (rfl : mz_find 31 (mz_rows mq_X9_leastNormal) = some (31, .invokevirtual 168, 3, 17, 0, 95)) (rfl : mz_nth mq_tab 17 = some mq_X0_fillsConjugates) rfl rfl rfl rfl (Nat.le_of_ble_eq_true rfl) (Nat.le_of_ble_eq_true rfl) k5 ?_
    show mq_G mq_X9_leastNormal (34, [some (.ref 0), some (.int x1), some (.int x2), some (.int x3), some (.int x4), o5], [], M5) res
    refine mz_Go.steps (n := 7) (k2 := (49, [some (.ref 0), some (.int x1), some (.int x2), some (.int x3), some (.int x4), o5], [.int (M5.1 2 1), .ref 75, .ref 5], M5)) (P := []) rfl mz_o0 ?_
    obtain ⟨r6, M6, k6, h⟩ := h
    refine mz_Go.callV (As := [.ref 75, .int (M5.1 2 1)]) (rest := []) (rfl : mz_find 49 (mz_rows mq_X9_leastNormal) = some (49, .invokevirtual 171, 3, 20, 0, 97)) (rfl : mz_nth mq_tab 20 = some mq_X1_holds) rfl rfl rfl rfl (Nat.le_of_ble_eq_true rfl) (Nat.le_of_ble_eq_true rfl) k6 ?_
    show mq_G mq_X9_leastNormal (52, [some (.ref 0), some (.int x1), some (.int x2), some (.int x3), some (.int x4), o5], [.int r6], M6) res
    refine mz_Go.steps (n := 1) (k2 := (if r6 = 0 then 101 else 55, [some (.ref 0), some (.int x1), some (.int x2), some (.int x3), some (.int x4), o5], [], M6)) (P := []) rfl mz_o0 ?_
    refine mz_Go.ite (fun c52 => ?_) (fun c52 => ?_)
    · replace h := h.1 c52
      refine mz_Go.steps (n := 2) (k2 := (9, [some (.ref 0), some (.int x1), some (.int x2), some (.int x3), some (.int (x4 + 1)), o5], [], M6)) (P := []) rfl mz_o0 ?_
      exact h
    · replace h := h.2 c52
      refine mz_Go.steps (n := 4) (k2 := (63, [some (.ref 0), some (.int x1), some (.int x2), some (.int x3), some (.int x4), o5], [.ref 75, .ref 1], M6)) (P := []) rfl mz_o0 ?_
      obtain ⟨r8, k8, h⟩ := h
      refine mz_Go.callV (As := [.ref 75]) (rest := []) (rfl : mz_find 63 (mz_rows mq_X9_leastNormal) = some (63, .invokevirtual 184, 3, 23, 0, 100)) (rfl : mz_nth mq_tab 23 = some mq_X2_bitsOfFirst) rfl rfl rfl rfl (Nat.le_of_ble_eq_true rfl) (Nat.le_of_ble_eq_true rfl) k8 ?_
      show mq_G mq_X9_leastNormal (66, [some (.ref 0), some (.int x1), some (.int x2), some (.int x3), some (.int x4), o5], [.int r8], M6) res
      refine mz_Go.steps (n := 4) (k2 := (if x2 = (-1) then 79 else 73, [some (.ref 0), some (.int x1), some (.int x2), some (.int x3), some (.int x4), some (.int r8)], [], M6)) (P := []) rfl mz_o0 ?_
      refine mz_Go.ite (fun c70 => ?_) (fun c70 => ?_)
      · replace h := h.1 c70
        refine mz_Go.steps (n := 10) (k2 := (if ¬ r8 = r8 then 98 else 94, [some (.ref 0), some (.int r8), some (.int x4), some (.int 0), some (.int x4), some (.int r8)], [.int 0], M6)) (P := []) rfl mz_o0 ?_
        refine mz_Go.ite (fun c91 => ?_) (fun c91 => ?_)
        · replace h := h.1 c91
          refine mz_Go.steps (n := 5) (k2 := (9, [some (.ref 0), some (.int r8), some (.int x4), some (.int (0 + 0 : Int32)), some (.int (x4 + 1)), some (.int r8)], [], M6)) (P := []) rfl mz_o0 ?_
          exact h
        · replace h := h.2 c91
          refine mz_Go.steps (n := 6) (k2 := (9, [some (.ref 0), some (.int r8), some (.int x4), some (.int (0 + 1 : Int32)), some (.int (x4 + 1)), some (.int r8)], [], M6)) (P := []) rfl mz_o0 ?_
          exact h
      · replace h := h.2 c70
        refine mz_Go.steps (n := 3) (k2 := (if x1 ≤ r8 then 87 else 79, [some (.ref 0), some (.int x1), some (.int x2), some (.int x3), some (.int x4), some (.int r8)], [], M6)) (P := []) rfl mz_o0 ?_
        refine mz_Go.ite (fun c76 => ?_) (fun c76 => ?_)
        · replace h := h.1 c76
          refine mz_Go.steps (n := 4) (k2 := (if ¬ r8 = x1 then 98 else 94, [some (.ref 0), some (.int x1), some (.int x2), some (.int x3), some (.int x4), some (.int r8)], [.int x3], M6)) (P := []) rfl mz_o0 ?_
          refine mz_Go.ite (fun c91 => ?_) (fun c91 => ?_)
          · replace h := h.1 c91
            refine mz_Go.steps (n := 5) (k2 := (9, [some (.ref 0), some (.int x1), some (.int x2), some (.int (x3 + 0)), some (.int (x4 + 1)), some (.int r8)], [], M6)) (P := []) rfl mz_o0 ?_
            exact h
          · replace h := h.2 c91
            refine mz_Go.steps (n := 6) (k2 := (9, [some (.ref 0), some (.int x1), some (.int x2), some (.int (x3 + 1)), some (.int (x4 + 1)), some (.int r8)], [], M6)) (P := []) rfl mz_o0 ?_
            exact h
        · replace h := h.2 c76
          refine mz_Go.steps (n := 10) (k2 := (if ¬ r8 = r8 then 98 else 94, [some (.ref 0), some (.int r8), some (.int x4), some (.int 0), some (.int x4), some (.int r8)], [.int 0], M6)) (P := []) rfl mz_o0 ?_
          refine mz_Go.ite (fun c91 => ?_) (fun c91 => ?_)
          · replace h := h.1 c91
            refine mz_Go.steps (n := 5) (k2 := (9, [some (.ref 0), some (.int r8), some (.int x4), some (.int (0 + 0 : Int32)), some (.int (x4 + 1)), some (.int r8)], [], M6)) (P := []) rfl mz_o0 ?_
            exact h
          · replace h := h.2 c91
            refine mz_Go.steps (n := 6) (k2 := (9, [some (.ref 0), some (.int r8), some (.int x4), some (.int (0 + 1 : Int32)), some (.int (x4 + 1)), some (.int r8)], [], M6)) (P := []) rfl mz_o0 ?_
            exact h
set_option maxRecDepth 100000 in
set_option maxHeartbeats 4000000 in
theorem t_X9_leastPowers_0 (M : mz_M) {res : mz_O} (h :
    mq_G mq_X9_leastPowers (9, [some (.ref 0), some (.int 0), some (.int (-1)), some (.int 0), some (.int 1), none], [], M) res) :
    mq_G mq_X9_leastPowers (0, [some (.ref 0), none, none, none, none, none], [], M) res := by
  refine mz_Go.steps (n := 8) (k2 := (9, [some (.ref 0), some (.int 0), some (.int (-1)), some (.int 0), some (.int 1), none], [], M)) (P := []) rfl mz_o0 ?_
  exact h
set_option maxRecDepth 100000 in
set_option maxHeartbeats 4000000 in
theorem t_X9_leastPowers_9 (x1 : Int32) (x2 : Int32) (x3 : Int32) (x4 : Int32) (o5 : Option Value) (M : mz_M) {res : mz_O} (h :
    (((M.1 2 2) ≤ x4 →
      (∃ (M2 : mz_M), (mq_C mq_X6_empties [.ref 73] M (none, M2)) ∧
      (∃ (M3 : mz_M), (mq_C mq_X6_puts [.ref 73, .long (x2.toInt64)] M2 (none, M3)) ∧
      (∃ (M4 : mz_M), (mq_C mq_X6_puts [.ref 73, .long (x3.toInt64)] M3 (none, M4)) ∧
      res = (some (.int x1), M4))))) ∧
    (¬ ((M.1 2 2) ≤ x4) →
      (∃ (M5 : mz_M), (mq_C mq_X0_fillsPowers [.ref 2, .ref 75, .int x4] M (none, M5)) ∧
      (∃ (r6 : Int32) (M6 : mz_M), (mq_C mq_X1_holds [.ref 5, .ref 75, .int (M5.1 2 1)] M5 (some (.int r6), M6)) ∧
      ((r6 = 0 →
        mq_G mq_X9_leastPowers (9, [some (.ref 0), some (.int x1), some (.int x2), some (.int x3), some (.int (x4 + 1)), o5], [], M6) res) ∧
      (¬ (r6 = 0) →
        (∃ (r8 : Int32), (mq_C mq_X2_bitsOfAll [.ref 1, .ref 75] M6 (some (.int r8), M6)) ∧
        ((x2 = (-1) →
          ((¬ r8 = r8 →
            mq_G mq_X9_leastPowers (9, [some (.ref 0), some (.int r8), some (.int x4), some (.int (0 + 0 : Int32)), some (.int (x4 + 1)), some (.int r8)], [], M6) res) ∧
          (¬ (¬ r8 = r8) →
            mq_G mq_X9_leastPowers (9, [some (.ref 0), some (.int r8), some (.int x4), some (.int (0 + 1 : Int32)), some (.int (x4 + 1)), some (.int r8)], [], M6) res))) ∧
        (¬ (x2 = (-1)) →
          ((x1 ≤ r8 →
            ((¬ r8 = x1 →
              mq_G mq_X9_leastPowers (9, [some (.ref 0), some (.int x1), some (.int x2), some (.int (x3 + 0)), some (.int (x4 + 1)), some (.int r8)], [], M6) res) ∧
            (¬ (¬ r8 = x1) →
              mq_G mq_X9_leastPowers (9, [some (.ref 0), some (.int x1), some (.int x2), some (.int (x3 + 1)), some (.int (x4 + 1)), some (.int r8)], [], M6) res))) ∧
          (¬ (x1 ≤ r8) →
            ((¬ r8 = r8 →
              mq_G mq_X9_leastPowers (9, [some (.ref 0), some (.int r8), some (.int x4), some (.int (0 + 0 : Int32)), some (.int (x4 + 1)), some (.int r8)], [], M6) res) ∧
            (¬ (¬ r8 = r8) →
              mq_G mq_X9_leastPowers (9, [some (.ref 0), some (.int r8), some (.int x4), some (.int (0 + 1 : Int32)), some (.int (x4 + 1)), some (.int r8)], [], M6) res)))))))))))))) :
    mq_G mq_X9_leastPowers (9, [some (.ref 0), some (.int x1), some (.int x2), some (.int x3), some (.int x4), o5], [], M) res := by
  refine mz_Go.steps (n := 5) (k2 := (if (M.1 2 2) ≤ x4 then 107 else 21, [some (.ref 0), some (.int x1), some (.int x2), some (.int x3), some (.int x4), o5], [], M)) (P := []) rfl mz_o0 ?_
  refine mz_Go.ite (fun c18 => ?_) (fun c18 => ?_)
  · replace h := h.1 c18
    refine mz_Go.steps (n := 2) (k2 := (111, [some (.ref 0), some (.int x1), some (.int x2), some (.int x3), some (.int x4), o5], [.ref 73], M)) (P := []) rfl mz_o0 ?_
    obtain ⟨M2, k2, h⟩ := h
    refine mz_Go.callV (As := []) (rest := []) (rfl : mz_find 111 (mz_rows mq_X9_leastPowers) = some (111, .invokevirtual 120, 3, 44, 0, 76)) (rfl : mz_nth mq_tab 44 = some mq_X6_empties) rfl rfl rfl rfl (Nat.le_of_ble_eq_true rfl) (Nat.le_of_ble_eq_true rfl) k2 ?_
    show mq_G mq_X9_leastPowers (114, [some (.ref 0), some (.int x1), some (.int x2), some (.int x3), some (.int x4), o5], [], M2) res
    refine mz_Go.steps (n := 4) (k2 := (120, [some (.ref 0), some (.int x1), some (.int x2), some (.int x3), some (.int x4), o5], [.long (x2.toInt64), .ref 73], M2)) (P := []) rfl mz_o0 ?_
    obtain ⟨M3, k3, h⟩ := h
    refine mz_Go.callV (As := [.long (x2.toInt64)]) (rest := []) (rfl : mz_find 120 (mz_rows mq_X9_leastPowers) = some (120, .invokevirtual 124, 3, 45, 0, 78)) (rfl : mz_nth mq_tab 45 = some mq_X6_puts) rfl rfl rfl rfl (Nat.le_of_ble_eq_true rfl) (Nat.le_of_ble_eq_true rfl) k3 ?_
    show mq_G mq_X9_leastPowers (123, [some (.ref 0), some (.int x1), some (.int x2), some (.int x3), some (.int x4), o5], [], M3) res
    refine mz_Go.steps (n := 4) (k2 := (129, [some (.ref 0), some (.int x1), some (.int x2), some (.int x3), some (.int x4), o5], [.long (x3.toInt64), .ref 73], M3)) (P := []) rfl mz_o0 ?_
    obtain ⟨M4, k4, h⟩ := h
    refine mz_Go.callV (As := [.long (x3.toInt64)]) (rest := []) (rfl : mz_find 129 (mz_rows mq_X9_leastPowers) = some (129, .invokevirtual 124, 3, 45, 0, 78)) (rfl : mz_nth mq_tab 45 = some mq_X6_puts) rfl rfl rfl rfl (Nat.le_of_ble_eq_true rfl) (Nat.le_of_ble_eq_true rfl) k4 ?_
    show mq_G mq_X9_leastPowers (132, [some (.ref 0), some (.int x1), some (.int x2), some (.int x3), some (.int x4), o5], [], M4) res
    refine mz_Go.steps (n := 1) (k2 := (133, [some (.ref 0), some (.int x1), some (.int x2), some (.int x3), some (.int x4), o5], [.int x1], M4)) (P := []) rfl mz_o0 ?_
    rw [h]
    exact mz_Go.iret (rfl : mz_find 133 (mz_rows mq_X9_leastPowers) = some (133, .ireturn, 1, 0, 0, 0)) rfl
  · replace h := h.2 c18
    refine mz_Go.steps (n := 5) (k2 := (31, [some (.ref 0), some (.int x1), some (.int x2), some (.int x3), some (.int x4), o5], [.int x4, .ref 75, .ref 2], M)) (P := []) rfl mz_o0 ?_
    obtain ⟨M5, k5, h⟩ := h
    refine mz_Go.callV (As := [.ref 75, .int x4]) (rest := []) (rfl : mz_find 31 (mz_rows mq_X9_leastPowers) = some (31, .invokevirtual 188, 3, 16, 0, 101)) (rfl : mz_nth mq_tab 16 = some mq_X0_fillsPowers) rfl rfl rfl rfl (Nat.le_of_ble_eq_true rfl) (Nat.le_of_ble_eq_true rfl) k5 ?_
    show mq_G mq_X9_leastPowers (34, [some (.ref 0), some (.int x1), some (.int x2), some (.int x3), some (.int x4), o5], [], M5) res
    refine mz_Go.steps (n := 7) (k2 := (49, [some (.ref 0), some (.int x1), some (.int x2), some (.int x3), some (.int x4), o5], [.int (M5.1 2 1), .ref 75, .ref 5], M5)) (P := []) rfl mz_o0 ?_
    obtain ⟨r6, M6, k6, h⟩ := h
    refine mz_Go.callV (As := [.ref 75, .int (M5.1 2 1)]) (rest := []) (rfl : mz_find 49 (mz_rows mq_X9_leastPowers) = some (49, .invokevirtual 171, 3, 20, 0, 97)) (rfl : mz_nth mq_tab 20 = some mq_X1_holds) rfl rfl rfl rfl (Nat.le_of_ble_eq_true rfl) (Nat.le_of_ble_eq_true rfl) k6 ?_
    show mq_G mq_X9_leastPowers (52, [some (.ref 0), some (.int x1), some (.int x2), some (.int x3), some (.int x4), o5], [.int r6], M6) res
    refine mz_Go.steps (n := 1) (k2 := (if r6 = 0 then 101 else 55, [some (.ref 0), some (.int x1), some (.int x2), some (.int x3), some (.int x4), o5], [], M6)) (P := []) rfl mz_o0 ?_
    refine mz_Go.ite (fun c52 => ?_) (fun c52 => ?_)
    · replace h := h.1 c52
      refine mz_Go.steps (n := 2) (k2 := (9, [some (.ref 0), some (.int x1), some (.int x2), some (.int x3), some (.int (x4 + 1)), o5], [], M6)) (P := []) rfl mz_o0 ?_
      exact h
    · replace h := h.2 c52
      refine mz_Go.steps (n := 4) (k2 := (63, [some (.ref 0), some (.int x1), some (.int x2), some (.int x3), some (.int x4), o5], [.ref 75, .ref 1], M6)) (P := []) rfl mz_o0 ?_
      obtain ⟨r8, k8, h⟩ := h
      refine mz_Go.callV (As := [.ref 75]) (rest := []) (rfl : mz_find 63 (mz_rows mq_X9_leastPowers) = some (63, .invokevirtual 191, 3, 24, 0, 102)) (rfl : mz_nth mq_tab 24 = some mq_X2_bitsOfAll) rfl rfl rfl rfl (Nat.le_of_ble_eq_true rfl) (Nat.le_of_ble_eq_true rfl) k8 ?_
      show mq_G mq_X9_leastPowers (66, [some (.ref 0), some (.int x1), some (.int x2), some (.int x3), some (.int x4), o5], [.int r8], M6) res
      refine mz_Go.steps (n := 4) (k2 := (if x2 = (-1) then 79 else 73, [some (.ref 0), some (.int x1), some (.int x2), some (.int x3), some (.int x4), some (.int r8)], [], M6)) (P := []) rfl mz_o0 ?_
      refine mz_Go.ite (fun c70 => ?_) (fun c70 => ?_)
      · replace h := h.1 c70
        refine mz_Go.steps (n := 10) (k2 := (if ¬ r8 = r8 then 98 else 94, [some (.ref 0), some (.int r8), some (.int x4), some (.int 0), some (.int x4), some (.int r8)], [.int 0], M6)) (P := []) rfl mz_o0 ?_
        refine mz_Go.ite (fun c91 => ?_) (fun c91 => ?_)
        · replace h := h.1 c91
          refine mz_Go.steps (n := 5) (k2 := (9, [some (.ref 0), some (.int r8), some (.int x4), some (.int (0 + 0 : Int32)), some (.int (x4 + 1)), some (.int r8)], [], M6)) (P := []) rfl mz_o0 ?_
          exact h
        · replace h := h.2 c91
          refine mz_Go.steps (n := 6) (k2 := (9, [some (.ref 0), some (.int r8), some (.int x4), some (.int (0 + 1 : Int32)), some (.int (x4 + 1)), some (.int r8)], [], M6)) (P := []) rfl mz_o0 ?_
          exact h
      · replace h := h.2 c70
        refine mz_Go.steps (n := 3) (k2 := (if x1 ≤ r8 then 87 else 79, [some (.ref 0), some (.int x1), some (.int x2), some (.int x3), some (.int x4), some (.int r8)], [], M6)) (P := []) rfl mz_o0 ?_
        refine mz_Go.ite (fun c76 => ?_) (fun c76 => ?_)
        · replace h := h.1 c76
          refine mz_Go.steps (n := 4) (k2 := (if ¬ r8 = x1 then 98 else 94, [some (.ref 0), some (.int x1), some (.int x2), some (.int x3), some (.int x4), some (.int r8)], [.int x3], M6)) (P := []) rfl mz_o0 ?_
          refine mz_Go.ite (fun c91 => ?_) (fun c91 => ?_)
          · replace h := h.1 c91
            refine mz_Go.steps (n := 5) (k2 := (9, [some (.ref 0), some (.int x1), some (.int x2), some (.int (x3 + 0)), some (.int (x4 + 1)), some (.int r8)], [], M6)) (P := []) rfl mz_o0 ?_
            exact h
          · replace h := h.2 c91
            refine mz_Go.steps (n := 6) (k2 := (9, [some (.ref 0), some (.int x1), some (.int x2), some (.int (x3 + 1)), some (.int (x4 + 1)), some (.int r8)], [], M6)) (P := []) rfl mz_o0 ?_
            exact h
        · replace h := h.2 c76
          refine mz_Go.steps (n := 10) (k2 := (if ¬ r8 = r8 then 98 else 94, [some (.ref 0), some (.int r8), some (.int x4), some (.int 0), some (.int x4), some (.int r8)], [.int 0], M6)) (P := []) rfl mz_o0 ?_
          refine mz_Go.ite (fun c91 => ?_) (fun c91 => ?_)
          · replace h := h.1 c91
            refine mz_Go.steps (n := 5) (k2 := (9, [some (.ref 0), some (.int r8), some (.int x4), some (.int (0 + 0 : Int32)), some (.int (x4 + 1)), some (.int r8)], [], M6)) (P := []) rfl mz_o0 ?_
            exact h
          · replace h := h.2 c91
            refine mz_Go.steps (n := 6) (k2 := (9, [some (.ref 0), some (.int r8), some (.int x4), some (.int (0 + 1 : Int32)), some (.int (x4 + 1)), some (.int r8)], [], M6)) (P := []) rfl mz_o0 ?_
            exact h
set_option maxRecDepth 100000 in
set_option maxHeartbeats 4000000 in
theorem t_X9_types_0 (x1 : Int32) (M : mz_M) {res : mz_O} (h :
    ((x1 < 2 →
      mq_G mq_X9_types (11, [some (.ref 0), some (.int x1), none, none, none, none, none], [], M) res) ∧
    (¬ (x1 < 2) →
      ((x1 ≤ 100 →
        (∃ (r3 : Int32), (mq_C mq_X5_powersOfTwo [.int (x1 + 1)] M (some (.int r3), M)) ∧
        (∃ (r4 : Int32), (mq_C mq_X5_powersOfTwo [.int ((2 * x1) + 1)] M (some (.int r4), M)) ∧
        ((¬ r3 = x1 →
          mq_G mq_X9_types (46, [some (.ref 0), some (.int x1), some (.int (x1 + 1)), some (.int ((2 * x1) + 1)), some (.int r3), some (.int r4), none], [.int 0], M) res) ∧
        (¬ (¬ r3 = x1) →
          mq_G mq_X9_types (46, [some (.ref 0), some (.int x1), some (.int (x1 + 1)), some (.int ((2 * x1) + 1)), some (.int r3), some (.int r4), none], [.int 1], M) res))))) ∧
      (¬ (x1 ≤ 100) →
        mq_G mq_X9_types (11, [some (.ref 0), some (.int x1), none, none, none, none, none], [], M) res))))) :
    mq_G mq_X9_types (0, [some (.ref 0), some (.int x1), none, none, none, none, none], [], M) res := by
  refine mz_Go.steps (n := 3) (k2 := (if x1 < 2 then 11 else 5, [some (.ref 0), some (.int x1), none, none, none, none, none], [], M)) (P := []) rfl mz_o0 ?_
  refine mz_Go.ite (fun c2 => ?_) (fun c2 => ?_)
  · replace h := h.1 c2
    exact h
  · replace h := h.2 c2
    refine mz_Go.steps (n := 3) (k2 := (if x1 ≤ 100 then 13 else 11, [some (.ref 0), some (.int x1), none, none, none, none, none], [], M)) (P := []) rfl mz_o0 ?_
    refine mz_Go.ite (fun c8 => ?_) (fun c8 => ?_)
    · replace h := h.1 c8
      refine mz_Go.steps (n := 11) (k2 := (24, [some (.ref 0), some (.int x1), some (.int (x1 + 1)), some (.int ((2 * x1) + 1)), none, none, none], [.int (x1 + 1)], M)) (P := []) rfl mz_o0 ?_
      obtain ⟨r3, k3, h⟩ := h
      refine mz_Go.callS (As := [.int (x1 + 1)]) (rest := []) (rfl : mz_find 24 (mz_rows mq_X9_types) = some (24, .invokestatic 194, 3, 43, 0, 103)) (rfl : mz_nth mq_tab 43 = some mq_X5_powersOfTwo) (by decide) rfl rfl rfl (Nat.le_of_ble_eq_true rfl) (Nat.le_of_ble_eq_true rfl) k3 ?_
      show mq_G mq_X9_types (27, [some (.ref 0), some (.int x1), some (.int (x1 + 1)), some (.int ((2 * x1) + 1)), none, none, none], [.int r3], M) res
      refine mz_Go.steps (n := 2) (k2 := (30, [some (.ref 0), some (.int x1), some (.int (x1 + 1)), some (.int ((2 * x1) + 1)), some (.int r3), none, none], [.int ((2 * x1) + 1)], M)) (P := []) rfl mz_o0 ?_
      obtain ⟨r4, k4, h⟩ := h
      refine mz_Go.callS (As := [.int ((2 * x1) + 1)]) (rest := []) (rfl : mz_find 30 (mz_rows mq_X9_types) = some (30, .invokestatic 194, 3, 43, 0, 103)) (rfl : mz_nth mq_tab 43 = some mq_X5_powersOfTwo) (by decide) rfl rfl rfl (Nat.le_of_ble_eq_true rfl) (Nat.le_of_ble_eq_true rfl) k4 ?_
      show mq_G mq_X9_types (33, [some (.ref 0), some (.int x1), some (.int (x1 + 1)), some (.int ((2 * x1) + 1)), some (.int r3), none, none], [.int r4], M) res
      refine mz_Go.steps (n := 4) (k2 := (if ¬ r3 = x1 then 45 else 41, [some (.ref 0), some (.int x1), some (.int (x1 + 1)), some (.int ((2 * x1) + 1)), some (.int r3), some (.int r4), none], [], M)) (P := []) rfl mz_o0 ?_
      refine mz_Go.ite (fun c38 => ?_) (fun c38 => ?_)
      · replace h := h.1 c38
        refine mz_Go.steps (n := 1) (k2 := (46, [some (.ref 0), some (.int x1), some (.int (x1 + 1)), some (.int ((2 * x1) + 1)), some (.int r3), some (.int r4), none], [.int 0], M)) (P := []) rfl mz_o0 ?_
        exact h
      · replace h := h.2 c38
        refine mz_Go.steps (n := 2) (k2 := (46, [some (.ref 0), some (.int x1), some (.int (x1 + 1)), some (.int ((2 * x1) + 1)), some (.int r3), some (.int r4), none], [.int 1], M)) (P := []) rfl mz_o0 ?_
        exact h
    · replace h := h.2 c8
      exact h
set_option maxRecDepth 100000 in
set_option maxHeartbeats 4000000 in
theorem t_X9_types_11 (o0 : Option Value) (o1 : Option Value) (o2 : Option Value) (o3 : Option Value) (o4 : Option Value) (o5 : Option Value) (o6 : Option Value) (M : mz_M) {res : mz_O} (h :
    res = (some (.int (-1)), M)) :
    mq_G mq_X9_types (11, [o0, o1, o2, o3, o4, o5, o6], [], M) res := by
  refine mz_Go.steps (n := 1) (k2 := (12, [o0, o1, o2, o3, o4, o5, o6], [.int (-1)], M)) (P := []) rfl mz_o0 ?_
  rw [h]
  exact mz_Go.iret (rfl : mz_find 12 (mz_rows mq_X9_types) = some (12, .ireturn, 1, 0, 0, 0)) rfl
set_option maxRecDepth 100000 in
set_option maxHeartbeats 4000000 in
theorem t_X9_types_46 (x1 : Int32) (o2 : Option Value) (x3 : Int32) (x4 : Int32) (x5 : Int32) (o6 : Option Value) (s0 : Int32) (M : mz_M) {res : mz_O} (h :
    ((x5 = (2 * x1) →
      mq_G mq_X9_types (69, [some (.ref 0), some (.int x1), o2, some (.int x3), some (.int x4), some (.int x5), some (.int s0)], [], M) res) ∧
    (¬ (x5 = (2 * x1)) →
      ((¬ x5 = x1 →
        mq_G mq_X9_types (75, [some (.ref 0), some (.int x1), o2, some (.int x3), some (.int x4), some (.int x5), some (.int s0)], [], M) res) ∧
      (¬ (¬ x5 = x1) →
        ((¬ (x3 &&& 3) = 3 →
          mq_G mq_X9_types (75, [some (.ref 0), some (.int x1), o2, some (.int x3), some (.int x4), some (.int x5), some (.int s0)], [], M) res) ∧
        (¬ (¬ (x3 &&& 3) = 3) →
          mq_G mq_X9_types (69, [some (.ref 0), some (.int x1), o2, some (.int x3), some (.int x4), some (.int x5), some (.int s0)], [], M) res))))))) :
    mq_G mq_X9_types (46, [some (.ref 0), some (.int x1), o2, some (.int x3), some (.int x4), some (.int x5), o6], [.int s0], M) res := by
  refine mz_Go.steps (n := 6) (k2 := (if x5 = (2 * x1) then 69 else 56, [some (.ref 0), some (.int x1), o2, some (.int x3), some (.int x4), some (.int x5), some (.int s0)], [], M)) (P := []) rfl mz_o0 ?_
  refine mz_Go.ite (fun c53 => ?_) (fun c53 => ?_)
  · replace h := h.1 c53
    exact h
  · replace h := h.2 c53
    refine mz_Go.steps (n := 3) (k2 := (if ¬ x5 = x1 then 75 else 62, [some (.ref 0), some (.int x1), o2, some (.int x3), some (.int x4), some (.int x5), some (.int s0)], [], M)) (P := []) rfl mz_o0 ?_
    refine mz_Go.ite (fun c59 => ?_) (fun c59 => ?_)
    · replace h := h.1 c59
      exact h
    · replace h := h.2 c59
      refine mz_Go.steps (n := 5) (k2 := (if ¬ (x3 &&& 3) = 3 then 75 else 69, [some (.ref 0), some (.int x1), o2, some (.int x3), some (.int x4), some (.int x5), some (.int s0)], [], M)) (P := []) rfl mz_o0 ?_
      refine mz_Go.ite (fun c66 => ?_) (fun c66 => ?_)
      · replace h := h.1 c66
        exact h
      · replace h := h.2 c66
        exact h
set_option maxRecDepth 100000 in
set_option maxHeartbeats 4000000 in
theorem t_X9_types_69 (o1 : Option Value) (o2 : Option Value) (o3 : Option Value) (x4 : Int32) (x5 : Int32) (x6 : Int32) (M : mz_M) {res : mz_O} (h :
    mq_G mq_X9_types (75, [some (.ref 0), o1, o2, o3, some (.int x4), some (.int x5), some (.int (x6 ||| 2))], [], M) res) :
    mq_G mq_X9_types (69, [some (.ref 0), o1, o2, o3, some (.int x4), some (.int x5), some (.int x6)], [], M) res := by
  refine mz_Go.steps (n := 4) (k2 := (75, [some (.ref 0), o1, o2, o3, some (.int x4), some (.int x5), some (.int (x6 ||| 2))], [], M)) (P := []) rfl mz_o0 ?_
  exact h
set_option maxRecDepth 100000 in
set_option maxHeartbeats 4000000 in
theorem t_X9_types_75 (o1 : Option Value) (o2 : Option Value) (o3 : Option Value) (x4 : Int32) (x5 : Int32) (x6 : Int32) (M : mz_M) {res : mz_O} (h :
    (∃ (M1 : mz_M), (mq_C mq_X6_empties [.ref 73] M (none, M1)) ∧
    (∃ (M2 : mz_M), (mq_C mq_X6_puts [.ref 73, .long (x4.toInt64)] M1 (none, M2)) ∧
    (∃ (M3 : mz_M), (mq_C mq_X6_puts [.ref 73, .long (x5.toInt64)] M2 (none, M3)) ∧
    res = (some (.int x6), M3))))) :
    mq_G mq_X9_types (75, [some (.ref 0), o1, o2, o3, some (.int x4), some (.int x5), some (.int x6)], [], M) res := by
  refine mz_Go.steps (n := 2) (k2 := (79, [some (.ref 0), o1, o2, o3, some (.int x4), some (.int x5), some (.int x6)], [.ref 73], M)) (P := []) rfl mz_o0 ?_
  obtain ⟨M1, k1, h⟩ := h
  refine mz_Go.callV (As := []) (rest := []) (rfl : mz_find 79 (mz_rows mq_X9_types) = some (79, .invokevirtual 120, 3, 44, 0, 76)) (rfl : mz_nth mq_tab 44 = some mq_X6_empties) rfl rfl rfl rfl (Nat.le_of_ble_eq_true rfl) (Nat.le_of_ble_eq_true rfl) k1 ?_
  show mq_G mq_X9_types (82, [some (.ref 0), o1, o2, o3, some (.int x4), some (.int x5), some (.int x6)], [], M1) res
  refine mz_Go.steps (n := 4) (k2 := (89, [some (.ref 0), o1, o2, o3, some (.int x4), some (.int x5), some (.int x6)], [.long (x4.toInt64), .ref 73], M1)) (P := []) rfl mz_o0 ?_
  obtain ⟨M2, k2, h⟩ := h
  refine mz_Go.callV (As := [.long (x4.toInt64)]) (rest := []) (rfl : mz_find 89 (mz_rows mq_X9_types) = some (89, .invokevirtual 124, 3, 45, 0, 78)) (rfl : mz_nth mq_tab 45 = some mq_X6_puts) rfl rfl rfl rfl (Nat.le_of_ble_eq_true rfl) (Nat.le_of_ble_eq_true rfl) k2 ?_
  show mq_G mq_X9_types (92, [some (.ref 0), o1, o2, o3, some (.int x4), some (.int x5), some (.int x6)], [], M2) res
  refine mz_Go.steps (n := 4) (k2 := (99, [some (.ref 0), o1, o2, o3, some (.int x4), some (.int x5), some (.int x6)], [.long (x5.toInt64), .ref 73], M2)) (P := []) rfl mz_o0 ?_
  obtain ⟨M3, k3, h⟩ := h
  refine mz_Go.callV (As := [.long (x5.toInt64)]) (rest := []) (rfl : mz_find 99 (mz_rows mq_X9_types) = some (99, .invokevirtual 124, 3, 45, 0, 78)) (rfl : mz_nth mq_tab 45 = some mq_X6_puts) rfl rfl rfl rfl (Nat.le_of_ble_eq_true rfl) (Nat.le_of_ble_eq_true rfl) k3 ?_
  show mq_G mq_X9_types (102, [some (.ref 0), o1, o2, o3, some (.int x4), some (.int x5), some (.int x6)], [], M3) res
  refine mz_Go.steps (n := 1) (k2 := (104, [some (.ref 0), o1, o2, o3, some (.int x4), some (.int x5), some (.int x6)], [.int x6], M3)) (P := []) rfl mz_o0 ?_
  rw [h]
  exact mz_Go.iret (rfl : mz_find 104 (mz_rows mq_X9_types) = some (104, .ireturn, 1, 0, 0, 0)) rfl
set_option maxRecDepth 100000 in
set_option maxHeartbeats 4000000 in
theorem t_X9_base_0 (x1 : Int32) (M : mz_M) {res : mz_O} (h :
    (∃ (r1 : Int32) (M1 : mz_M), (mq_C mq_X8_elementsRead [.ref 70, .ref 75, .int (M.1 2 1), .int (M.1 2 2)] M (some (.int r1), M1)) ∧
    (∃ (M2 : mz_M), (mq_C mq_X8_empties [.ref 70] M1 (none, M2)) ∧
    ((0 ≤ r1 →
      (∃ (r4 : Int32), (mq_C mq_X9_isSlot [.ref 0, .int x1] M2 (some (.int r4), M2)) ∧
      ((¬ r4 = 0 →
        (∃ (r6 : Int32) (M6 : mz_M), (mq_C mq_X1_holds [.ref 5, .ref 75, .int (M2.1 2 1)] M2 (some (.int r6), M6)) ∧
        ((¬ r6 = 0 →
          (∃ (r8 : Int32) (M8 : mz_M), (mq_C mq_X9_setsSlot [.ref 0, .int x1, .ref 75] M6 (some (.int r8), M8)) ∧
          mq_G mq_X9_base (88, [some (.ref 0), some (.int x1), some (.int r1), some (.int 0), some (.int 0)], [], M8) res)) ∧
        (¬ (¬ r6 = 0) →
          res = (some (.int (-2)), M6))))) ∧
      (¬ (¬ r4 = 0) →
        res = (some (.int (-1)), M2))))) ∧
    (¬ (0 ≤ r1) →
      res = (some (.int r1), M2)))))) :
    mq_G mq_X9_base (0, [some (.ref 0), some (.int x1), none, none, none], [], M) res := by
  refine mz_Go.steps (n := 10) (k2 := (22, [some (.ref 0), some (.int x1), none, none, none], [.int (M.1 2 2), .int (M.1 2 1), .ref 75, .ref 70], M)) (P := []) rfl mz_o0 ?_
  obtain ⟨r1, M1, k1, h⟩ := h
  refine mz_Go.callV (As := [.ref 75, .int (M.1 2 1), .int (M.1 2 2)]) (rest := []) (rfl : mz_find 22 (mz_rows mq_X9_base) = some (22, .invokevirtual 199, 3, 58, 0, 104)) (rfl : mz_nth mq_tab 58 = some mq_X8_elementsRead) rfl rfl rfl rfl (Nat.le_of_ble_eq_true rfl) (Nat.le_of_ble_eq_true rfl) k1 ?_
  show mq_G mq_X9_base (25, [some (.ref 0), some (.int x1), none, none, none], [.int r1], M1) res
  refine mz_Go.steps (n := 3) (k2 := (30, [some (.ref 0), some (.int x1), some (.int r1), none, none], [.ref 70], M1)) (P := []) rfl mz_o0 ?_
  obtain ⟨M2, k2, h⟩ := h
  refine mz_Go.callV (As := []) (rest := []) (rfl : mz_find 30 (mz_rows mq_X9_base) = some (30, .invokevirtual 88, 3, 54, 0, 64)) (rfl : mz_nth mq_tab 54 = some mq_X8_empties) rfl rfl rfl rfl (Nat.le_of_ble_eq_true rfl) (Nat.le_of_ble_eq_true rfl) k2 ?_
  show mq_G mq_X9_base (33, [some (.ref 0), some (.int x1), some (.int r1), none, none], [], M2) res
  refine mz_Go.steps (n := 2) (k2 := (if 0 ≤ r1 then 39 else 37, [some (.ref 0), some (.int x1), some (.int r1), none, none], [], M2)) (P := []) rfl mz_o0 ?_
  refine mz_Go.ite (fun c34 => ?_) (fun c34 => ?_)
  · replace h := h.1 c34
    refine mz_Go.steps (n := 2) (k2 := (41, [some (.ref 0), some (.int x1), some (.int r1), none, none], [.int x1, .ref 0], M2)) (P := []) rfl mz_o0 ?_
    obtain ⟨r4, k4, h⟩ := h
    refine mz_Go.callV (As := [.int x1]) (rest := []) (rfl : mz_find 41 (mz_rows mq_X9_base) = some (41, .invokevirtual 203, 3, 124, 0, 105)) (rfl : mz_nth mq_tab 124 = some mq_X9_isSlot) rfl rfl rfl rfl (Nat.le_of_ble_eq_true rfl) (Nat.le_of_ble_eq_true rfl) k4 ?_
    show mq_G mq_X9_base (44, [some (.ref 0), some (.int x1), some (.int r1), none, none], [.int r4], M2) res
    refine mz_Go.steps (n := 1) (k2 := (if ¬ r4 = 0 then 49 else 47, [some (.ref 0), some (.int x1), some (.int r1), none, none], [], M2)) (P := []) rfl mz_o0 ?_
    refine mz_Go.ite (fun c44 => ?_) (fun c44 => ?_)
    · replace h := h.1 c44
      refine mz_Go.steps (n := 7) (k2 := (64, [some (.ref 0), some (.int x1), some (.int r1), none, none], [.int (M2.1 2 1), .ref 75, .ref 5], M2)) (P := []) rfl mz_o0 ?_
      obtain ⟨r6, M6, k6, h⟩ := h
      refine mz_Go.callV (As := [.ref 75, .int (M2.1 2 1)]) (rest := []) (rfl : mz_find 64 (mz_rows mq_X9_base) = some (64, .invokevirtual 171, 3, 20, 0, 97)) (rfl : mz_nth mq_tab 20 = some mq_X1_holds) rfl rfl rfl rfl (Nat.le_of_ble_eq_true rfl) (Nat.le_of_ble_eq_true rfl) k6 ?_
      show mq_G mq_X9_base (67, [some (.ref 0), some (.int x1), some (.int r1), none, none], [.int r6], M6) res
      refine mz_Go.steps (n := 1) (k2 := (if ¬ r6 = 0 then 73 else 70, [some (.ref 0), some (.int x1), some (.int r1), none, none], [], M6)) (P := []) rfl mz_o0 ?_
      refine mz_Go.ite (fun c67 => ?_) (fun c67 => ?_)
      · replace h := h.1 c67
        refine mz_Go.steps (n := 4) (k2 := (79, [some (.ref 0), some (.int x1), some (.int r1), none, none], [.ref 75, .int x1, .ref 0], M6)) (P := []) rfl mz_o0 ?_
        obtain ⟨r8, M8, k8, h⟩ := h
        refine mz_Go.callV (As := [.int x1, .ref 75]) (rest := []) (rfl : mz_find 79 (mz_rows mq_X9_base) = some (79, .invokevirtual 206, 3, 127, 0, 106)) (rfl : mz_nth mq_tab 127 = some mq_X9_setsSlot) rfl rfl rfl rfl (Nat.le_of_ble_eq_true rfl) (Nat.le_of_ble_eq_true rfl) k8 ?_
        show mq_G mq_X9_base (82, [some (.ref 0), some (.int x1), some (.int r1), none, none], [.int r8], M8) res
        refine mz_Go.steps (n := 5) (k2 := (88, [some (.ref 0), some (.int x1), some (.int r1), some (.int 0), some (.int 0)], [], M8)) (P := []) rfl mz_o0 ?_
        exact h
      · replace h := h.2 c67
        refine mz_Go.steps (n := 1) (k2 := (72, [some (.ref 0), some (.int x1), some (.int r1), none, none], [.int (-2)], M6)) (P := []) rfl mz_o0 ?_
        rw [h]
        exact mz_Go.iret (rfl : mz_find 72 (mz_rows mq_X9_base) = some (72, .ireturn, 1, 0, 0, 0)) rfl
    · replace h := h.2 c44
      refine mz_Go.steps (n := 1) (k2 := (48, [some (.ref 0), some (.int x1), some (.int r1), none, none], [.int (-1)], M2)) (P := []) rfl mz_o0 ?_
      rw [h]
      exact mz_Go.iret (rfl : mz_find 48 (mz_rows mq_X9_base) = some (48, .ireturn, 1, 0, 0, 0)) rfl
  · replace h := h.2 c34
    refine mz_Go.steps (n := 1) (k2 := (38, [some (.ref 0), some (.int x1), some (.int r1), none, none], [.int r1], M2)) (P := []) rfl mz_o0 ?_
    rw [h]
    exact mz_Go.iret (rfl : mz_find 38 (mz_rows mq_X9_base) = some (38, .ireturn, 1, 0, 0, 0)) rfl
set_option maxRecDepth 100000 in
set_option maxHeartbeats 4000000 in
theorem t_X9_base_88 (o1 : Option Value) (o2 : Option Value) (x3 : Int32) (x4 : Int32) (M : mz_M) {res : mz_O} (h :
    (((M.1 2 1) ≤ x4 →
      res = (some (.int x3), M)) ∧
    (¬ ((M.1 2 1) ≤ x4) →
      (vp_in x4 8) ∧
      (∃ (r3 : Int32), (mq_C mq_J6_bitCount_0f7a4 [.int (M.1 75 x4.toNatClampNeg)] M (some (.int r3), M)) ∧
      mq_G mq_X9_base (88, [some (.ref 0), o1, (mz_nw o2), some (.int (x3 + r3)), some (.int (x4 + 1))], [], M) res)))) :
    mq_G mq_X9_base (88, [some (.ref 0), o1, o2, some (.int x3), some (.int x4)], [], M) res := by
  refine mz_Go.steps (n := 5) (k2 := (if (M.1 2 1) ≤ x4 then 119 else 100, [some (.ref 0), o1, o2, some (.int x3), some (.int x4)], [], M)) (P := []) rfl mz_o0 ?_
  refine mz_Go.ite (fun c97 => ?_) (fun c97 => ?_)
  · replace h := h.1 c97
    refine mz_Go.steps (n := 1) (k2 := (120, [some (.ref 0), o1, o2, some (.int x3), some (.int x4)], [.int x3], M)) (P := []) rfl mz_o0 ?_
    rw [h]
    exact mz_Go.iret (rfl : mz_find 120 (mz_rows mq_X9_base) = some (120, .ireturn, 1, 0, 0, 0)) rfl
  · replace h := h.2 c97
    obtain ⟨q2, h⟩ := h
    refine mz_Go.steps (n := 5) (k2 := (108, [some (.ref 0), o1, o2, some (.int x3), some (.int x4)], [.int (M.1 75 x4.toNatClampNeg), .int x3], M)) (P := [vp_in x4 8]) rfl (mz_o1 q2) ?_
    obtain ⟨r3, k3, h⟩ := h
    refine mz_Go.callS (As := [.int (M.1 75 x4.toNatClampNeg)]) (rest := [.int x3]) (rfl : mz_find 108 (mz_rows mq_X9_base) = some (108, .invokestatic 210, 3, 252, 0, 107)) (rfl : mz_nth mq_tab 252 = some mq_J6_bitCount_0f7a4) (by decide) rfl rfl rfl (Nat.le_of_ble_eq_true rfl) (Nat.le_of_ble_eq_true rfl) k3 ?_
    show mq_G mq_X9_base (111, [some (.ref 0), o1, o2, some (.int x3), some (.int x4)], [.int r3, .int x3], M) res
    refine mz_Go.steps (n := 4) (k2 := (88, [some (.ref 0), o1, (mz_nw o2), some (.int (x3 + r3)), some (.int (x4 + 1))], [], M)) (P := []) rfl mz_o0 ?_
    exact h
set_option maxRecDepth 100000 in
set_option maxHeartbeats 4000000 in
theorem t_X9_makes_0 (x1 : Int32) (x2 : Int32) (x3 : Int32) (M : mz_M) {res : mz_O} (h :
    (∃ (r1 : Int32), (mq_C mq_X9_isSlot [.ref 0, .int x1] M (some (.int r1), M)) ∧
    ((r1 = 0 →
      res = (some (.int (-1)), M)) ∧
    (¬ (r1 = 0) →
      (∃ (r3 : Int32), (mq_C mq_X9_isElement [.ref 0, .int x2] M (some (.int r3), M)) ∧
      ((r3 = 0 →
        res = (some (.int (-1)), M)) ∧
      (¬ (r3 = 0) →
        ((x3 < 0 →
          res = (some (.int (-1)), M)) ∧
        (¬ (x3 < 0) →
          ((x3 ≤ 1 →
            ((¬ x3 = 0 →
              (∃ (M8 : mz_M), (mq_C mq_X0_fillsConjugates [.ref 2, .ref 75, .int x2] M (none, M8)) ∧
              (∃ (r9 : Int32) (M9 : mz_M), (mq_C mq_X1_holds [.ref 5, .ref 75, .int (M8.1 2 1)] M8 (some (.int r9), M9)) ∧
              ((r9 = 0 →
                res = (some (.int (-2)), M9)) ∧
              (¬ (r9 = 0) →
                (∃ (r11 : Int32) (M11 : mz_M), (mq_C mq_X9_setsSlot [.ref 0, .int x1, .ref 75] M9 (some (.int r11), M11)) ∧
                res = (some (.int r11), M11))))))) ∧
            (¬ (¬ x3 = 0) →
              (∃ (M12 : mz_M), (mq_C mq_X0_fillsPowers [.ref 2, .ref 75, .int x2] M (none, M12)) ∧
              (∃ (r13 : Int32) (M13 : mz_M), (mq_C mq_X1_holds [.ref 5, .ref 75, .int (M12.1 2 1)] M12 (some (.int r13), M13)) ∧
              ((r13 = 0 →
                res = (some (.int (-2)), M13)) ∧
              (¬ (r13 = 0) →
                (∃ (r15 : Int32) (M15 : mz_M), (mq_C mq_X9_setsSlot [.ref 0, .int x1, .ref 75] M13 (some (.int r15), M15)) ∧
                res = (some (.int r15), M15))))))))) ∧
          (¬ (x3 ≤ 1) →
            res = (some (.int (-1)), M)))))))))))) :
    mq_G mq_X9_makes (0, [some (.ref 0), some (.int x1), some (.int x2), some (.int x3)], [], M) res := by
  refine mz_Go.steps (n := 2) (k2 := (2, [some (.ref 0), some (.int x1), some (.int x2), some (.int x3)], [.int x1, .ref 0], M)) (P := []) rfl mz_o0 ?_
  obtain ⟨r1, k1, h⟩ := h
  refine mz_Go.callV (As := [.int x1]) (rest := []) (rfl : mz_find 2 (mz_rows mq_X9_makes) = some (2, .invokevirtual 203, 3, 124, 0, 105)) (rfl : mz_nth mq_tab 124 = some mq_X9_isSlot) rfl rfl rfl rfl (Nat.le_of_ble_eq_true rfl) (Nat.le_of_ble_eq_true rfl) k1 ?_
  show mq_G mq_X9_makes (5, [some (.ref 0), some (.int x1), some (.int x2), some (.int x3)], [.int r1], M) res
  refine mz_Go.steps (n := 1) (k2 := (if r1 = 0 then 25 else 8, [some (.ref 0), some (.int x1), some (.int x2), some (.int x3)], [], M)) (P := []) rfl mz_o0 ?_
  refine mz_Go.ite (fun c5 => ?_) (fun c5 => ?_)
  · replace h := h.1 c5
    refine mz_Go.steps (n := 1) (k2 := (26, [some (.ref 0), some (.int x1), some (.int x2), some (.int x3)], [.int (-1)], M)) (P := []) rfl mz_o0 ?_
    rw [h]
    exact mz_Go.iret (rfl : mz_find 26 (mz_rows mq_X9_makes) = some (26, .ireturn, 1, 0, 0, 0)) rfl
  · replace h := h.2 c5
    refine mz_Go.steps (n := 2) (k2 := (10, [some (.ref 0), some (.int x1), some (.int x2), some (.int x3)], [.int x2, .ref 0], M)) (P := []) rfl mz_o0 ?_
    obtain ⟨r3, k3, h⟩ := h
    refine mz_Go.callV (As := [.int x2]) (rest := []) (rfl : mz_find 10 (mz_rows mq_X9_makes) = some (10, .invokevirtual 103, 3, 123, 0, 68)) (rfl : mz_nth mq_tab 123 = some mq_X9_isElement) rfl rfl rfl rfl (Nat.le_of_ble_eq_true rfl) (Nat.le_of_ble_eq_true rfl) k3 ?_
    show mq_G mq_X9_makes (13, [some (.ref 0), some (.int x1), some (.int x2), some (.int x3)], [.int r3], M) res
    refine mz_Go.steps (n := 1) (k2 := (if r3 = 0 then 25 else 16, [some (.ref 0), some (.int x1), some (.int x2), some (.int x3)], [], M)) (P := []) rfl mz_o0 ?_
    refine mz_Go.ite (fun c13 => ?_) (fun c13 => ?_)
    · replace h := h.1 c13
      refine mz_Go.steps (n := 1) (k2 := (26, [some (.ref 0), some (.int x1), some (.int x2), some (.int x3)], [.int (-1)], M)) (P := []) rfl mz_o0 ?_
      rw [h]
      exact mz_Go.iret (rfl : mz_find 26 (mz_rows mq_X9_makes) = some (26, .ireturn, 1, 0, 0, 0)) rfl
    · replace h := h.2 c13
      refine mz_Go.steps (n := 2) (k2 := (if x3 < 0 then 25 else 20, [some (.ref 0), some (.int x1), some (.int x2), some (.int x3)], [], M)) (P := []) rfl mz_o0 ?_
      refine mz_Go.ite (fun c17 => ?_) (fun c17 => ?_)
      · replace h := h.1 c17
        refine mz_Go.steps (n := 1) (k2 := (26, [some (.ref 0), some (.int x1), some (.int x2), some (.int x3)], [.int (-1)], M)) (P := []) rfl mz_o0 ?_
        rw [h]
        exact mz_Go.iret (rfl : mz_find 26 (mz_rows mq_X9_makes) = some (26, .ireturn, 1, 0, 0, 0)) rfl
      · replace h := h.2 c17
        refine mz_Go.steps (n := 3) (k2 := (if x3 ≤ 1 then 27 else 25, [some (.ref 0), some (.int x1), some (.int x2), some (.int x3)], [], M)) (P := []) rfl mz_o0 ?_
        refine mz_Go.ite (fun c22 => ?_) (fun c22 => ?_)
        · replace h := h.1 c22
          refine mz_Go.steps (n := 2) (k2 := (if ¬ x3 = 0 then 46 else 31, [some (.ref 0), some (.int x1), some (.int x2), some (.int x3)], [], M)) (P := []) rfl mz_o0 ?_
          refine mz_Go.ite (fun c28 => ?_) (fun c28 => ?_)
          · replace h := h.1 c28
            refine mz_Go.steps (n := 5) (k2 := (55, [some (.ref 0), some (.int x1), some (.int x2), some (.int x3)], [.int x2, .ref 75, .ref 2], M)) (P := []) rfl mz_o0 ?_
            obtain ⟨M8, k8, h⟩ := h
            refine mz_Go.callV (As := [.ref 75, .int x2]) (rest := []) (rfl : mz_find 55 (mz_rows mq_X9_makes) = some (55, .invokevirtual 168, 3, 17, 0, 95)) (rfl : mz_nth mq_tab 17 = some mq_X0_fillsConjugates) rfl rfl rfl rfl (Nat.le_of_ble_eq_true rfl) (Nat.le_of_ble_eq_true rfl) k8 ?_
            show mq_G mq_X9_makes (58, [some (.ref 0), some (.int x1), some (.int x2), some (.int x3)], [], M8) res
            refine mz_Go.steps (n := 7) (k2 := (73, [some (.ref 0), some (.int x1), some (.int x2), some (.int x3)], [.int (M8.1 2 1), .ref 75, .ref 5], M8)) (P := []) rfl mz_o0 ?_
            obtain ⟨r9, M9, k9, h⟩ := h
            refine mz_Go.callV (As := [.ref 75, .int (M8.1 2 1)]) (rest := []) (rfl : mz_find 73 (mz_rows mq_X9_makes) = some (73, .invokevirtual 171, 3, 20, 0, 97)) (rfl : mz_nth mq_tab 20 = some mq_X1_holds) rfl rfl rfl rfl (Nat.le_of_ble_eq_true rfl) (Nat.le_of_ble_eq_true rfl) k9 ?_
            show mq_G mq_X9_makes (76, [some (.ref 0), some (.int x1), some (.int x2), some (.int x3)], [.int r9], M9) res
            refine mz_Go.steps (n := 1) (k2 := (if r9 = 0 then 91 else 79, [some (.ref 0), some (.int x1), some (.int x2), some (.int x3)], [], M9)) (P := []) rfl mz_o0 ?_
            refine mz_Go.ite (fun c76 => ?_) (fun c76 => ?_)
            · replace h := h.1 c76
              refine mz_Go.steps (n := 1) (k2 := (93, [some (.ref 0), some (.int x1), some (.int x2), some (.int x3)], [.int (-2)], M9)) (P := []) rfl mz_o0 ?_
              rw [h]
              exact mz_Go.iret (rfl : mz_find 93 (mz_rows mq_X9_makes) = some (93, .ireturn, 1, 0, 0, 0)) rfl
            · replace h := h.2 c76
              refine mz_Go.steps (n := 4) (k2 := (85, [some (.ref 0), some (.int x1), some (.int x2), some (.int x3)], [.ref 75, .int x1, .ref 0], M9)) (P := []) rfl mz_o0 ?_
              obtain ⟨r11, M11, k11, h⟩ := h
              refine mz_Go.callV (As := [.int x1, .ref 75]) (rest := []) (rfl : mz_find 85 (mz_rows mq_X9_makes) = some (85, .invokevirtual 206, 3, 127, 0, 106)) (rfl : mz_nth mq_tab 127 = some mq_X9_setsSlot) rfl rfl rfl rfl (Nat.le_of_ble_eq_true rfl) (Nat.le_of_ble_eq_true rfl) k11 ?_
              show mq_G mq_X9_makes (88, [some (.ref 0), some (.int x1), some (.int x2), some (.int x3)], [.int r11], M11) res
              refine mz_Go.steps (n := 1) (k2 := (93, [some (.ref 0), some (.int x1), some (.int x2), some (.int x3)], [.int r11], M11)) (P := []) rfl mz_o0 ?_
              rw [h]
              exact mz_Go.iret (rfl : mz_find 93 (mz_rows mq_X9_makes) = some (93, .ireturn, 1, 0, 0, 0)) rfl
          · replace h := h.2 c28
            refine mz_Go.steps (n := 5) (k2 := (40, [some (.ref 0), some (.int x1), some (.int x2), some (.int x3)], [.int x2, .ref 75, .ref 2], M)) (P := []) rfl mz_o0 ?_
            obtain ⟨M12, k12, h⟩ := h
            refine mz_Go.callV (As := [.ref 75, .int x2]) (rest := []) (rfl : mz_find 40 (mz_rows mq_X9_makes) = some (40, .invokevirtual 188, 3, 16, 0, 101)) (rfl : mz_nth mq_tab 16 = some mq_X0_fillsPowers) rfl rfl rfl rfl (Nat.le_of_ble_eq_true rfl) (Nat.le_of_ble_eq_true rfl) k12 ?_
            show mq_G mq_X9_makes (43, [some (.ref 0), some (.int x1), some (.int x2), some (.int x3)], [], M12) res
            refine mz_Go.steps (n := 8) (k2 := (73, [some (.ref 0), some (.int x1), some (.int x2), some (.int x3)], [.int (M12.1 2 1), .ref 75, .ref 5], M12)) (P := []) rfl mz_o0 ?_
            obtain ⟨r13, M13, k13, h⟩ := h
            refine mz_Go.callV (As := [.ref 75, .int (M12.1 2 1)]) (rest := []) (rfl : mz_find 73 (mz_rows mq_X9_makes) = some (73, .invokevirtual 171, 3, 20, 0, 97)) (rfl : mz_nth mq_tab 20 = some mq_X1_holds) rfl rfl rfl rfl (Nat.le_of_ble_eq_true rfl) (Nat.le_of_ble_eq_true rfl) k13 ?_
            show mq_G mq_X9_makes (76, [some (.ref 0), some (.int x1), some (.int x2), some (.int x3)], [.int r13], M13) res
            refine mz_Go.steps (n := 1) (k2 := (if r13 = 0 then 91 else 79, [some (.ref 0), some (.int x1), some (.int x2), some (.int x3)], [], M13)) (P := []) rfl mz_o0 ?_
            refine mz_Go.ite (fun c76 => ?_) (fun c76 => ?_)
            · replace h := h.1 c76
              refine mz_Go.steps (n := 1) (k2 := (93, [some (.ref 0), some (.int x1), some (.int x2), some (.int x3)], [.int (-2)], M13)) (P := []) rfl mz_o0 ?_
              rw [h]
              exact mz_Go.iret (rfl : mz_find 93 (mz_rows mq_X9_makes) = some (93, .ireturn, 1, 0, 0, 0)) rfl
            · replace h := h.2 c76
              refine mz_Go.steps (n := 4) (k2 := (85, [some (.ref 0), some (.int x1), some (.int x2), some (.int x3)], [.ref 75, .int x1, .ref 0], M13)) (P := []) rfl mz_o0 ?_
              obtain ⟨r15, M15, k15, h⟩ := h
              refine mz_Go.callV (As := [.int x1, .ref 75]) (rest := []) (rfl : mz_find 85 (mz_rows mq_X9_makes) = some (85, .invokevirtual 206, 3, 127, 0, 106)) (rfl : mz_nth mq_tab 127 = some mq_X9_setsSlot) rfl rfl rfl rfl (Nat.le_of_ble_eq_true rfl) (Nat.le_of_ble_eq_true rfl) k15 ?_
              show mq_G mq_X9_makes (88, [some (.ref 0), some (.int x1), some (.int x2), some (.int x3)], [.int r15], M15) res
              refine mz_Go.steps (n := 1) (k2 := (93, [some (.ref 0), some (.int x1), some (.int x2), some (.int x3)], [.int r15], M15)) (P := []) rfl mz_o0 ?_
              rw [h]
              exact mz_Go.iret (rfl : mz_find 93 (mz_rows mq_X9_makes) = some (93, .ireturn, 1, 0, 0, 0)) rfl
        · replace h := h.2 c22
          refine mz_Go.steps (n := 1) (k2 := (26, [some (.ref 0), some (.int x1), some (.int x2), some (.int x3)], [.int (-1)], M)) (P := []) rfl mz_o0 ?_
          rw [h]
          exact mz_Go.iret (rfl : mz_find 26 (mz_rows mq_X9_makes) = some (26, .ireturn, 1, 0, 0, 0)) rfl
set_option maxRecDepth 100000 in
set_option maxHeartbeats 4000000 in
theorem t_X9_copies_0 (x1 : Int32) (x2 : Int32) (M : mz_M) {res : mz_O} (h :
    (∃ (r1 : Int32), (mq_C mq_X9_isSlot [.ref 0, .int x1] M (some (.int r1), M)) ∧
    ((r1 = 0 →
      res = (some (.int (-1)), M)) ∧
    (¬ (r1 = 0) →
      (∃ (r3 : Int32), (mq_C mq_X9_isSlot [.ref 0, .int x2] M (some (.int r3), M)) ∧
      ((¬ r3 = 0 →
        mq_G mq_X9_copies (23, [some (.ref 0), some (.int x1), some (.int x2), some (.int 0), some (.int 0)], [], M) res) ∧
      (¬ (¬ r3 = 0) →
        res = (some (.int (-1)), M)))))))) :
    mq_G mq_X9_copies (0, [some (.ref 0), some (.int x1), some (.int x2), none, none], [], M) res := by
  refine mz_Go.steps (n := 2) (k2 := (2, [some (.ref 0), some (.int x1), some (.int x2), none, none], [.int x1, .ref 0], M)) (P := []) rfl mz_o0 ?_
  obtain ⟨r1, k1, h⟩ := h
  refine mz_Go.callV (As := [.int x1]) (rest := []) (rfl : mz_find 2 (mz_rows mq_X9_copies) = some (2, .invokevirtual 203, 3, 124, 0, 105)) (rfl : mz_nth mq_tab 124 = some mq_X9_isSlot) rfl rfl rfl rfl (Nat.le_of_ble_eq_true rfl) (Nat.le_of_ble_eq_true rfl) k1 ?_
  show mq_G mq_X9_copies (5, [some (.ref 0), some (.int x1), some (.int x2), none, none], [.int r1], M) res
  refine mz_Go.steps (n := 1) (k2 := (if r1 = 0 then 16 else 8, [some (.ref 0), some (.int x1), some (.int x2), none, none], [], M)) (P := []) rfl mz_o0 ?_
  refine mz_Go.ite (fun c5 => ?_) (fun c5 => ?_)
  · replace h := h.1 c5
    refine mz_Go.steps (n := 1) (k2 := (17, [some (.ref 0), some (.int x1), some (.int x2), none, none], [.int (-1)], M)) (P := []) rfl mz_o0 ?_
    rw [h]
    exact mz_Go.iret (rfl : mz_find 17 (mz_rows mq_X9_copies) = some (17, .ireturn, 1, 0, 0, 0)) rfl
  · replace h := h.2 c5
    refine mz_Go.steps (n := 2) (k2 := (10, [some (.ref 0), some (.int x1), some (.int x2), none, none], [.int x2, .ref 0], M)) (P := []) rfl mz_o0 ?_
    obtain ⟨r3, k3, h⟩ := h
    refine mz_Go.callV (As := [.int x2]) (rest := []) (rfl : mz_find 10 (mz_rows mq_X9_copies) = some (10, .invokevirtual 203, 3, 124, 0, 105)) (rfl : mz_nth mq_tab 124 = some mq_X9_isSlot) rfl rfl rfl rfl (Nat.le_of_ble_eq_true rfl) (Nat.le_of_ble_eq_true rfl) k3 ?_
    show mq_G mq_X9_copies (13, [some (.ref 0), some (.int x1), some (.int x2), none, none], [.int r3], M) res
    refine mz_Go.steps (n := 1) (k2 := (if ¬ r3 = 0 then 18 else 16, [some (.ref 0), some (.int x1), some (.int x2), none, none], [], M)) (P := []) rfl mz_o0 ?_
    refine mz_Go.ite (fun c13 => ?_) (fun c13 => ?_)
    · replace h := h.1 c13
      refine mz_Go.steps (n := 4) (k2 := (23, [some (.ref 0), some (.int x1), some (.int x2), some (.int 0), some (.int 0)], [], M)) (P := []) rfl mz_o0 ?_
      exact h
    · replace h := h.2 c13
      refine mz_Go.steps (n := 1) (k2 := (17, [some (.ref 0), some (.int x1), some (.int x2), none, none], [.int (-1)], M)) (P := []) rfl mz_o0 ?_
      rw [h]
      exact mz_Go.iret (rfl : mz_find 17 (mz_rows mq_X9_copies) = some (17, .ireturn, 1, 0, 0, 0)) rfl
set_option maxRecDepth 100000 in
set_option maxHeartbeats 4000000 in
theorem t_X9_copies_23 (x1 : Int32) (x2 : Int32) (x3 : Int32) (x4 : Int32) (M : mz_M) {res : mz_O} (h :
    (((M.1 2 1) ≤ x4 →
      (∃ (r2 : Int32) (M2 : mz_M), (mq_C mq_X9_setsSlot [.ref 0, .int x2, .ref 75] M (some (.int r2), M2)) ∧
      res = (some (.int x3), M2))) ∧
    (¬ ((M.1 2 1) ≤ x4) →
      (vp_in x1 4) ∧
      (([10, 11, 12, 13] : List Nat).length = 4) ∧
      (mz_nth mq_sk ([10, 11, 12, 13].getD x1.toNatClampNeg 0) = some (.inl (0, 8, []))) ∧
      (vp_in x4 8) ∧
      (vp_in x4 8) ∧
      (∀ M7 : mz_M, M7 = mz_wr M 75 (upd (M.1 75) x4.toNatClampNeg (M.1 ([10, 11, 12, 13].getD x1.toNatClampNeg 0) x4.toNatClampNeg)) →
      (vp_in x4 8) ∧
      (vp_in x2 4) ∧
      (([10, 11, 12, 13] : List Nat).length = 4) ∧
      (mz_nth mq_sk ([10, 11, 12, 13].getD x2.toNatClampNeg 0) = some (.inl (0, 8, []))) ∧
      (vp_in x4 8) ∧
      (((M7.1 75 x4.toNatClampNeg) = (M7.1 ([10, 11, 12, 13].getD x2.toNatClampNeg 0) x4.toNatClampNeg) →
        mq_G mq_X9_copies (23, [some (.ref 0), some (.int x1), some (.int x2), some (.int x3), some (.int (x4 + 1))], [], M7) res) ∧
      (¬ ((M7.1 75 x4.toNatClampNeg) = (M7.1 ([10, 11, 12, 13].getD x2.toNatClampNeg 0) x4.toNatClampNeg)) →
        mq_G mq_X9_copies (23, [some (.ref 0), some (.int x1), some (.int x2), some (.int 1), some (.int (x4 + 1))], [], M7) res)))))) :
    mq_G mq_X9_copies (23, [some (.ref 0), some (.int x1), some (.int x2), some (.int x3), some (.int x4)], [], M) res := by
  refine mz_Go.steps (n := 5) (k2 := (if (M.1 2 1) ≤ x4 then 84 else 35, [some (.ref 0), some (.int x1), some (.int x2), some (.int x3), some (.int x4)], [], M)) (P := []) rfl mz_o0 ?_
  refine mz_Go.ite (fun c32 => ?_) (fun c32 => ?_)
  · replace h := h.1 c32
    refine mz_Go.steps (n := 4) (k2 := (90, [some (.ref 0), some (.int x1), some (.int x2), some (.int x3), some (.int x4)], [.ref 75, .int x2, .ref 0], M)) (P := []) rfl mz_o0 ?_
    obtain ⟨r2, M2, k2, h⟩ := h
    refine mz_Go.callV (As := [.int x2, .ref 75]) (rest := []) (rfl : mz_find 90 (mz_rows mq_X9_copies) = some (90, .invokevirtual 206, 3, 127, 0, 106)) (rfl : mz_nth mq_tab 127 = some mq_X9_setsSlot) rfl rfl rfl rfl (Nat.le_of_ble_eq_true rfl) (Nat.le_of_ble_eq_true rfl) k2 ?_
    show mq_G mq_X9_copies (93, [some (.ref 0), some (.int x1), some (.int x2), some (.int x3), some (.int x4)], [.int r2], M2) res
    refine mz_Go.steps (n := 2) (k2 := (95, [some (.ref 0), some (.int x1), some (.int x2), some (.int x3), some (.int x4)], [.int x3], M2)) (P := []) rfl mz_o0 ?_
    rw [h]
    exact mz_Go.iret (rfl : mz_find 95 (mz_rows mq_X9_copies) = some (95, .ireturn, 1, 0, 0, 0)) rfl
  · replace h := h.2 c32
    obtain ⟨q3, q4, h⟩ := h
    refine mz_Go.steps (n := 9) (k2 := (52, [some (.ref 0), some (.int x1), some (.int x2), some (.int x3), some (.int x4)], [.int x4, .ref ([10, 11, 12, 13].getD x1.toNatClampNeg 0), .int x4, .ref 75], M)) (P := [vp_in x1 4, ([10, 11, 12, 13] : List Nat).length = 4]) rfl (mz_o2 q3 q4) ?_
    obtain ⟨q5, q6, h⟩ := h
    refine mz_Go.iald (rfl : mz_find 52 (mz_rows mq_X9_copies) = some (52, .iaload, 1, 0, 0, 0)) q5 q6 ?_
    show mq_G mq_X9_copies (53, [some (.ref 0), some (.int x1), some (.int x2), some (.int x3), some (.int x4)], [.int (M.1 ([10, 11, 12, 13].getD x1.toNatClampNeg 0) x4.toNatClampNeg), .int x4, .ref 75], M) res
    obtain ⟨q8, h⟩ := h
    obtain ⟨M7, e7⟩ : ∃ y, y = mz_wr M 75 (upd (M.1 75) x4.toNatClampNeg (M.1 ([10, 11, 12, 13].getD x1.toNatClampNeg 0) x4.toNatClampNeg)) := ⟨_, rfl⟩
    replace h := h M7 e7
    refine mz_Go.steps (n := 1) (k2 := (54, [some (.ref 0), some (.int x1), some (.int x2), some (.int x3), some (.int x4)], [], (mz_wr M 75 (upd (M.1 75) x4.toNatClampNeg (M.1 ([10, 11, 12, 13].getD x1.toNatClampNeg 0) x4.toNatClampNeg))))) (P := [vp_in x4 8]) rfl (mz_o1 q8) ?_
    rw [← e7]
    obtain ⟨q9, q10, q11, h⟩ := h
    refine mz_Go.steps (n := 10) (k2 := (72, [some (.ref 0), some (.int x1), some (.int x2), some (.int x3), some (.int x4)], [.int x4, .ref ([10, 11, 12, 13].getD x2.toNatClampNeg 0), .int (M7.1 75 x4.toNatClampNeg)], M7)) (P := [vp_in x4 8, vp_in x2 4, ([10, 11, 12, 13] : List Nat).length = 4]) rfl (mz_o3 q9 q10 q11) ?_
    obtain ⟨q12, q13, h⟩ := h
    refine mz_Go.iald (rfl : mz_find 72 (mz_rows mq_X9_copies) = some (72, .iaload, 1, 0, 0, 0)) q12 q13 ?_
    show mq_G mq_X9_copies (73, [some (.ref 0), some (.int x1), some (.int x2), some (.int x3), some (.int x4)], [.int (M7.1 ([10, 11, 12, 13].getD x2.toNatClampNeg 0) x4.toNatClampNeg), .int (M7.1 75 x4.toNatClampNeg)], M7) res
    refine mz_Go.steps (n := 1) (k2 := (if (M7.1 75 x4.toNatClampNeg) = (M7.1 ([10, 11, 12, 13].getD x2.toNatClampNeg 0) x4.toNatClampNeg) then 78 else 76, [some (.ref 0), some (.int x1), some (.int x2), some (.int x3), some (.int x4)], [], M7)) (P := []) rfl mz_o0 ?_
    refine mz_Go.ite (fun c73 => ?_) (fun c73 => ?_)
    · replace h := h.1 c73
      refine mz_Go.steps (n := 2) (k2 := (23, [some (.ref 0), some (.int x1), some (.int x2), some (.int x3), some (.int (x4 + 1))], [], M7)) (P := []) rfl mz_o0 ?_
      exact h
    · replace h := h.2 c73
      refine mz_Go.steps (n := 4) (k2 := (23, [some (.ref 0), some (.int x1), some (.int x2), some (.int 1), some (.int (x4 + 1))], [], M7)) (P := []) rfl mz_o0 ?_
      exact h
set_option maxRecDepth 100000 in
set_option maxHeartbeats 4000000 in
theorem t_X9_scales_0 (x1 : Int32) (x2 : Int32) (M : mz_M) {res : mz_O} (h :
    (∃ (r1 : Int32), (mq_C mq_X9_isSlot [.ref 0, .int x1] M (some (.int r1), M)) ∧
    ((r1 = 0 →
      res = (some (.int (-1)), M)) ∧
    (¬ (r1 = 0) →
      (∃ (r3 : Int32), (mq_C mq_X9_isElement [.ref 0, .int x2] M (some (.int r3), M)) ∧
      ((¬ r3 = 0 →
        ((¬ x2 = 0 →
          mq_G mq_X9_scales (27, [some (.ref 0), some (.int x1), some (.int x2), some (.int 0)], [], M) res) ∧
        (¬ (¬ x2 = 0) →
          res = (some (.int (-2)), M)))) ∧
      (¬ (¬ r3 = 0) →
        res = (some (.int (-1)), M)))))))) :
    mq_G mq_X9_scales (0, [some (.ref 0), some (.int x1), some (.int x2), none], [], M) res := by
  refine mz_Go.steps (n := 2) (k2 := (2, [some (.ref 0), some (.int x1), some (.int x2), none], [.int x1, .ref 0], M)) (P := []) rfl mz_o0 ?_
  obtain ⟨r1, k1, h⟩ := h
  refine mz_Go.callV (As := [.int x1]) (rest := []) (rfl : mz_find 2 (mz_rows mq_X9_scales) = some (2, .invokevirtual 203, 3, 124, 0, 105)) (rfl : mz_nth mq_tab 124 = some mq_X9_isSlot) rfl rfl rfl rfl (Nat.le_of_ble_eq_true rfl) (Nat.le_of_ble_eq_true rfl) k1 ?_
  show mq_G mq_X9_scales (5, [some (.ref 0), some (.int x1), some (.int x2), none], [.int r1], M) res
  refine mz_Go.steps (n := 1) (k2 := (if r1 = 0 then 16 else 8, [some (.ref 0), some (.int x1), some (.int x2), none], [], M)) (P := []) rfl mz_o0 ?_
  refine mz_Go.ite (fun c5 => ?_) (fun c5 => ?_)
  · replace h := h.1 c5
    refine mz_Go.steps (n := 1) (k2 := (17, [some (.ref 0), some (.int x1), some (.int x2), none], [.int (-1)], M)) (P := []) rfl mz_o0 ?_
    rw [h]
    exact mz_Go.iret (rfl : mz_find 17 (mz_rows mq_X9_scales) = some (17, .ireturn, 1, 0, 0, 0)) rfl
  · replace h := h.2 c5
    refine mz_Go.steps (n := 2) (k2 := (10, [some (.ref 0), some (.int x1), some (.int x2), none], [.int x2, .ref 0], M)) (P := []) rfl mz_o0 ?_
    obtain ⟨r3, k3, h⟩ := h
    refine mz_Go.callV (As := [.int x2]) (rest := []) (rfl : mz_find 10 (mz_rows mq_X9_scales) = some (10, .invokevirtual 103, 3, 123, 0, 68)) (rfl : mz_nth mq_tab 123 = some mq_X9_isElement) rfl rfl rfl rfl (Nat.le_of_ble_eq_true rfl) (Nat.le_of_ble_eq_true rfl) k3 ?_
    show mq_G mq_X9_scales (13, [some (.ref 0), some (.int x1), some (.int x2), none], [.int r3], M) res
    refine mz_Go.steps (n := 1) (k2 := (if ¬ r3 = 0 then 18 else 16, [some (.ref 0), some (.int x1), some (.int x2), none], [], M)) (P := []) rfl mz_o0 ?_
    refine mz_Go.ite (fun c13 => ?_) (fun c13 => ?_)
    · replace h := h.1 c13
      refine mz_Go.steps (n := 2) (k2 := (if ¬ x2 = 0 then 25 else 22, [some (.ref 0), some (.int x1), some (.int x2), none], [], M)) (P := []) rfl mz_o0 ?_
      refine mz_Go.ite (fun c19 => ?_) (fun c19 => ?_)
      · replace h := h.1 c19
        refine mz_Go.steps (n := 2) (k2 := (27, [some (.ref 0), some (.int x1), some (.int x2), some (.int 0)], [], M)) (P := []) rfl mz_o0 ?_
        exact h
      · replace h := h.2 c19
        refine mz_Go.steps (n := 1) (k2 := (24, [some (.ref 0), some (.int x1), some (.int x2), none], [.int (-2)], M)) (P := []) rfl mz_o0 ?_
        rw [h]
        exact mz_Go.iret (rfl : mz_find 24 (mz_rows mq_X9_scales) = some (24, .ireturn, 1, 0, 0, 0)) rfl
    · replace h := h.2 c13
      refine mz_Go.steps (n := 1) (k2 := (17, [some (.ref 0), some (.int x1), some (.int x2), none], [.int (-1)], M)) (P := []) rfl mz_o0 ?_
      rw [h]
      exact mz_Go.iret (rfl : mz_find 17 (mz_rows mq_X9_scales) = some (17, .ireturn, 1, 0, 0, 0)) rfl
set_option maxRecDepth 100000 in
set_option maxHeartbeats 4000000 in
theorem t_X9_scales_27 (x1 : Int32) (x2 : Int32) (x3 : Int32) (M : mz_M) {res : mz_O} (h :
    (((M.1 2 1) ≤ x3 →
      (∃ (r2 : Int32) (M2 : mz_M), (mq_C mq_X9_setsSlot [.ref 0, .int x1, .ref 75] M (some (.int r2), M2)) ∧
      res = (some (.int r2), M2))) ∧
    (¬ ((M.1 2 1) ≤ x3) →
      (vp_in x1 4) ∧
      (([10, 11, 12, 13] : List Nat).length = 4) ∧
      (mz_nth mq_sk ([10, 11, 12, 13].getD x1.toNatClampNeg 0) = some (.inl (0, 8, []))) ∧
      (vp_in x3 8) ∧
      (∃ (r7 : Int32), (mq_C mq_X0_times [.ref 2, .int (M.1 ([10, 11, 12, 13].getD x1.toNatClampNeg 0) x3.toNatClampNeg), .int x2] M (some (.int r7), M)) ∧
      (vp_in x3 8) ∧
      (∀ M8 : mz_M, M8 = mz_wr M 75 (upd (M.1 75) x3.toNatClampNeg r7) →
      mq_G mq_X9_scales (27, [some (.ref 0), some (.int x1), some (.int x2), some (.int (x3 + 1))], [], M8) res))))) :
    mq_G mq_X9_scales (27, [some (.ref 0), some (.int x1), some (.int x2), some (.int x3)], [], M) res := by
  refine mz_Go.steps (n := 5) (k2 := (if (M.1 2 1) ≤ x3 then 69 else 38, [some (.ref 0), some (.int x1), some (.int x2), some (.int x3)], [], M)) (P := []) rfl mz_o0 ?_
  refine mz_Go.ite (fun c35 => ?_) (fun c35 => ?_)
  · replace h := h.1 c35
    refine mz_Go.steps (n := 4) (k2 := (75, [some (.ref 0), some (.int x1), some (.int x2), some (.int x3)], [.ref 75, .int x1, .ref 0], M)) (P := []) rfl mz_o0 ?_
    obtain ⟨r2, M2, k2, h⟩ := h
    refine mz_Go.callV (As := [.int x1, .ref 75]) (rest := []) (rfl : mz_find 75 (mz_rows mq_X9_scales) = some (75, .invokevirtual 206, 3, 127, 0, 106)) (rfl : mz_nth mq_tab 127 = some mq_X9_setsSlot) rfl rfl rfl rfl (Nat.le_of_ble_eq_true rfl) (Nat.le_of_ble_eq_true rfl) k2 ?_
    show mq_G mq_X9_scales (78, [some (.ref 0), some (.int x1), some (.int x2), some (.int x3)], [.int r2], M2) res
    rw [h]
    exact mz_Go.iret (rfl : mz_find 78 (mz_rows mq_X9_scales) = some (78, .ireturn, 1, 0, 0, 0)) rfl
  · replace h := h.2 c35
    obtain ⟨q3, q4, h⟩ := h
    refine mz_Go.steps (n := 11) (k2 := (57, [some (.ref 0), some (.int x1), some (.int x2), some (.int x3)], [.int x3, .ref ([10, 11, 12, 13].getD x1.toNatClampNeg 0), .ref 2, .int x3, .ref 75], M)) (P := [vp_in x1 4, ([10, 11, 12, 13] : List Nat).length = 4]) rfl (mz_o2 q3 q4) ?_
    obtain ⟨q5, q6, h⟩ := h
    refine mz_Go.iald (rfl : mz_find 57 (mz_rows mq_X9_scales) = some (57, .iaload, 1, 0, 0, 0)) q5 q6 ?_
    show mq_G mq_X9_scales (58, [some (.ref 0), some (.int x1), some (.int x2), some (.int x3)], [.int (M.1 ([10, 11, 12, 13].getD x1.toNatClampNeg 0) x3.toNatClampNeg), .ref 2, .int x3, .ref 75], M) res
    refine mz_Go.steps (n := 1) (k2 := (59, [some (.ref 0), some (.int x1), some (.int x2), some (.int x3)], [.int x2, .int (M.1 ([10, 11, 12, 13].getD x1.toNatClampNeg 0) x3.toNatClampNeg), .ref 2, .int x3, .ref 75], M)) (P := []) rfl mz_o0 ?_
    obtain ⟨r7, k7, h⟩ := h
    refine mz_Go.callV (As := [.int (M.1 ([10, 11, 12, 13].getD x1.toNatClampNeg 0) x3.toNatClampNeg), .int x2]) (rest := [.int x3, .ref 75]) (rfl : mz_find 59 (mz_rows mq_X9_scales) = some (59, .invokevirtual 106, 3, 3, 0, 70)) (rfl : mz_nth mq_tab 3 = some mq_X0_times) rfl rfl rfl rfl (Nat.le_of_ble_eq_true rfl) (Nat.le_of_ble_eq_true rfl) k7 ?_
    show mq_G mq_X9_scales (62, [some (.ref 0), some (.int x1), some (.int x2), some (.int x3)], [.int r7, .int x3, .ref 75], M) res
    obtain ⟨q9, h⟩ := h
    obtain ⟨M8, e8⟩ : ∃ y, y = mz_wr M 75 (upd (M.1 75) x3.toNatClampNeg r7) := ⟨_, rfl⟩
    replace h := h M8 e8
    refine mz_Go.steps (n := 1) (k2 := (63, [some (.ref 0), some (.int x1), some (.int x2), some (.int x3)], [], (mz_wr M 75 (upd (M.1 75) x3.toNatClampNeg r7)))) (P := [vp_in x3 8]) rfl (mz_o1 q9) ?_
    rw [← e8]
    refine mz_Go.steps (n := 2) (k2 := (27, [some (.ref 0), some (.int x1), some (.int x2), some (.int (x3 + 1))], [], M8)) (P := []) rfl mz_o0 ?_
    exact h
set_option maxRecDepth 100000 in
set_option maxHeartbeats 4000000 in
theorem t_X9_moves_0 (x1 : Int32) (x2 : Int32) (x3 : Int32) (M : mz_M) {res : mz_O} (h :
    (∃ (r1 : Int32), (mq_C mq_X9_isSlot [.ref 0, .int x1] M (some (.int r1), M)) ∧
    ((r1 = 0 →
      res = (some (.int (-1)), M)) ∧
    (¬ (r1 = 0) →
      (∃ (r3 : Int32), (mq_C mq_X9_isPlace [.ref 0, .int x2] M (some (.int r3), M)) ∧
      ((r3 = 0 →
        res = (some (.int (-1)), M)) ∧
      (¬ (r3 = 0) →
        (∃ (r5 : Int32), (mq_C mq_X9_isPlace [.ref 0, .int x3] M (some (.int r5), M)) ∧
        ((¬ r5 = 0 →
          ((¬ x2 = x3 →
            (∃ (M8 : mz_M), (mq_C mq_X7_copiesSlot [.ref 8, .int x1, .ref 75] M (none, M8)) ∧
            (vp_in x1 4) ∧
            (([10, 11, 12, 13] : List Nat).length = 4) ∧
            (mz_nth mq_sk ([10, 11, 12, 13].getD x1.toNatClampNeg 0) = some (.inl (0, 8, []))) ∧
            (vp_in x3 8) ∧
            (vp_in x2 8) ∧
            (∀ M13 : mz_M, M13 = mz_wr M8 75 (upd (M8.1 75) x2.toNatClampNeg (M8.1 ([10, 11, 12, 13].getD x1.toNatClampNeg 0) x3.toNatClampNeg)) →
            (vp_in x1 4) ∧
            (([10, 11, 12, 13] : List Nat).length = 4) ∧
            (mz_nth mq_sk ([10, 11, 12, 13].getD x1.toNatClampNeg 0) = some (.inl (0, 8, []))) ∧
            (vp_in x2 8) ∧
            (vp_in x3 8) ∧
            (∀ M19 : mz_M, M19 = mz_wr M13 75 (upd (M13.1 75) x3.toNatClampNeg (M13.1 ([10, 11, 12, 13].getD x1.toNatClampNeg 0) x2.toNatClampNeg)) →
            (∃ (r21 : Int32) (M21 : mz_M), (mq_C mq_X9_setsSlot [.ref 0, .int x1, .ref 75] M19 (some (.int r21), M21)) ∧
            res = (some (.int r21), M21)))))) ∧
          (¬ (¬ x2 = x3) →
            res = (some (.int (-2)), M)))) ∧
        (¬ (¬ r5 = 0) →
          res = (some (.int (-1)), M))))))))))) :
    mq_G mq_X9_moves (0, [some (.ref 0), some (.int x1), some (.int x2), some (.int x3)], [], M) res := by
  refine mz_Go.steps (n := 2) (k2 := (2, [some (.ref 0), some (.int x1), some (.int x2), some (.int x3)], [.int x1, .ref 0], M)) (P := []) rfl mz_o0 ?_
  obtain ⟨r1, k1, h⟩ := h
  refine mz_Go.callV (As := [.int x1]) (rest := []) (rfl : mz_find 2 (mz_rows mq_X9_moves) = some (2, .invokevirtual 203, 3, 124, 0, 105)) (rfl : mz_nth mq_tab 124 = some mq_X9_isSlot) rfl rfl rfl rfl (Nat.le_of_ble_eq_true rfl) (Nat.le_of_ble_eq_true rfl) k1 ?_
  show mq_G mq_X9_moves (5, [some (.ref 0), some (.int x1), some (.int x2), some (.int x3)], [.int r1], M) res
  refine mz_Go.steps (n := 1) (k2 := (if r1 = 0 then 24 else 8, [some (.ref 0), some (.int x1), some (.int x2), some (.int x3)], [], M)) (P := []) rfl mz_o0 ?_
  refine mz_Go.ite (fun c5 => ?_) (fun c5 => ?_)
  · replace h := h.1 c5
    refine mz_Go.steps (n := 1) (k2 := (25, [some (.ref 0), some (.int x1), some (.int x2), some (.int x3)], [.int (-1)], M)) (P := []) rfl mz_o0 ?_
    rw [h]
    exact mz_Go.iret (rfl : mz_find 25 (mz_rows mq_X9_moves) = some (25, .ireturn, 1, 0, 0, 0)) rfl
  · replace h := h.2 c5
    refine mz_Go.steps (n := 2) (k2 := (10, [some (.ref 0), some (.int x1), some (.int x2), some (.int x3)], [.int x2, .ref 0], M)) (P := []) rfl mz_o0 ?_
    obtain ⟨r3, k3, h⟩ := h
    refine mz_Go.callV (As := [.int x2]) (rest := []) (rfl : mz_find 10 (mz_rows mq_X9_moves) = some (10, .invokevirtual 219, 3, 125, 0, 110)) (rfl : mz_nth mq_tab 125 = some mq_X9_isPlace) rfl rfl rfl rfl (Nat.le_of_ble_eq_true rfl) (Nat.le_of_ble_eq_true rfl) k3 ?_
    show mq_G mq_X9_moves (13, [some (.ref 0), some (.int x1), some (.int x2), some (.int x3)], [.int r3], M) res
    refine mz_Go.steps (n := 1) (k2 := (if r3 = 0 then 24 else 16, [some (.ref 0), some (.int x1), some (.int x2), some (.int x3)], [], M)) (P := []) rfl mz_o0 ?_
    refine mz_Go.ite (fun c13 => ?_) (fun c13 => ?_)
    · replace h := h.1 c13
      refine mz_Go.steps (n := 1) (k2 := (25, [some (.ref 0), some (.int x1), some (.int x2), some (.int x3)], [.int (-1)], M)) (P := []) rfl mz_o0 ?_
      rw [h]
      exact mz_Go.iret (rfl : mz_find 25 (mz_rows mq_X9_moves) = some (25, .ireturn, 1, 0, 0, 0)) rfl
    · replace h := h.2 c13
      refine mz_Go.steps (n := 2) (k2 := (18, [some (.ref 0), some (.int x1), some (.int x2), some (.int x3)], [.int x3, .ref 0], M)) (P := []) rfl mz_o0 ?_
      obtain ⟨r5, k5, h⟩ := h
      refine mz_Go.callV (As := [.int x3]) (rest := []) (rfl : mz_find 18 (mz_rows mq_X9_moves) = some (18, .invokevirtual 219, 3, 125, 0, 110)) (rfl : mz_nth mq_tab 125 = some mq_X9_isPlace) rfl rfl rfl rfl (Nat.le_of_ble_eq_true rfl) (Nat.le_of_ble_eq_true rfl) k5 ?_
      show mq_G mq_X9_moves (21, [some (.ref 0), some (.int x1), some (.int x2), some (.int x3)], [.int r5], M) res
      refine mz_Go.steps (n := 1) (k2 := (if ¬ r5 = 0 then 26 else 24, [some (.ref 0), some (.int x1), some (.int x2), some (.int x3)], [], M)) (P := []) rfl mz_o0 ?_
      refine mz_Go.ite (fun c21 => ?_) (fun c21 => ?_)
      · replace h := h.1 c21
        refine mz_Go.steps (n := 3) (k2 := (if ¬ x2 = x3 then 34 else 31, [some (.ref 0), some (.int x1), some (.int x2), some (.int x3)], [], M)) (P := []) rfl mz_o0 ?_
        refine mz_Go.ite (fun c28 => ?_) (fun c28 => ?_)
        · replace h := h.1 c28
          refine mz_Go.steps (n := 5) (k2 := (43, [some (.ref 0), some (.int x1), some (.int x2), some (.int x3)], [.ref 75, .int x1, .ref 8], M)) (P := []) rfl mz_o0 ?_
          obtain ⟨M8, k8, h⟩ := h
          refine mz_Go.callV (As := [.int x1, .ref 75]) (rest := []) (rfl : mz_find 43 (mz_rows mq_X9_moves) = some (43, .invokevirtual 222, 3, 50, 0, 111)) (rfl : mz_nth mq_tab 50 = some mq_X7_copiesSlot) rfl rfl rfl rfl (Nat.le_of_ble_eq_true rfl) (Nat.le_of_ble_eq_true rfl) k8 ?_
          show mq_G mq_X9_moves (46, [some (.ref 0), some (.int x1), some (.int x2), some (.int x3)], [], M8) res
          obtain ⟨q9, q10, h⟩ := h
          refine mz_Go.steps (n := 9) (k2 := (61, [some (.ref 0), some (.int x1), some (.int x2), some (.int x3)], [.int x3, .ref ([10, 11, 12, 13].getD x1.toNatClampNeg 0), .int x2, .ref 75], M8)) (P := [vp_in x1 4, ([10, 11, 12, 13] : List Nat).length = 4]) rfl (mz_o2 q9 q10) ?_
          obtain ⟨q11, q12, h⟩ := h
          refine mz_Go.iald (rfl : mz_find 61 (mz_rows mq_X9_moves) = some (61, .iaload, 1, 0, 0, 0)) q11 q12 ?_
          show mq_G mq_X9_moves (62, [some (.ref 0), some (.int x1), some (.int x2), some (.int x3)], [.int (M8.1 ([10, 11, 12, 13].getD x1.toNatClampNeg 0) x3.toNatClampNeg), .int x2, .ref 75], M8) res
          obtain ⟨q14, h⟩ := h
          obtain ⟨M13, e13⟩ : ∃ y, y = mz_wr M8 75 (upd (M8.1 75) x2.toNatClampNeg (M8.1 ([10, 11, 12, 13].getD x1.toNatClampNeg 0) x3.toNatClampNeg)) := ⟨_, rfl⟩
          replace h := h M13 e13
          refine mz_Go.steps (n := 1) (k2 := (63, [some (.ref 0), some (.int x1), some (.int x2), some (.int x3)], [], (mz_wr M8 75 (upd (M8.1 75) x2.toNatClampNeg (M8.1 ([10, 11, 12, 13].getD x1.toNatClampNeg 0) x3.toNatClampNeg))))) (P := [vp_in x2 8]) rfl (mz_o1 q14) ?_
          rw [← e13]
          obtain ⟨q15, q16, h⟩ := h
          refine mz_Go.steps (n := 9) (k2 := (78, [some (.ref 0), some (.int x1), some (.int x2), some (.int x3)], [.int x2, .ref ([10, 11, 12, 13].getD x1.toNatClampNeg 0), .int x3, .ref 75], M13)) (P := [vp_in x1 4, ([10, 11, 12, 13] : List Nat).length = 4]) rfl (mz_o2 q15 q16) ?_
          obtain ⟨q17, q18, h⟩ := h
          refine mz_Go.iald (rfl : mz_find 78 (mz_rows mq_X9_moves) = some (78, .iaload, 1, 0, 0, 0)) q17 q18 ?_
          show mq_G mq_X9_moves (79, [some (.ref 0), some (.int x1), some (.int x2), some (.int x3)], [.int (M13.1 ([10, 11, 12, 13].getD x1.toNatClampNeg 0) x2.toNatClampNeg), .int x3, .ref 75], M13) res
          obtain ⟨q20, h⟩ := h
          obtain ⟨M19, e19⟩ : ∃ y, y = mz_wr M13 75 (upd (M13.1 75) x3.toNatClampNeg (M13.1 ([10, 11, 12, 13].getD x1.toNatClampNeg 0) x2.toNatClampNeg)) := ⟨_, rfl⟩
          replace h := h M19 e19
          refine mz_Go.steps (n := 1) (k2 := (80, [some (.ref 0), some (.int x1), some (.int x2), some (.int x3)], [], (mz_wr M13 75 (upd (M13.1 75) x3.toNatClampNeg (M13.1 ([10, 11, 12, 13].getD x1.toNatClampNeg 0) x2.toNatClampNeg))))) (P := [vp_in x3 8]) rfl (mz_o1 q20) ?_
          rw [← e19]
          refine mz_Go.steps (n := 4) (k2 := (86, [some (.ref 0), some (.int x1), some (.int x2), some (.int x3)], [.ref 75, .int x1, .ref 0], M19)) (P := []) rfl mz_o0 ?_
          obtain ⟨r21, M21, k21, h⟩ := h
          refine mz_Go.callV (As := [.int x1, .ref 75]) (rest := []) (rfl : mz_find 86 (mz_rows mq_X9_moves) = some (86, .invokevirtual 206, 3, 127, 0, 106)) (rfl : mz_nth mq_tab 127 = some mq_X9_setsSlot) rfl rfl rfl rfl (Nat.le_of_ble_eq_true rfl) (Nat.le_of_ble_eq_true rfl) k21 ?_
          show mq_G mq_X9_moves (89, [some (.ref 0), some (.int x1), some (.int x2), some (.int x3)], [.int r21], M21) res
          rw [h]
          exact mz_Go.iret (rfl : mz_find 89 (mz_rows mq_X9_moves) = some (89, .ireturn, 1, 0, 0, 0)) rfl
        · replace h := h.2 c28
          refine mz_Go.steps (n := 1) (k2 := (33, [some (.ref 0), some (.int x1), some (.int x2), some (.int x3)], [.int (-2)], M)) (P := []) rfl mz_o0 ?_
          rw [h]
          exact mz_Go.iret (rfl : mz_find 33 (mz_rows mq_X9_moves) = some (33, .ireturn, 1, 0, 0, 0)) rfl
      · replace h := h.2 c21
        refine mz_Go.steps (n := 1) (k2 := (25, [some (.ref 0), some (.int x1), some (.int x2), some (.int x3)], [.int (-1)], M)) (P := []) rfl mz_o0 ?_
        rw [h]
        exact mz_Go.iret (rfl : mz_find 25 (mz_rows mq_X9_moves) = some (25, .ireturn, 1, 0, 0, 0)) rfl
set_option maxRecDepth 100000 in
set_option maxHeartbeats 4000000 in
theorem t_X9_adds_0 (x1 : Int32) (x2 : Int32) (x3 : Int32) (M : mz_M) {res : mz_O} (h :
    (∃ (r1 : Int32), (mq_C mq_X9_isSlot [.ref 0, .int x1] M (some (.int r1), M)) ∧
    ((r1 = 0 →
      res = (some (.int (-1)), M)) ∧
    (¬ (r1 = 0) →
      (∃ (r3 : Int32), (mq_C mq_X9_isPlace [.ref 0, .int x2] M (some (.int r3), M)) ∧
      ((r3 = 0 →
        res = (some (.int (-1)), M)) ∧
      (¬ (r3 = 0) →
        (∃ (r5 : Int32), (mq_C mq_X9_isPlace [.ref 0, .int x3] M (some (.int r5), M)) ∧
        ((¬ r5 = 0 →
          ((¬ x2 = x3 →
            (∃ (M8 : mz_M), (mq_C mq_X7_copiesSlot [.ref 8, .int x1, .ref 75] M (none, M8)) ∧
            (vp_in x2 8) ∧
            (vp_in x3 8) ∧
            (vp_in x2 8) ∧
            (∀ M9 : mz_M, M9 = mz_wr M8 75 (upd (M8.1 75) x2.toNatClampNeg ((M8.1 75 x2.toNatClampNeg) ^^^ (M8.1 75 x3.toNatClampNeg))) →
            (∃ (r13 : Int32) (M13 : mz_M), (mq_C mq_X9_setsSlot [.ref 0, .int x1, .ref 75] M9 (some (.int r13), M13)) ∧
            res = (some (.int r13), M13))))) ∧
          (¬ (¬ x2 = x3) →
            res = (some (.int (-2)), M)))) ∧
        (¬ (¬ r5 = 0) →
          res = (some (.int (-1)), M))))))))))) :
    mq_G mq_X9_adds (0, [some (.ref 0), some (.int x1), some (.int x2), some (.int x3)], [], M) res := by
  refine mz_Go.steps (n := 2) (k2 := (2, [some (.ref 0), some (.int x1), some (.int x2), some (.int x3)], [.int x1, .ref 0], M)) (P := []) rfl mz_o0 ?_
  obtain ⟨r1, k1, h⟩ := h
  refine mz_Go.callV (As := [.int x1]) (rest := []) (rfl : mz_find 2 (mz_rows mq_X9_adds) = some (2, .invokevirtual 203, 3, 124, 0, 105)) (rfl : mz_nth mq_tab 124 = some mq_X9_isSlot) rfl rfl rfl rfl (Nat.le_of_ble_eq_true rfl) (Nat.le_of_ble_eq_true rfl) k1 ?_
  show mq_G mq_X9_adds (5, [some (.ref 0), some (.int x1), some (.int x2), some (.int x3)], [.int r1], M) res
  refine mz_Go.steps (n := 1) (k2 := (if r1 = 0 then 24 else 8, [some (.ref 0), some (.int x1), some (.int x2), some (.int x3)], [], M)) (P := []) rfl mz_o0 ?_
  refine mz_Go.ite (fun c5 => ?_) (fun c5 => ?_)
  · replace h := h.1 c5
    refine mz_Go.steps (n := 1) (k2 := (25, [some (.ref 0), some (.int x1), some (.int x2), some (.int x3)], [.int (-1)], M)) (P := []) rfl mz_o0 ?_
    rw [h]
    exact mz_Go.iret (rfl : mz_find 25 (mz_rows mq_X9_adds) = some (25, .ireturn, 1, 0, 0, 0)) rfl
  · replace h := h.2 c5
    refine mz_Go.steps (n := 2) (k2 := (10, [some (.ref 0), some (.int x1), some (.int x2), some (.int x3)], [.int x2, .ref 0], M)) (P := []) rfl mz_o0 ?_
    obtain ⟨r3, k3, h⟩ := h
    refine mz_Go.callV (As := [.int x2]) (rest := []) (rfl : mz_find 10 (mz_rows mq_X9_adds) = some (10, .invokevirtual 219, 3, 125, 0, 110)) (rfl : mz_nth mq_tab 125 = some mq_X9_isPlace) rfl rfl rfl rfl (Nat.le_of_ble_eq_true rfl) (Nat.le_of_ble_eq_true rfl) k3 ?_
    show mq_G mq_X9_adds (13, [some (.ref 0), some (.int x1), some (.int x2), some (.int x3)], [.int r3], M) res
    refine mz_Go.steps (n := 1) (k2 := (if r3 = 0 then 24 else 16, [some (.ref 0), some (.int x1), some (.int x2), some (.int x3)], [], M)) (P := []) rfl mz_o0 ?_
    refine mz_Go.ite (fun c13 => ?_) (fun c13 => ?_)
    · replace h := h.1 c13
      refine mz_Go.steps (n := 1) (k2 := (25, [some (.ref 0), some (.int x1), some (.int x2), some (.int x3)], [.int (-1)], M)) (P := []) rfl mz_o0 ?_
      rw [h]
      exact mz_Go.iret (rfl : mz_find 25 (mz_rows mq_X9_adds) = some (25, .ireturn, 1, 0, 0, 0)) rfl
    · replace h := h.2 c13
      refine mz_Go.steps (n := 2) (k2 := (18, [some (.ref 0), some (.int x1), some (.int x2), some (.int x3)], [.int x3, .ref 0], M)) (P := []) rfl mz_o0 ?_
      obtain ⟨r5, k5, h⟩ := h
      refine mz_Go.callV (As := [.int x3]) (rest := []) (rfl : mz_find 18 (mz_rows mq_X9_adds) = some (18, .invokevirtual 219, 3, 125, 0, 110)) (rfl : mz_nth mq_tab 125 = some mq_X9_isPlace) rfl rfl rfl rfl (Nat.le_of_ble_eq_true rfl) (Nat.le_of_ble_eq_true rfl) k5 ?_
      show mq_G mq_X9_adds (21, [some (.ref 0), some (.int x1), some (.int x2), some (.int x3)], [.int r5], M) res
      refine mz_Go.steps (n := 1) (k2 := (if ¬ r5 = 0 then 26 else 24, [some (.ref 0), some (.int x1), some (.int x2), some (.int x3)], [], M)) (P := []) rfl mz_o0 ?_
      refine mz_Go.ite (fun c21 => ?_) (fun c21 => ?_)
      · replace h := h.1 c21
        refine mz_Go.steps (n := 3) (k2 := (if ¬ x2 = x3 then 34 else 31, [some (.ref 0), some (.int x1), some (.int x2), some (.int x3)], [], M)) (P := []) rfl mz_o0 ?_
        refine mz_Go.ite (fun c28 => ?_) (fun c28 => ?_)
        · replace h := h.1 c28
          refine mz_Go.steps (n := 5) (k2 := (43, [some (.ref 0), some (.int x1), some (.int x2), some (.int x3)], [.ref 75, .int x1, .ref 8], M)) (P := []) rfl mz_o0 ?_
          obtain ⟨M8, k8, h⟩ := h
          refine mz_Go.callV (As := [.int x1, .ref 75]) (rest := []) (rfl : mz_find 43 (mz_rows mq_X9_adds) = some (43, .invokevirtual 222, 3, 50, 0, 111)) (rfl : mz_nth mq_tab 50 = some mq_X7_copiesSlot) rfl rfl rfl rfl (Nat.le_of_ble_eq_true rfl) (Nat.le_of_ble_eq_true rfl) k8 ?_
          show mq_G mq_X9_adds (46, [some (.ref 0), some (.int x1), some (.int x2), some (.int x3)], [], M8) res
          obtain ⟨q10, q11, q12, h⟩ := h
          obtain ⟨M9, e9⟩ : ∃ y, y = mz_wr M8 75 (upd (M8.1 75) x2.toNatClampNeg ((M8.1 75 x2.toNatClampNeg) ^^^ (M8.1 75 x3.toNatClampNeg))) := ⟨_, rfl⟩
          replace h := h M9 e9
          refine mz_Go.steps (n := 11) (k2 := (61, [some (.ref 0), some (.int x1), some (.int x2), some (.int x3)], [], (mz_wr M8 75 (upd (M8.1 75) x2.toNatClampNeg ((M8.1 75 x2.toNatClampNeg) ^^^ (M8.1 75 x3.toNatClampNeg)))))) (P := [vp_in x2 8, vp_in x3 8, vp_in x2 8]) rfl (mz_o3 q10 q11 q12) ?_
          rw [← e9]
          refine mz_Go.steps (n := 4) (k2 := (67, [some (.ref 0), some (.int x1), some (.int x2), some (.int x3)], [.ref 75, .int x1, .ref 0], M9)) (P := []) rfl mz_o0 ?_
          obtain ⟨r13, M13, k13, h⟩ := h
          refine mz_Go.callV (As := [.int x1, .ref 75]) (rest := []) (rfl : mz_find 67 (mz_rows mq_X9_adds) = some (67, .invokevirtual 206, 3, 127, 0, 106)) (rfl : mz_nth mq_tab 127 = some mq_X9_setsSlot) rfl rfl rfl rfl (Nat.le_of_ble_eq_true rfl) (Nat.le_of_ble_eq_true rfl) k13 ?_
          show mq_G mq_X9_adds (70, [some (.ref 0), some (.int x1), some (.int x2), some (.int x3)], [.int r13], M13) res
          rw [h]
          exact mz_Go.iret (rfl : mz_find 70 (mz_rows mq_X9_adds) = some (70, .ireturn, 1, 0, 0, 0)) rfl
        · replace h := h.2 c28
          refine mz_Go.steps (n := 1) (k2 := (33, [some (.ref 0), some (.int x1), some (.int x2), some (.int x3)], [.int (-2)], M)) (P := []) rfl mz_o0 ?_
          rw [h]
          exact mz_Go.iret (rfl : mz_find 33 (mz_rows mq_X9_adds) = some (33, .ireturn, 1, 0, 0, 0)) rfl
      · replace h := h.2 c21
        refine mz_Go.steps (n := 1) (k2 := (25, [some (.ref 0), some (.int x1), some (.int x2), some (.int x3)], [.int (-1)], M)) (P := []) rfl mz_o0 ?_
        rw [h]
        exact mz_Go.iret (rfl : mz_find 25 (mz_rows mq_X9_adds) = some (25, .ireturn, 1, 0, 0, 0)) rfl
set_option maxRecDepth 100000 in
set_option maxHeartbeats 4000000 in
theorem t_X9_at_0 (x1 : Int32) (x2 : Int32) (M : mz_M) {res : mz_O} (h :
    (∃ (r1 : Int32), (mq_C mq_X9_isSlot [.ref 0, .int x1] M (some (.int r1), M)) ∧
    ((r1 = 0 →
      res = (some (.int (-1)), M)) ∧
    (¬ (r1 = 0) →
      (∃ (r3 : Int32), (mq_C mq_X9_isPlace [.ref 0, .int x2] M (some (.int r3), M)) ∧
      ((r3 = 0 →
        res = (some (.int (-1)), M)) ∧
      (¬ (r3 = 0) →
        (vp_in x1 4) ∧
        (([10, 11, 12, 13] : List Nat).length = 4) ∧
        (mz_nth mq_sk ([10, 11, 12, 13].getD x1.toNatClampNeg 0) = some (.inl (0, 8, []))) ∧
        (vp_in x2 8) ∧
        res = (some (.int (M.1 ([10, 11, 12, 13].getD x1.toNatClampNeg 0) x2.toNatClampNeg)), M)))))))) :
    mq_G mq_X9_at (0, [some (.ref 0), some (.int x1), some (.int x2)], [], M) res := by
  refine mz_Go.steps (n := 2) (k2 := (2, [some (.ref 0), some (.int x1), some (.int x2)], [.int x1, .ref 0], M)) (P := []) rfl mz_o0 ?_
  obtain ⟨r1, k1, h⟩ := h
  refine mz_Go.callV (As := [.int x1]) (rest := []) (rfl : mz_find 2 (mz_rows mq_X9_at) = some (2, .invokevirtual 203, 3, 124, 0, 105)) (rfl : mz_nth mq_tab 124 = some mq_X9_isSlot) rfl rfl rfl rfl (Nat.le_of_ble_eq_true rfl) (Nat.le_of_ble_eq_true rfl) k1 ?_
  show mq_G mq_X9_at (5, [some (.ref 0), some (.int x1), some (.int x2)], [.int r1], M) res
  refine mz_Go.steps (n := 1) (k2 := (if r1 = 0 then 30 else 8, [some (.ref 0), some (.int x1), some (.int x2)], [], M)) (P := []) rfl mz_o0 ?_
  refine mz_Go.ite (fun c5 => ?_) (fun c5 => ?_)
  · replace h := h.1 c5
    refine mz_Go.steps (n := 1) (k2 := (31, [some (.ref 0), some (.int x1), some (.int x2)], [.int (-1)], M)) (P := []) rfl mz_o0 ?_
    rw [h]
    exact mz_Go.iret (rfl : mz_find 31 (mz_rows mq_X9_at) = some (31, .ireturn, 1, 0, 0, 0)) rfl
  · replace h := h.2 c5
    refine mz_Go.steps (n := 2) (k2 := (10, [some (.ref 0), some (.int x1), some (.int x2)], [.int x2, .ref 0], M)) (P := []) rfl mz_o0 ?_
    obtain ⟨r3, k3, h⟩ := h
    refine mz_Go.callV (As := [.int x2]) (rest := []) (rfl : mz_find 10 (mz_rows mq_X9_at) = some (10, .invokevirtual 219, 3, 125, 0, 110)) (rfl : mz_nth mq_tab 125 = some mq_X9_isPlace) rfl rfl rfl rfl (Nat.le_of_ble_eq_true rfl) (Nat.le_of_ble_eq_true rfl) k3 ?_
    show mq_G mq_X9_at (13, [some (.ref 0), some (.int x1), some (.int x2)], [.int r3], M) res
    refine mz_Go.steps (n := 1) (k2 := (if r3 = 0 then 30 else 16, [some (.ref 0), some (.int x1), some (.int x2)], [], M)) (P := []) rfl mz_o0 ?_
    refine mz_Go.ite (fun c13 => ?_) (fun c13 => ?_)
    · replace h := h.1 c13
      refine mz_Go.steps (n := 1) (k2 := (31, [some (.ref 0), some (.int x1), some (.int x2)], [.int (-1)], M)) (P := []) rfl mz_o0 ?_
      rw [h]
      exact mz_Go.iret (rfl : mz_find 31 (mz_rows mq_X9_at) = some (31, .ireturn, 1, 0, 0, 0)) rfl
    · replace h := h.2 c13
      obtain ⟨q5, q6, h⟩ := h
      refine mz_Go.steps (n := 6) (k2 := (26, [some (.ref 0), some (.int x1), some (.int x2)], [.int x2, .ref ([10, 11, 12, 13].getD x1.toNatClampNeg 0)], M)) (P := [vp_in x1 4, ([10, 11, 12, 13] : List Nat).length = 4]) rfl (mz_o2 q5 q6) ?_
      obtain ⟨q7, q8, h⟩ := h
      refine mz_Go.iald (rfl : mz_find 26 (mz_rows mq_X9_at) = some (26, .iaload, 1, 0, 0, 0)) q7 q8 ?_
      show mq_G mq_X9_at (27, [some (.ref 0), some (.int x1), some (.int x2)], [.int (M.1 ([10, 11, 12, 13].getD x1.toNatClampNeg 0) x2.toNatClampNeg)], M) res
      refine mz_Go.steps (n := 1) (k2 := (31, [some (.ref 0), some (.int x1), some (.int x2)], [.int (M.1 ([10, 11, 12, 13].getD x1.toNatClampNeg 0) x2.toNatClampNeg)], M)) (P := []) rfl mz_o0 ?_
      rw [h]
      exact mz_Go.iret (rfl : mz_find 31 (mz_rows mq_X9_at) = some (31, .ireturn, 1, 0, 0, 0)) rfl
set_option maxRecDepth 100000 in
set_option maxHeartbeats 4000000 in
theorem t_X9_coordinates_0 (x1 : Int32) (x2 : Int32) (M : mz_M) {res : mz_O} (h :
    (∃ (r1 : Int32), (mq_C mq_X9_isSlot [.ref 0, .int x1] M (some (.int r1), M)) ∧
    ((r1 = 0 →
      res = (some (.int (-1)), M)) ∧
    (¬ (r1 = 0) →
      (∃ (r3 : Int32), (mq_C mq_X9_isElement [.ref 0, .int x2] M (some (.int r3), M)) ∧
      ((¬ r3 = 0 →
        (vp_in x1 4) ∧
        (([10, 11, 12, 13] : List Nat).length = 4) ∧
        (∃ (r7 : Int32) (M7 : mz_M), (mq_C mq_X1_holds [.ref 5, .ref ([10, 11, 12, 13].getD x1.toNatClampNeg 0), .int (M.1 2 1)] M (some (.int r7), M7)) ∧
        (∃ (r8 : Int32), (mq_C mq_X1_located [.ref 5, .int x2] M7 (some (.int r8), M7)) ∧
        (∃ (M9 : mz_M), (mq_C mq_X6_empties [.ref 73] M7 (none, M9)) ∧
        (∃ (r10 : Int32), (mq_C mq_J6_bitCount_0f7a4 [.int r8] M9 (some (.int r10), M9)) ∧
        (∃ (M11 : mz_M), (mq_C mq_X6_puts [.ref 73, .long (r10.toInt64)] M9 (none, M11)) ∧
        res = (some (.int r8), M11))))))) ∧
      (¬ (¬ r3 = 0) →
        res = (some (.int (-1)), M)))))))) :
    mq_G mq_X9_coordinates (0, [some (.ref 0), some (.int x1), some (.int x2), none], [], M) res := by
  refine mz_Go.steps (n := 2) (k2 := (2, [some (.ref 0), some (.int x1), some (.int x2), none], [.int x1, .ref 0], M)) (P := []) rfl mz_o0 ?_
  obtain ⟨r1, k1, h⟩ := h
  refine mz_Go.callV (As := [.int x1]) (rest := []) (rfl : mz_find 2 (mz_rows mq_X9_coordinates) = some (2, .invokevirtual 203, 3, 124, 0, 105)) (rfl : mz_nth mq_tab 124 = some mq_X9_isSlot) rfl rfl rfl rfl (Nat.le_of_ble_eq_true rfl) (Nat.le_of_ble_eq_true rfl) k1 ?_
  show mq_G mq_X9_coordinates (5, [some (.ref 0), some (.int x1), some (.int x2), none], [.int r1], M) res
  refine mz_Go.steps (n := 1) (k2 := (if r1 = 0 then 16 else 8, [some (.ref 0), some (.int x1), some (.int x2), none], [], M)) (P := []) rfl mz_o0 ?_
  refine mz_Go.ite (fun c5 => ?_) (fun c5 => ?_)
  · replace h := h.1 c5
    refine mz_Go.steps (n := 1) (k2 := (17, [some (.ref 0), some (.int x1), some (.int x2), none], [.int (-1)], M)) (P := []) rfl mz_o0 ?_
    rw [h]
    exact mz_Go.iret (rfl : mz_find 17 (mz_rows mq_X9_coordinates) = some (17, .ireturn, 1, 0, 0, 0)) rfl
  · replace h := h.2 c5
    refine mz_Go.steps (n := 2) (k2 := (10, [some (.ref 0), some (.int x1), some (.int x2), none], [.int x2, .ref 0], M)) (P := []) rfl mz_o0 ?_
    obtain ⟨r3, k3, h⟩ := h
    refine mz_Go.callV (As := [.int x2]) (rest := []) (rfl : mz_find 10 (mz_rows mq_X9_coordinates) = some (10, .invokevirtual 103, 3, 123, 0, 68)) (rfl : mz_nth mq_tab 123 = some mq_X9_isElement) rfl rfl rfl rfl (Nat.le_of_ble_eq_true rfl) (Nat.le_of_ble_eq_true rfl) k3 ?_
    show mq_G mq_X9_coordinates (13, [some (.ref 0), some (.int x1), some (.int x2), none], [.int r3], M) res
    refine mz_Go.steps (n := 1) (k2 := (if ¬ r3 = 0 then 18 else 16, [some (.ref 0), some (.int x1), some (.int x2), none], [], M)) (P := []) rfl mz_o0 ?_
    refine mz_Go.ite (fun c13 => ?_) (fun c13 => ?_)
    · replace h := h.1 c13
      obtain ⟨q5, q6, h⟩ := h
      refine mz_Go.steps (n := 10) (k2 := (38, [some (.ref 0), some (.int x1), some (.int x2), none], [.int (M.1 2 1), .ref ([10, 11, 12, 13].getD x1.toNatClampNeg 0), .ref 5], M)) (P := [vp_in x1 4, ([10, 11, 12, 13] : List Nat).length = 4]) rfl (mz_o2 q5 q6) ?_
      obtain ⟨r7, M7, k7, h⟩ := h
      refine mz_Go.callV (As := [.ref ([10, 11, 12, 13].getD x1.toNatClampNeg 0), .int (M.1 2 1)]) (rest := []) (rfl : mz_find 38 (mz_rows mq_X9_coordinates) = some (38, .invokevirtual 171, 3, 20, 0, 97)) (rfl : mz_nth mq_tab 20 = some mq_X1_holds) rfl rfl rfl rfl (Nat.le_of_ble_eq_true rfl) (Nat.le_of_ble_eq_true rfl) k7 ?_
      show mq_G mq_X9_coordinates (41, [some (.ref 0), some (.int x1), some (.int x2), none], [.int r7], M7) res
      refine mz_Go.steps (n := 4) (k2 := (47, [some (.ref 0), some (.int x1), some (.int x2), none], [.int x2, .ref 5], M7)) (P := []) rfl mz_o0 ?_
      obtain ⟨r8, k8, h⟩ := h
      refine mz_Go.callV (As := [.int x2]) (rest := []) (rfl : mz_find 47 (mz_rows mq_X9_coordinates) = some (47, .invokevirtual 226, 3, 21, 0, 112)) (rfl : mz_nth mq_tab 21 = some mq_X1_located) rfl rfl rfl rfl (Nat.le_of_ble_eq_true rfl) (Nat.le_of_ble_eq_true rfl) k8 ?_
      show mq_G mq_X9_coordinates (50, [some (.ref 0), some (.int x1), some (.int x2), none], [.int r8], M7) res
      refine mz_Go.steps (n := 3) (k2 := (55, [some (.ref 0), some (.int x1), some (.int x2), some (.int r8)], [.ref 73], M7)) (P := []) rfl mz_o0 ?_
      obtain ⟨M9, k9, h⟩ := h
      refine mz_Go.callV (As := []) (rest := []) (rfl : mz_find 55 (mz_rows mq_X9_coordinates) = some (55, .invokevirtual 120, 3, 44, 0, 76)) (rfl : mz_nth mq_tab 44 = some mq_X6_empties) rfl rfl rfl rfl (Nat.le_of_ble_eq_true rfl) (Nat.le_of_ble_eq_true rfl) k9 ?_
      show mq_G mq_X9_coordinates (58, [some (.ref 0), some (.int x1), some (.int x2), some (.int r8)], [], M9) res
      refine mz_Go.steps (n := 3) (k2 := (63, [some (.ref 0), some (.int x1), some (.int x2), some (.int r8)], [.int r8, .ref 73], M9)) (P := []) rfl mz_o0 ?_
      obtain ⟨r10, k10, h⟩ := h
      refine mz_Go.callS (As := [.int r8]) (rest := [.ref 73]) (rfl : mz_find 63 (mz_rows mq_X9_coordinates) = some (63, .invokestatic 210, 3, 252, 0, 107)) (rfl : mz_nth mq_tab 252 = some mq_J6_bitCount_0f7a4) (by decide) rfl rfl rfl (Nat.le_of_ble_eq_true rfl) (Nat.le_of_ble_eq_true rfl) k10 ?_
      show mq_G mq_X9_coordinates (66, [some (.ref 0), some (.int x1), some (.int x2), some (.int r8)], [.int r10, .ref 73], M9) res
      refine mz_Go.steps (n := 1) (k2 := (67, [some (.ref 0), some (.int x1), some (.int x2), some (.int r8)], [.long (r10.toInt64), .ref 73], M9)) (P := []) rfl mz_o0 ?_
      obtain ⟨M11, k11, h⟩ := h
      refine mz_Go.callV (As := [.long (r10.toInt64)]) (rest := []) (rfl : mz_find 67 (mz_rows mq_X9_coordinates) = some (67, .invokevirtual 124, 3, 45, 0, 78)) (rfl : mz_nth mq_tab 45 = some mq_X6_puts) rfl rfl rfl rfl (Nat.le_of_ble_eq_true rfl) (Nat.le_of_ble_eq_true rfl) k11 ?_
      show mq_G mq_X9_coordinates (70, [some (.ref 0), some (.int x1), some (.int x2), some (.int r8)], [], M11) res
      refine mz_Go.steps (n := 1) (k2 := (71, [some (.ref 0), some (.int x1), some (.int x2), some (.int r8)], [.int r8], M11)) (P := []) rfl mz_o0 ?_
      rw [h]
      exact mz_Go.iret (rfl : mz_find 71 (mz_rows mq_X9_coordinates) = some (71, .ireturn, 1, 0, 0, 0)) rfl
    · replace h := h.2 c13
      refine mz_Go.steps (n := 1) (k2 := (17, [some (.ref 0), some (.int x1), some (.int x2), none], [.int (-1)], M)) (P := []) rfl mz_o0 ?_
      rw [h]
      exact mz_Go.iret (rfl : mz_find 17 (mz_rows mq_X9_coordinates) = some (17, .ireturn, 1, 0, 0, 0)) rfl
set_option maxRecDepth 100000 in
set_option maxHeartbeats 4000000 in
theorem t_X9_made_0 (x1 : Int32) (x2 : Int32) (M : mz_M) {res : mz_O} (h :
    (∃ (r1 : Int32), (mq_C mq_X9_isSlot [.ref 0, .int x1] M (some (.int r1), M)) ∧
    ((r1 = 0 →
      res = (some (.int (-1)), M)) ∧
    (¬ (r1 = 0) →
      (∃ (r3 : Int32), (mq_C mq_X9_isElement [.ref 0, .int x2] M (some (.int r3), M)) ∧
      ((r3 = 0 →
        res = (some (.int (-1)), M)) ∧
      (¬ (r3 = 0) →
        (vp_in x1 4) ∧
        (([10, 11, 12, 13] : List Nat).length = 4) ∧
        (∃ (r7 : Int32), (mq_C mq_X2_sumAt [.ref 1, .ref ([10, 11, 12, 13].getD x1.toNatClampNeg 0), .int x2] M (some (.int r7), M)) ∧
        res = (some (.int r7), M))))))))) :
    mq_G mq_X9_made (0, [some (.ref 0), some (.int x1), some (.int x2)], [], M) res := by
  refine mz_Go.steps (n := 2) (k2 := (2, [some (.ref 0), some (.int x1), some (.int x2)], [.int x1, .ref 0], M)) (P := []) rfl mz_o0 ?_
  obtain ⟨r1, k1, h⟩ := h
  refine mz_Go.callV (As := [.int x1]) (rest := []) (rfl : mz_find 2 (mz_rows mq_X9_made) = some (2, .invokevirtual 203, 3, 124, 0, 105)) (rfl : mz_nth mq_tab 124 = some mq_X9_isSlot) rfl rfl rfl rfl (Nat.le_of_ble_eq_true rfl) (Nat.le_of_ble_eq_true rfl) k1 ?_
  show mq_G mq_X9_made (5, [some (.ref 0), some (.int x1), some (.int x2)], [.int r1], M) res
  refine mz_Go.steps (n := 1) (k2 := (if r1 = 0 then 36 else 8, [some (.ref 0), some (.int x1), some (.int x2)], [], M)) (P := []) rfl mz_o0 ?_
  refine mz_Go.ite (fun c5 => ?_) (fun c5 => ?_)
  · replace h := h.1 c5
    refine mz_Go.steps (n := 1) (k2 := (37, [some (.ref 0), some (.int x1), some (.int x2)], [.int (-1)], M)) (P := []) rfl mz_o0 ?_
    rw [h]
    exact mz_Go.iret (rfl : mz_find 37 (mz_rows mq_X9_made) = some (37, .ireturn, 1, 0, 0, 0)) rfl
  · replace h := h.2 c5
    refine mz_Go.steps (n := 2) (k2 := (10, [some (.ref 0), some (.int x1), some (.int x2)], [.int x2, .ref 0], M)) (P := []) rfl mz_o0 ?_
    obtain ⟨r3, k3, h⟩ := h
    refine mz_Go.callV (As := [.int x2]) (rest := []) (rfl : mz_find 10 (mz_rows mq_X9_made) = some (10, .invokevirtual 103, 3, 123, 0, 68)) (rfl : mz_nth mq_tab 123 = some mq_X9_isElement) rfl rfl rfl rfl (Nat.le_of_ble_eq_true rfl) (Nat.le_of_ble_eq_true rfl) k3 ?_
    show mq_G mq_X9_made (13, [some (.ref 0), some (.int x1), some (.int x2)], [.int r3], M) res
    refine mz_Go.steps (n := 1) (k2 := (if r3 = 0 then 36 else 16, [some (.ref 0), some (.int x1), some (.int x2)], [], M)) (P := []) rfl mz_o0 ?_
    refine mz_Go.ite (fun c13 => ?_) (fun c13 => ?_)
    · replace h := h.1 c13
      refine mz_Go.steps (n := 1) (k2 := (37, [some (.ref 0), some (.int x1), some (.int x2)], [.int (-1)], M)) (P := []) rfl mz_o0 ?_
      rw [h]
      exact mz_Go.iret (rfl : mz_find 37 (mz_rows mq_X9_made) = some (37, .ireturn, 1, 0, 0, 0)) rfl
    · replace h := h.2 c13
      obtain ⟨q5, q6, h⟩ := h
      refine mz_Go.steps (n := 8) (k2 := (30, [some (.ref 0), some (.int x1), some (.int x2)], [.int x2, .ref ([10, 11, 12, 13].getD x1.toNatClampNeg 0), .ref 1], M)) (P := [vp_in x1 4, ([10, 11, 12, 13] : List Nat).length = 4]) rfl (mz_o2 q5 q6) ?_
      obtain ⟨r7, k7, h⟩ := h
      refine mz_Go.callV (As := [.ref ([10, 11, 12, 13].getD x1.toNatClampNeg 0), .int x2]) (rest := []) (rfl : mz_find 30 (mz_rows mq_X9_made) = some (30, .invokevirtual 229, 3, 26, 0, 113)) (rfl : mz_nth mq_tab 26 = some mq_X2_sumAt) rfl rfl rfl rfl (Nat.le_of_ble_eq_true rfl) (Nat.le_of_ble_eq_true rfl) k7 ?_
      show mq_G mq_X9_made (33, [some (.ref 0), some (.int x1), some (.int x2)], [.int r7], M) res
      refine mz_Go.steps (n := 1) (k2 := (37, [some (.ref 0), some (.int x1), some (.int x2)], [.int r7], M)) (P := []) rfl mz_o0 ?_
      rw [h]
      exact mz_Go.iret (rfl : mz_find 37 (mz_rows mq_X9_made) = some (37, .ireturn, 1, 0, 0, 0)) rfl
set_option maxRecDepth 100000 in
set_option maxHeartbeats 4000000 in
theorem t_X9_change_0 (x1 : Int32) (x2 : Int32) (M : mz_M) {res : mz_O} (h :
    (∃ (r1 : Int32), (mq_C mq_X9_isSlot [.ref 0, .int x1] M (some (.int r1), M)) ∧
    ((r1 = 0 →
      res = (some (.int (-1)), M)) ∧
    (¬ (r1 = 0) →
      (∃ (r3 : Int32), (mq_C mq_X9_isSlot [.ref 0, .int x2] M (some (.int r3), M)) ∧
      ((¬ r3 = 0 →
        (vp_in x2 4) ∧
        (([10, 11, 12, 13] : List Nat).length = 4) ∧
        (∃ (r7 : Int32) (M7 : mz_M), (mq_C mq_X1_holds [.ref 5, .ref ([10, 11, 12, 13].getD x2.toNatClampNeg 0), .int (M.1 2 1)] M (some (.int r7), M7)) ∧
        (vp_in x1 4) ∧
        (([10, 11, 12, 13] : List Nat).length = 4) ∧
        (∃ (r10 : Int32) (M10 : mz_M), (mq_C mq_X9_tellsLocated [.ref 0, .ref ([10, 11, 12, 13].getD x1.toNatClampNeg 0)] M7 (some (.int r10), M10)) ∧
        res = (some (.int r10), M10)))) ∧
      (¬ (¬ r3 = 0) →
        res = (some (.int (-1)), M)))))))) :
    mq_G mq_X9_change (0, [some (.ref 0), some (.int x1), some (.int x2)], [], M) res := by
  refine mz_Go.steps (n := 2) (k2 := (2, [some (.ref 0), some (.int x1), some (.int x2)], [.int x1, .ref 0], M)) (P := []) rfl mz_o0 ?_
  obtain ⟨r1, k1, h⟩ := h
  refine mz_Go.callV (As := [.int x1]) (rest := []) (rfl : mz_find 2 (mz_rows mq_X9_change) = some (2, .invokevirtual 203, 3, 124, 0, 105)) (rfl : mz_nth mq_tab 124 = some mq_X9_isSlot) rfl rfl rfl rfl (Nat.le_of_ble_eq_true rfl) (Nat.le_of_ble_eq_true rfl) k1 ?_
  show mq_G mq_X9_change (5, [some (.ref 0), some (.int x1), some (.int x2)], [.int r1], M) res
  refine mz_Go.steps (n := 1) (k2 := (if r1 = 0 then 16 else 8, [some (.ref 0), some (.int x1), some (.int x2)], [], M)) (P := []) rfl mz_o0 ?_
  refine mz_Go.ite (fun c5 => ?_) (fun c5 => ?_)
  · replace h := h.1 c5
    refine mz_Go.steps (n := 1) (k2 := (17, [some (.ref 0), some (.int x1), some (.int x2)], [.int (-1)], M)) (P := []) rfl mz_o0 ?_
    rw [h]
    exact mz_Go.iret (rfl : mz_find 17 (mz_rows mq_X9_change) = some (17, .ireturn, 1, 0, 0, 0)) rfl
  · replace h := h.2 c5
    refine mz_Go.steps (n := 2) (k2 := (10, [some (.ref 0), some (.int x1), some (.int x2)], [.int x2, .ref 0], M)) (P := []) rfl mz_o0 ?_
    obtain ⟨r3, k3, h⟩ := h
    refine mz_Go.callV (As := [.int x2]) (rest := []) (rfl : mz_find 10 (mz_rows mq_X9_change) = some (10, .invokevirtual 203, 3, 124, 0, 105)) (rfl : mz_nth mq_tab 124 = some mq_X9_isSlot) rfl rfl rfl rfl (Nat.le_of_ble_eq_true rfl) (Nat.le_of_ble_eq_true rfl) k3 ?_
    show mq_G mq_X9_change (13, [some (.ref 0), some (.int x1), some (.int x2)], [.int r3], M) res
    refine mz_Go.steps (n := 1) (k2 := (if ¬ r3 = 0 then 18 else 16, [some (.ref 0), some (.int x1), some (.int x2)], [], M)) (P := []) rfl mz_o0 ?_
    refine mz_Go.ite (fun c13 => ?_) (fun c13 => ?_)
    · replace h := h.1 c13
      obtain ⟨q5, q6, h⟩ := h
      refine mz_Go.steps (n := 10) (k2 := (38, [some (.ref 0), some (.int x1), some (.int x2)], [.int (M.1 2 1), .ref ([10, 11, 12, 13].getD x2.toNatClampNeg 0), .ref 5], M)) (P := [vp_in x2 4, ([10, 11, 12, 13] : List Nat).length = 4]) rfl (mz_o2 q5 q6) ?_
      obtain ⟨r7, M7, k7, h⟩ := h
      refine mz_Go.callV (As := [.ref ([10, 11, 12, 13].getD x2.toNatClampNeg 0), .int (M.1 2 1)]) (rest := []) (rfl : mz_find 38 (mz_rows mq_X9_change) = some (38, .invokevirtual 171, 3, 20, 0, 97)) (rfl : mz_nth mq_tab 20 = some mq_X1_holds) rfl rfl rfl rfl (Nat.le_of_ble_eq_true rfl) (Nat.le_of_ble_eq_true rfl) k7 ?_
      show mq_G mq_X9_change (41, [some (.ref 0), some (.int x1), some (.int x2)], [.int r7], M7) res
      obtain ⟨q8, q9, h⟩ := h
      refine mz_Go.steps (n := 7) (k2 := (52, [some (.ref 0), some (.int x1), some (.int x2)], [.ref ([10, 11, 12, 13].getD x1.toNatClampNeg 0), .ref 0], M7)) (P := [vp_in x1 4, ([10, 11, 12, 13] : List Nat).length = 4]) rfl (mz_o2 q8 q9) ?_
      obtain ⟨r10, M10, k10, h⟩ := h
      refine mz_Go.callV (As := [.ref ([10, 11, 12, 13].getD x1.toNatClampNeg 0)]) (rest := []) (rfl : mz_find 52 (mz_rows mq_X9_change) = some (52, .invokevirtual 233, 3, 129, 0, 114)) (rfl : mz_nth mq_tab 129 = some mq_X9_tellsLocated) rfl rfl rfl rfl (Nat.le_of_ble_eq_true rfl) (Nat.le_of_ble_eq_true rfl) k10 ?_
      show mq_G mq_X9_change (55, [some (.ref 0), some (.int x1), some (.int x2)], [.int r10], M10) res
      rw [h]
      exact mz_Go.iret (rfl : mz_find 55 (mz_rows mq_X9_change) = some (55, .ireturn, 1, 0, 0, 0)) rfl
    · replace h := h.2 c13
      refine mz_Go.steps (n := 1) (k2 := (17, [some (.ref 0), some (.int x1), some (.int x2)], [.int (-1)], M)) (P := []) rfl mz_o0 ?_
      rw [h]
      exact mz_Go.iret (rfl : mz_find 17 (mz_rows mq_X9_change) = some (17, .ireturn, 1, 0, 0, 0)) rfl
set_option maxRecDepth 100000 in
set_option maxHeartbeats 4000000 in
theorem t_X9_table_0 (x1 : Int32) (x2 : Int32) (x3 : Int32) (M : mz_M) {res : mz_O} (h :
    (∃ (r1 : Int32), (mq_C mq_X9_isSlot [.ref 0, .int x1] M (some (.int r1), M)) ∧
    ((r1 = 0 →
      res = (some (.int (-1)), M)) ∧
    (¬ (r1 = 0) →
      (∃ (r3 : Int32), (mq_C mq_X9_isPlace [.ref 0, .int x2] M (some (.int r3), M)) ∧
      ((r3 = 0 →
        res = (some (.int (-1)), M)) ∧
      (¬ (r3 = 0) →
        (∃ (r5 : Int32), (mq_C mq_X9_isPlace [.ref 0, .int x3] M (some (.int r5), M)) ∧
        ((¬ r5 = 0 →
          (vp_in x1 4) ∧
          (([10, 11, 12, 13] : List Nat).length = 4) ∧
          (∃ (r9 : Int32) (M9 : mz_M), (mq_C mq_X1_holds [.ref 5, .ref ([10, 11, 12, 13].getD x1.toNatClampNeg 0), .int (M.1 2 1)] M (some (.int r9), M9)) ∧
          (vp_in x1 4) ∧
          (([10, 11, 12, 13] : List Nat).length = 4) ∧
          (mz_nth mq_sk ([10, 11, 12, 13].getD x1.toNatClampNeg 0) = some (.inl (0, 8, []))) ∧
          (vp_in x2 8) ∧
          (vp_in x1 4) ∧
          (([10, 11, 12, 13] : List Nat).length = 4) ∧
          (mz_nth mq_sk ([10, 11, 12, 13].getD x1.toNatClampNeg 0) = some (.inl (0, 8, []))) ∧
          (vp_in x3 8) ∧
          (∃ (r18 : Int32), (mq_C mq_X0_times [.ref 2, .int (M9.1 ([10, 11, 12, 13].getD x1.toNatClampNeg 0) x2.toNatClampNeg), .int (M9.1 ([10, 11, 12, 13].getD x1.toNatClampNeg 0) x3.toNatClampNeg)] M9 (some (.int r18), M9)) ∧
          (∃ (r19 : Int32), (mq_C mq_X1_located [.ref 5, .int r18] M9 (some (.int r19), M9)) ∧
          res = (some (.int r19), M9))))) ∧
        (¬ (¬ r5 = 0) →
          res = (some (.int (-1)), M))))))))))) :
    mq_G mq_X9_table (0, [some (.ref 0), some (.int x1), some (.int x2), some (.int x3)], [], M) res := by
  refine mz_Go.steps (n := 2) (k2 := (2, [some (.ref 0), some (.int x1), some (.int x2), some (.int x3)], [.int x1, .ref 0], M)) (P := []) rfl mz_o0 ?_
  obtain ⟨r1, k1, h⟩ := h
  refine mz_Go.callV (As := [.int x1]) (rest := []) (rfl : mz_find 2 (mz_rows mq_X9_table) = some (2, .invokevirtual 203, 3, 124, 0, 105)) (rfl : mz_nth mq_tab 124 = some mq_X9_isSlot) rfl rfl rfl rfl (Nat.le_of_ble_eq_true rfl) (Nat.le_of_ble_eq_true rfl) k1 ?_
  show mq_G mq_X9_table (5, [some (.ref 0), some (.int x1), some (.int x2), some (.int x3)], [.int r1], M) res
  refine mz_Go.steps (n := 1) (k2 := (if r1 = 0 then 24 else 8, [some (.ref 0), some (.int x1), some (.int x2), some (.int x3)], [], M)) (P := []) rfl mz_o0 ?_
  refine mz_Go.ite (fun c5 => ?_) (fun c5 => ?_)
  · replace h := h.1 c5
    refine mz_Go.steps (n := 1) (k2 := (25, [some (.ref 0), some (.int x1), some (.int x2), some (.int x3)], [.int (-1)], M)) (P := []) rfl mz_o0 ?_
    rw [h]
    exact mz_Go.iret (rfl : mz_find 25 (mz_rows mq_X9_table) = some (25, .ireturn, 1, 0, 0, 0)) rfl
  · replace h := h.2 c5
    refine mz_Go.steps (n := 2) (k2 := (10, [some (.ref 0), some (.int x1), some (.int x2), some (.int x3)], [.int x2, .ref 0], M)) (P := []) rfl mz_o0 ?_
    obtain ⟨r3, k3, h⟩ := h
    refine mz_Go.callV (As := [.int x2]) (rest := []) (rfl : mz_find 10 (mz_rows mq_X9_table) = some (10, .invokevirtual 219, 3, 125, 0, 110)) (rfl : mz_nth mq_tab 125 = some mq_X9_isPlace) rfl rfl rfl rfl (Nat.le_of_ble_eq_true rfl) (Nat.le_of_ble_eq_true rfl) k3 ?_
    show mq_G mq_X9_table (13, [some (.ref 0), some (.int x1), some (.int x2), some (.int x3)], [.int r3], M) res
    refine mz_Go.steps (n := 1) (k2 := (if r3 = 0 then 24 else 16, [some (.ref 0), some (.int x1), some (.int x2), some (.int x3)], [], M)) (P := []) rfl mz_o0 ?_
    refine mz_Go.ite (fun c13 => ?_) (fun c13 => ?_)
    · replace h := h.1 c13
      refine mz_Go.steps (n := 1) (k2 := (25, [some (.ref 0), some (.int x1), some (.int x2), some (.int x3)], [.int (-1)], M)) (P := []) rfl mz_o0 ?_
      rw [h]
      exact mz_Go.iret (rfl : mz_find 25 (mz_rows mq_X9_table) = some (25, .ireturn, 1, 0, 0, 0)) rfl
    · replace h := h.2 c13
      refine mz_Go.steps (n := 2) (k2 := (18, [some (.ref 0), some (.int x1), some (.int x2), some (.int x3)], [.int x3, .ref 0], M)) (P := []) rfl mz_o0 ?_
      obtain ⟨r5, k5, h⟩ := h
      refine mz_Go.callV (As := [.int x3]) (rest := []) (rfl : mz_find 18 (mz_rows mq_X9_table) = some (18, .invokevirtual 219, 3, 125, 0, 110)) (rfl : mz_nth mq_tab 125 = some mq_X9_isPlace) rfl rfl rfl rfl (Nat.le_of_ble_eq_true rfl) (Nat.le_of_ble_eq_true rfl) k5 ?_
      show mq_G mq_X9_table (21, [some (.ref 0), some (.int x1), some (.int x2), some (.int x3)], [.int r5], M) res
      refine mz_Go.steps (n := 1) (k2 := (if ¬ r5 = 0 then 26 else 24, [some (.ref 0), some (.int x1), some (.int x2), some (.int x3)], [], M)) (P := []) rfl mz_o0 ?_
      refine mz_Go.ite (fun c21 => ?_) (fun c21 => ?_)
      · replace h := h.1 c21
        obtain ⟨q7, q8, h⟩ := h
        refine mz_Go.steps (n := 10) (k2 := (46, [some (.ref 0), some (.int x1), some (.int x2), some (.int x3)], [.int (M.1 2 1), .ref ([10, 11, 12, 13].getD x1.toNatClampNeg 0), .ref 5], M)) (P := [vp_in x1 4, ([10, 11, 12, 13] : List Nat).length = 4]) rfl (mz_o2 q7 q8) ?_
        obtain ⟨r9, M9, k9, h⟩ := h
        refine mz_Go.callV (As := [.ref ([10, 11, 12, 13].getD x1.toNatClampNeg 0), .int (M.1 2 1)]) (rest := []) (rfl : mz_find 46 (mz_rows mq_X9_table) = some (46, .invokevirtual 171, 3, 20, 0, 97)) (rfl : mz_nth mq_tab 20 = some mq_X1_holds) rfl rfl rfl rfl (Nat.le_of_ble_eq_true rfl) (Nat.le_of_ble_eq_true rfl) k9 ?_
        show mq_G mq_X9_table (49, [some (.ref 0), some (.int x1), some (.int x2), some (.int x3)], [.int r9], M9) res
        obtain ⟨q10, q11, h⟩ := h
        refine mz_Go.steps (n := 11) (k2 := (68, [some (.ref 0), some (.int x1), some (.int x2), some (.int x3)], [.int x2, .ref ([10, 11, 12, 13].getD x1.toNatClampNeg 0), .ref 2, .ref 5], M9)) (P := [vp_in x1 4, ([10, 11, 12, 13] : List Nat).length = 4]) rfl (mz_o2 q10 q11) ?_
        obtain ⟨q12, q13, h⟩ := h
        refine mz_Go.iald (rfl : mz_find 68 (mz_rows mq_X9_table) = some (68, .iaload, 1, 0, 0, 0)) q12 q13 ?_
        show mq_G mq_X9_table (69, [some (.ref 0), some (.int x1), some (.int x2), some (.int x3)], [.int (M9.1 ([10, 11, 12, 13].getD x1.toNatClampNeg 0) x2.toNatClampNeg), .ref 2, .ref 5], M9) res
        obtain ⟨q14, q15, h⟩ := h
        refine mz_Go.steps (n := 6) (k2 := (79, [some (.ref 0), some (.int x1), some (.int x2), some (.int x3)], [.int x3, .ref ([10, 11, 12, 13].getD x1.toNatClampNeg 0), .int (M9.1 ([10, 11, 12, 13].getD x1.toNatClampNeg 0) x2.toNatClampNeg), .ref 2, .ref 5], M9)) (P := [vp_in x1 4, ([10, 11, 12, 13] : List Nat).length = 4]) rfl (mz_o2 q14 q15) ?_
        obtain ⟨q16, q17, h⟩ := h
        refine mz_Go.iald (rfl : mz_find 79 (mz_rows mq_X9_table) = some (79, .iaload, 1, 0, 0, 0)) q16 q17 ?_
        show mq_G mq_X9_table (80, [some (.ref 0), some (.int x1), some (.int x2), some (.int x3)], [.int (M9.1 ([10, 11, 12, 13].getD x1.toNatClampNeg 0) x3.toNatClampNeg), .int (M9.1 ([10, 11, 12, 13].getD x1.toNatClampNeg 0) x2.toNatClampNeg), .ref 2, .ref 5], M9) res
        obtain ⟨r18, k18, h⟩ := h
        refine mz_Go.callV (As := [.int (M9.1 ([10, 11, 12, 13].getD x1.toNatClampNeg 0) x2.toNatClampNeg), .int (M9.1 ([10, 11, 12, 13].getD x1.toNatClampNeg 0) x3.toNatClampNeg)]) (rest := [.ref 5]) (rfl : mz_find 80 (mz_rows mq_X9_table) = some (80, .invokevirtual 106, 3, 3, 0, 70)) (rfl : mz_nth mq_tab 3 = some mq_X0_times) rfl rfl rfl rfl (Nat.le_of_ble_eq_true rfl) (Nat.le_of_ble_eq_true rfl) k18 ?_
        show mq_G mq_X9_table (83, [some (.ref 0), some (.int x1), some (.int x2), some (.int x3)], [.int r18, .ref 5], M9) res
        obtain ⟨r19, k19, h⟩ := h
        refine mz_Go.callV (As := [.int r18]) (rest := []) (rfl : mz_find 83 (mz_rows mq_X9_table) = some (83, .invokevirtual 226, 3, 21, 0, 112)) (rfl : mz_nth mq_tab 21 = some mq_X1_located) rfl rfl rfl rfl (Nat.le_of_ble_eq_true rfl) (Nat.le_of_ble_eq_true rfl) k19 ?_
        show mq_G mq_X9_table (86, [some (.ref 0), some (.int x1), some (.int x2), some (.int x3)], [.int r19], M9) res
        rw [h]
        exact mz_Go.iret (rfl : mz_find 86 (mz_rows mq_X9_table) = some (86, .ireturn, 1, 0, 0, 0)) rfl
      · replace h := h.2 c21
        refine mz_Go.steps (n := 1) (k2 := (25, [some (.ref 0), some (.int x1), some (.int x2), some (.int x3)], [.int (-1)], M)) (P := []) rfl mz_o0 ?_
        rw [h]
        exact mz_Go.iret (rfl : mz_find 25 (mz_rows mq_X9_table) = some (25, .ireturn, 1, 0, 0, 0)) rfl
set_option maxRecDepth 100000 in
set_option maxHeartbeats 4000000 in
theorem t_X9_complexity_0 (x1 : Int32) (M : mz_M) {res : mz_O} (h :
    (∃ (r1 : Int32), (mq_C mq_X9_isSlot [.ref 0, .int x1] M (some (.int r1), M)) ∧
    ((¬ r1 = 0 →
      (vp_in x1 4) ∧
      (([10, 11, 12, 13] : List Nat).length = 4) ∧
      (∃ (r5 : Int32) (M5 : mz_M), (mq_C mq_X1_holds [.ref 5, .ref ([10, 11, 12, 13].getD x1.toNatClampNeg 0), .int (M.1 2 1)] M (some (.int r5), M5)) ∧
      (∃ (r6 : Int32), (mq_C mq_X2_bitsOfFirst [.ref 1, .ref ([10, 11, 12, 13].getD x1.toNatClampNeg 0)] M5 (some (.int r6), M5)) ∧
      (∃ (r7 : Int32), (mq_C mq_X2_whoseNormal [.ref 1, .ref ([10, 11, 12, 13].getD x1.toNatClampNeg 0)] M5 (some (.int r7), M5)) ∧
      (∃ (M8 : mz_M), (mq_C mq_X6_empties [.ref 73] M5 (none, M8)) ∧
      (∃ (r9 : Int32), (mq_C mq_X2_bitsOfAll [.ref 1, .ref ([10, 11, 12, 13].getD x1.toNatClampNeg 0)] M8 (some (.int r9), M8)) ∧
      (∃ (M10 : mz_M), (mq_C mq_X6_puts [.ref 73, .long (r9.toInt64)] M8 (none, M10)) ∧
      ((r7 = (-1) →
        (∃ (M12 : mz_M), (mq_C mq_X6_puts [.ref 73, .long ((0 : Int32).toInt64)] M10 (none, M12)) ∧
        (∃ (M13 : mz_M), (mq_C mq_X6_puts [.ref 73, .long (r7.toInt64)] M12 (none, M13)) ∧
        res = (some (.int r6), M13)))) ∧
      (¬ (r7 = (-1)) →
        ((¬ r6 = ((2 * (M10.1 2 1)) - 1) →
          (∃ (M15 : mz_M), (mq_C mq_X6_puts [.ref 73, .long ((0 : Int32).toInt64)] M10 (none, M15)) ∧
          (∃ (M16 : mz_M), (mq_C mq_X6_puts [.ref 73, .long (r7.toInt64)] M15 (none, M16)) ∧
          res = (some (.int r6), M16)))) ∧
        (¬ (¬ r6 = ((2 * (M10.1 2 1)) - 1)) →
          (∃ (M17 : mz_M), (mq_C mq_X6_puts [.ref 73, .long ((1 : Int32).toInt64)] M10 (none, M17)) ∧
          (∃ (M18 : mz_M), (mq_C mq_X6_puts [.ref 73, .long (r7.toInt64)] M17 (none, M18)) ∧
          res = (some (.int r6), M18)))))))))))))) ∧
    (¬ (¬ r1 = 0) →
      res = (some (.int (-1)), M))))) :
    mq_G mq_X9_complexity (0, [some (.ref 0), some (.int x1), none, none, none], [], M) res := by
  refine mz_Go.steps (n := 2) (k2 := (2, [some (.ref 0), some (.int x1), none, none, none], [.int x1, .ref 0], M)) (P := []) rfl mz_o0 ?_
  obtain ⟨r1, k1, h⟩ := h
  refine mz_Go.callV (As := [.int x1]) (rest := []) (rfl : mz_find 2 (mz_rows mq_X9_complexity) = some (2, .invokevirtual 203, 3, 124, 0, 105)) (rfl : mz_nth mq_tab 124 = some mq_X9_isSlot) rfl rfl rfl rfl (Nat.le_of_ble_eq_true rfl) (Nat.le_of_ble_eq_true rfl) k1 ?_
  show mq_G mq_X9_complexity (5, [some (.ref 0), some (.int x1), none, none, none], [.int r1], M) res
  refine mz_Go.steps (n := 1) (k2 := (if ¬ r1 = 0 then 10 else 8, [some (.ref 0), some (.int x1), none, none, none], [], M)) (P := []) rfl mz_o0 ?_
  refine mz_Go.ite (fun c5 => ?_) (fun c5 => ?_)
  · replace h := h.1 c5
    obtain ⟨q3, q4, h⟩ := h
    refine mz_Go.steps (n := 12) (k2 := (32, [some (.ref 0), some (.int x1), some (.ref ([10, 11, 12, 13].getD x1.toNatClampNeg 0)), none, none], [.int (M.1 2 1), .ref ([10, 11, 12, 13].getD x1.toNatClampNeg 0), .ref 5], M)) (P := [vp_in x1 4, ([10, 11, 12, 13] : List Nat).length = 4]) rfl (mz_o2 q3 q4) ?_
    obtain ⟨r5, M5, k5, h⟩ := h
    refine mz_Go.callV (As := [.ref ([10, 11, 12, 13].getD x1.toNatClampNeg 0), .int (M.1 2 1)]) (rest := []) (rfl : mz_find 32 (mz_rows mq_X9_complexity) = some (32, .invokevirtual 171, 3, 20, 0, 97)) (rfl : mz_nth mq_tab 20 = some mq_X1_holds) rfl rfl rfl rfl (Nat.le_of_ble_eq_true rfl) (Nat.le_of_ble_eq_true rfl) k5 ?_
    show mq_G mq_X9_complexity (35, [some (.ref 0), some (.int x1), some (.ref ([10, 11, 12, 13].getD x1.toNatClampNeg 0)), none, none], [.int r5], M5) res
    refine mz_Go.steps (n := 4) (k2 := (41, [some (.ref 0), some (.int x1), some (.ref ([10, 11, 12, 13].getD x1.toNatClampNeg 0)), none, none], [.ref ([10, 11, 12, 13].getD x1.toNatClampNeg 0), .ref 1], M5)) (P := []) rfl mz_o0 ?_
    obtain ⟨r6, k6, h⟩ := h
    refine mz_Go.callV (As := [.ref ([10, 11, 12, 13].getD x1.toNatClampNeg 0)]) (rest := []) (rfl : mz_find 41 (mz_rows mq_X9_complexity) = some (41, .invokevirtual 184, 3, 23, 0, 100)) (rfl : mz_nth mq_tab 23 = some mq_X2_bitsOfFirst) rfl rfl rfl rfl (Nat.le_of_ble_eq_true rfl) (Nat.le_of_ble_eq_true rfl) k6 ?_
    show mq_G mq_X9_complexity (44, [some (.ref 0), some (.int x1), some (.ref ([10, 11, 12, 13].getD x1.toNatClampNeg 0)), none, none], [.int r6], M5) res
    refine mz_Go.steps (n := 4) (k2 := (50, [some (.ref 0), some (.int x1), some (.ref ([10, 11, 12, 13].getD x1.toNatClampNeg 0)), some (.int r6), none], [.ref ([10, 11, 12, 13].getD x1.toNatClampNeg 0), .ref 1], M5)) (P := []) rfl mz_o0 ?_
    obtain ⟨r7, k7, h⟩ := h
    refine mz_Go.callV (As := [.ref ([10, 11, 12, 13].getD x1.toNatClampNeg 0)]) (rest := []) (rfl : mz_find 50 (mz_rows mq_X9_complexity) = some (50, .invokevirtual 236, 3, 25, 0, 115)) (rfl : mz_nth mq_tab 25 = some mq_X2_whoseNormal) rfl rfl rfl rfl (Nat.le_of_ble_eq_true rfl) (Nat.le_of_ble_eq_true rfl) k7 ?_
    show mq_G mq_X9_complexity (53, [some (.ref 0), some (.int x1), some (.ref ([10, 11, 12, 13].getD x1.toNatClampNeg 0)), some (.int r6), none], [.int r7], M5) res
    refine mz_Go.steps (n := 3) (k2 := (59, [some (.ref 0), some (.int x1), some (.ref ([10, 11, 12, 13].getD x1.toNatClampNeg 0)), some (.int r6), some (.int r7)], [.ref 73], M5)) (P := []) rfl mz_o0 ?_
    obtain ⟨M8, k8, h⟩ := h
    refine mz_Go.callV (As := []) (rest := []) (rfl : mz_find 59 (mz_rows mq_X9_complexity) = some (59, .invokevirtual 120, 3, 44, 0, 76)) (rfl : mz_nth mq_tab 44 = some mq_X6_empties) rfl rfl rfl rfl (Nat.le_of_ble_eq_true rfl) (Nat.le_of_ble_eq_true rfl) k8 ?_
    show mq_G mq_X9_complexity (62, [some (.ref 0), some (.int x1), some (.ref ([10, 11, 12, 13].getD x1.toNatClampNeg 0)), some (.int r6), some (.int r7)], [], M8) res
    refine mz_Go.steps (n := 5) (k2 := (71, [some (.ref 0), some (.int x1), some (.ref ([10, 11, 12, 13].getD x1.toNatClampNeg 0)), some (.int r6), some (.int r7)], [.ref ([10, 11, 12, 13].getD x1.toNatClampNeg 0), .ref 1, .ref 73], M8)) (P := []) rfl mz_o0 ?_
    obtain ⟨r9, k9, h⟩ := h
    refine mz_Go.callV (As := [.ref ([10, 11, 12, 13].getD x1.toNatClampNeg 0)]) (rest := [.ref 73]) (rfl : mz_find 71 (mz_rows mq_X9_complexity) = some (71, .invokevirtual 191, 3, 24, 0, 102)) (rfl : mz_nth mq_tab 24 = some mq_X2_bitsOfAll) rfl rfl rfl rfl (Nat.le_of_ble_eq_true rfl) (Nat.le_of_ble_eq_true rfl) k9 ?_
    show mq_G mq_X9_complexity (74, [some (.ref 0), some (.int x1), some (.ref ([10, 11, 12, 13].getD x1.toNatClampNeg 0)), some (.int r6), some (.int r7)], [.int r9, .ref 73], M8) res
    refine mz_Go.steps (n := 1) (k2 := (75, [some (.ref 0), some (.int x1), some (.ref ([10, 11, 12, 13].getD x1.toNatClampNeg 0)), some (.int r6), some (.int r7)], [.long (r9.toInt64), .ref 73], M8)) (P := []) rfl mz_o0 ?_
    obtain ⟨M10, k10, h⟩ := h
    refine mz_Go.callV (As := [.long (r9.toInt64)]) (rest := []) (rfl : mz_find 75 (mz_rows mq_X9_complexity) = some (75, .invokevirtual 124, 3, 45, 0, 78)) (rfl : mz_nth mq_tab 45 = some mq_X6_puts) rfl rfl rfl rfl (Nat.le_of_ble_eq_true rfl) (Nat.le_of_ble_eq_true rfl) k10 ?_
    show mq_G mq_X9_complexity (78, [some (.ref 0), some (.int x1), some (.ref ([10, 11, 12, 13].getD x1.toNatClampNeg 0)), some (.int r6), some (.int r7)], [], M10) res
    refine mz_Go.steps (n := 5) (k2 := (if r7 = (-1) then 107 else 88, [some (.ref 0), some (.int x1), some (.ref ([10, 11, 12, 13].getD x1.toNatClampNeg 0)), some (.int r6), some (.int r7)], [.ref 73], M10)) (P := []) rfl mz_o0 ?_
    refine mz_Go.ite (fun c85 => ?_) (fun c85 => ?_)
    · replace h := h.1 c85
      refine mz_Go.steps (n := 1) (k2 := (108, [some (.ref 0), some (.int x1), some (.ref ([10, 11, 12, 13].getD x1.toNatClampNeg 0)), some (.int r6), some (.int r7)], [.long ((0 : Int32).toInt64), .ref 73], M10)) (P := []) rfl mz_o0 ?_
      obtain ⟨M12, k12, h⟩ := h
      refine mz_Go.callV (As := [.long ((0 : Int32).toInt64)]) (rest := []) (rfl : mz_find 108 (mz_rows mq_X9_complexity) = some (108, .invokevirtual 124, 3, 45, 0, 78)) (rfl : mz_nth mq_tab 45 = some mq_X6_puts) rfl rfl rfl rfl (Nat.le_of_ble_eq_true rfl) (Nat.le_of_ble_eq_true rfl) k12 ?_
      show mq_G mq_X9_complexity (111, [some (.ref 0), some (.int x1), some (.ref ([10, 11, 12, 13].getD x1.toNatClampNeg 0)), some (.int r6), some (.int r7)], [], M12) res
      refine mz_Go.steps (n := 4) (k2 := (118, [some (.ref 0), some (.int x1), some (.ref ([10, 11, 12, 13].getD x1.toNatClampNeg 0)), some (.int r6), some (.int r7)], [.long (r7.toInt64), .ref 73], M12)) (P := []) rfl mz_o0 ?_
      obtain ⟨M13, k13, h⟩ := h
      refine mz_Go.callV (As := [.long (r7.toInt64)]) (rest := []) (rfl : mz_find 118 (mz_rows mq_X9_complexity) = some (118, .invokevirtual 124, 3, 45, 0, 78)) (rfl : mz_nth mq_tab 45 = some mq_X6_puts) rfl rfl rfl rfl (Nat.le_of_ble_eq_true rfl) (Nat.le_of_ble_eq_true rfl) k13 ?_
      show mq_G mq_X9_complexity (121, [some (.ref 0), some (.int x1), some (.ref ([10, 11, 12, 13].getD x1.toNatClampNeg 0)), some (.int r6), some (.int r7)], [], M13) res
      refine mz_Go.steps (n := 1) (k2 := (122, [some (.ref 0), some (.int x1), some (.ref ([10, 11, 12, 13].getD x1.toNatClampNeg 0)), some (.int r6), some (.int r7)], [.int r6], M13)) (P := []) rfl mz_o0 ?_
      rw [h]
      exact mz_Go.iret (rfl : mz_find 122 (mz_rows mq_X9_complexity) = some (122, .ireturn, 1, 0, 0, 0)) rfl
    · replace h := h.2 c85
      refine mz_Go.steps (n := 9) (k2 := (if ¬ r6 = ((2 * (M10.1 2 1)) - 1) then 107 else 103, [some (.ref 0), some (.int x1), some (.ref ([10, 11, 12, 13].getD x1.toNatClampNeg 0)), some (.int r6), some (.int r7)], [.ref 73], M10)) (P := []) rfl mz_o0 ?_
      refine mz_Go.ite (fun c100 => ?_) (fun c100 => ?_)
      · replace h := h.1 c100
        refine mz_Go.steps (n := 1) (k2 := (108, [some (.ref 0), some (.int x1), some (.ref ([10, 11, 12, 13].getD x1.toNatClampNeg 0)), some (.int r6), some (.int r7)], [.long ((0 : Int32).toInt64), .ref 73], M10)) (P := []) rfl mz_o0 ?_
        obtain ⟨M15, k15, h⟩ := h
        refine mz_Go.callV (As := [.long ((0 : Int32).toInt64)]) (rest := []) (rfl : mz_find 108 (mz_rows mq_X9_complexity) = some (108, .invokevirtual 124, 3, 45, 0, 78)) (rfl : mz_nth mq_tab 45 = some mq_X6_puts) rfl rfl rfl rfl (Nat.le_of_ble_eq_true rfl) (Nat.le_of_ble_eq_true rfl) k15 ?_
        show mq_G mq_X9_complexity (111, [some (.ref 0), some (.int x1), some (.ref ([10, 11, 12, 13].getD x1.toNatClampNeg 0)), some (.int r6), some (.int r7)], [], M15) res
        refine mz_Go.steps (n := 4) (k2 := (118, [some (.ref 0), some (.int x1), some (.ref ([10, 11, 12, 13].getD x1.toNatClampNeg 0)), some (.int r6), some (.int r7)], [.long (r7.toInt64), .ref 73], M15)) (P := []) rfl mz_o0 ?_
        obtain ⟨M16, k16, h⟩ := h
        refine mz_Go.callV (As := [.long (r7.toInt64)]) (rest := []) (rfl : mz_find 118 (mz_rows mq_X9_complexity) = some (118, .invokevirtual 124, 3, 45, 0, 78)) (rfl : mz_nth mq_tab 45 = some mq_X6_puts) rfl rfl rfl rfl (Nat.le_of_ble_eq_true rfl) (Nat.le_of_ble_eq_true rfl) k16 ?_
        show mq_G mq_X9_complexity (121, [some (.ref 0), some (.int x1), some (.ref ([10, 11, 12, 13].getD x1.toNatClampNeg 0)), some (.int r6), some (.int r7)], [], M16) res
        refine mz_Go.steps (n := 1) (k2 := (122, [some (.ref 0), some (.int x1), some (.ref ([10, 11, 12, 13].getD x1.toNatClampNeg 0)), some (.int r6), some (.int r7)], [.int r6], M16)) (P := []) rfl mz_o0 ?_
        rw [h]
        exact mz_Go.iret (rfl : mz_find 122 (mz_rows mq_X9_complexity) = some (122, .ireturn, 1, 0, 0, 0)) rfl
      · replace h := h.2 c100
        refine mz_Go.steps (n := 2) (k2 := (108, [some (.ref 0), some (.int x1), some (.ref ([10, 11, 12, 13].getD x1.toNatClampNeg 0)), some (.int r6), some (.int r7)], [.long ((1 : Int32).toInt64), .ref 73], M10)) (P := []) rfl mz_o0 ?_
        obtain ⟨M17, k17, h⟩ := h
        refine mz_Go.callV (As := [.long ((1 : Int32).toInt64)]) (rest := []) (rfl : mz_find 108 (mz_rows mq_X9_complexity) = some (108, .invokevirtual 124, 3, 45, 0, 78)) (rfl : mz_nth mq_tab 45 = some mq_X6_puts) rfl rfl rfl rfl (Nat.le_of_ble_eq_true rfl) (Nat.le_of_ble_eq_true rfl) k17 ?_
        show mq_G mq_X9_complexity (111, [some (.ref 0), some (.int x1), some (.ref ([10, 11, 12, 13].getD x1.toNatClampNeg 0)), some (.int r6), some (.int r7)], [], M17) res
        refine mz_Go.steps (n := 4) (k2 := (118, [some (.ref 0), some (.int x1), some (.ref ([10, 11, 12, 13].getD x1.toNatClampNeg 0)), some (.int r6), some (.int r7)], [.long (r7.toInt64), .ref 73], M17)) (P := []) rfl mz_o0 ?_
        obtain ⟨M18, k18, h⟩ := h
        refine mz_Go.callV (As := [.long (r7.toInt64)]) (rest := []) (rfl : mz_find 118 (mz_rows mq_X9_complexity) = some (118, .invokevirtual 124, 3, 45, 0, 78)) (rfl : mz_nth mq_tab 45 = some mq_X6_puts) rfl rfl rfl rfl (Nat.le_of_ble_eq_true rfl) (Nat.le_of_ble_eq_true rfl) k18 ?_
        show mq_G mq_X9_complexity (121, [some (.ref 0), some (.int x1), some (.ref ([10, 11, 12, 13].getD x1.toNatClampNeg 0)), some (.int r6), some (.int r7)], [], M18) res
        refine mz_Go.steps (n := 1) (k2 := (122, [some (.ref 0), some (.int x1), some (.ref ([10, 11, 12, 13].getD x1.toNatClampNeg 0)), some (.int r6), some (.int r7)], [.int r6], M18)) (P := []) rfl mz_o0 ?_
        rw [h]
        exact mz_Go.iret (rfl : mz_find 122 (mz_rows mq_X9_complexity) = some (122, .ireturn, 1, 0, 0, 0)) rfl
  · replace h := h.2 c5
    refine mz_Go.steps (n := 1) (k2 := (9, [some (.ref 0), some (.int x1), none, none, none], [.int (-1)], M)) (P := []) rfl mz_o0 ?_
    rw [h]
    exact mz_Go.iret (rfl : mz_find 9 (mz_rows mq_X9_complexity) = some (9, .ireturn, 1, 0, 0, 0)) rfl
set_option maxRecDepth 100000 in
set_option maxHeartbeats 4000000 in
theorem t_X9_by_0 (x1 : Int32) (x2 : Int32) (M : mz_M) {res : mz_O} (h :
    (∃ (r1 : Int32), (mq_C mq_X9_isSlot [.ref 0, .int x1] M (some (.int r1), M)) ∧
    ((r1 = 0 →
      res = (some (.int (-1)), M)) ∧
    (¬ (r1 = 0) →
      (∃ (r3 : Int32), (mq_C mq_X9_isElement [.ref 0, .int x2] M (some (.int r3), M)) ∧
      ((¬ r3 = 0 →
        (vp_in x1 4) ∧
        (([10, 11, 12, 13] : List Nat).length = 4) ∧
        (∃ (r7 : Int32) (M7 : mz_M), (mq_C mq_X1_holds [.ref 5, .ref ([10, 11, 12, 13].getD x1.toNatClampNeg 0), .int (M.1 2 1)] M (some (.int r7), M7)) ∧
        mq_G mq_X9_by (47, [some (.ref 0), some (.int x1), some (.int x2), some (.int 0), some (.int 0)], [], M7) res)) ∧
      (¬ (¬ r3 = 0) →
        res = (some (.int (-1)), M)))))))) :
    mq_G mq_X9_by (0, [some (.ref 0), some (.int x1), some (.int x2), none, none], [], M) res := by
  refine mz_Go.steps (n := 2) (k2 := (2, [some (.ref 0), some (.int x1), some (.int x2), none, none], [.int x1, .ref 0], M)) (P := []) rfl mz_o0 ?_
  obtain ⟨r1, k1, h⟩ := h
  refine mz_Go.callV (As := [.int x1]) (rest := []) (rfl : mz_find 2 (mz_rows mq_X9_by) = some (2, .invokevirtual 203, 3, 124, 0, 105)) (rfl : mz_nth mq_tab 124 = some mq_X9_isSlot) rfl rfl rfl rfl (Nat.le_of_ble_eq_true rfl) (Nat.le_of_ble_eq_true rfl) k1 ?_
  show mq_G mq_X9_by (5, [some (.ref 0), some (.int x1), some (.int x2), none, none], [.int r1], M) res
  refine mz_Go.steps (n := 1) (k2 := (if r1 = 0 then 16 else 8, [some (.ref 0), some (.int x1), some (.int x2), none, none], [], M)) (P := []) rfl mz_o0 ?_
  refine mz_Go.ite (fun c5 => ?_) (fun c5 => ?_)
  · replace h := h.1 c5
    refine mz_Go.steps (n := 1) (k2 := (17, [some (.ref 0), some (.int x1), some (.int x2), none, none], [.int (-1)], M)) (P := []) rfl mz_o0 ?_
    rw [h]
    exact mz_Go.iret (rfl : mz_find 17 (mz_rows mq_X9_by) = some (17, .ireturn, 1, 0, 0, 0)) rfl
  · replace h := h.2 c5
    refine mz_Go.steps (n := 2) (k2 := (10, [some (.ref 0), some (.int x1), some (.int x2), none, none], [.int x2, .ref 0], M)) (P := []) rfl mz_o0 ?_
    obtain ⟨r3, k3, h⟩ := h
    refine mz_Go.callV (As := [.int x2]) (rest := []) (rfl : mz_find 10 (mz_rows mq_X9_by) = some (10, .invokevirtual 103, 3, 123, 0, 68)) (rfl : mz_nth mq_tab 123 = some mq_X9_isElement) rfl rfl rfl rfl (Nat.le_of_ble_eq_true rfl) (Nat.le_of_ble_eq_true rfl) k3 ?_
    show mq_G mq_X9_by (13, [some (.ref 0), some (.int x1), some (.int x2), none, none], [.int r3], M) res
    refine mz_Go.steps (n := 1) (k2 := (if ¬ r3 = 0 then 18 else 16, [some (.ref 0), some (.int x1), some (.int x2), none, none], [], M)) (P := []) rfl mz_o0 ?_
    refine mz_Go.ite (fun c13 => ?_) (fun c13 => ?_)
    · replace h := h.1 c13
      obtain ⟨q5, q6, h⟩ := h
      refine mz_Go.steps (n := 10) (k2 := (38, [some (.ref 0), some (.int x1), some (.int x2), none, none], [.int (M.1 2 1), .ref ([10, 11, 12, 13].getD x1.toNatClampNeg 0), .ref 5], M)) (P := [vp_in x1 4, ([10, 11, 12, 13] : List Nat).length = 4]) rfl (mz_o2 q5 q6) ?_
      obtain ⟨r7, M7, k7, h⟩ := h
      refine mz_Go.callV (As := [.ref ([10, 11, 12, 13].getD x1.toNatClampNeg 0), .int (M.1 2 1)]) (rest := []) (rfl : mz_find 38 (mz_rows mq_X9_by) = some (38, .invokevirtual 171, 3, 20, 0, 97)) (rfl : mz_nth mq_tab 20 = some mq_X1_holds) rfl rfl rfl rfl (Nat.le_of_ble_eq_true rfl) (Nat.le_of_ble_eq_true rfl) k7 ?_
      show mq_G mq_X9_by (41, [some (.ref 0), some (.int x1), some (.int x2), none, none], [.int r7], M7) res
      refine mz_Go.steps (n := 5) (k2 := (47, [some (.ref 0), some (.int x1), some (.int x2), some (.int 0), some (.int 0)], [], M7)) (P := []) rfl mz_o0 ?_
      exact h
    · replace h := h.2 c13
      refine mz_Go.steps (n := 1) (k2 := (17, [some (.ref 0), some (.int x1), some (.int x2), none, none], [.int (-1)], M)) (P := []) rfl mz_o0 ?_
      rw [h]
      exact mz_Go.iret (rfl : mz_find 17 (mz_rows mq_X9_by) = some (17, .ireturn, 1, 0, 0, 0)) rfl
set_option maxRecDepth 100000 in
set_option maxHeartbeats 4000000 in
theorem t_X9_by_47 (x1 : Int32) (x2 : Int32) (x3 : Int32) (x4 : Int32) (M : mz_M) {res : mz_O} (h :
    (((M.1 2 1) ≤ x4 →
      (∃ (r2 : Int32) (M2 : mz_M), (mq_C mq_X9_tellsLocated [.ref 0, .ref 75] M (some (.int r2), M2)) ∧
      (∃ (M3 : mz_M), (mq_C mq_X6_puts [.ref 73, .long (x3.toInt64)] M2 (none, M3)) ∧
      res = (some (.int r2), M3)))) ∧
    (¬ ((M.1 2 1) ≤ x4) →
      (vp_in x1 4) ∧
      (([10, 11, 12, 13] : List Nat).length = 4) ∧
      (mz_nth mq_sk ([10, 11, 12, 13].getD x1.toNatClampNeg 0) = some (.inl (0, 8, []))) ∧
      (vp_in x4 8) ∧
      (∃ (r8 : Int32), (mq_C mq_X0_times [.ref 2, .int x2, .int (M.1 ([10, 11, 12, 13].getD x1.toNatClampNeg 0) x4.toNatClampNeg)] M (some (.int r8), M)) ∧
      (vp_in x4 8) ∧
      (∀ M9 : mz_M, M9 = mz_wr M 75 (upd (M.1 75) x4.toNatClampNeg r8) →
      (vp_in x4 8) ∧
      (∃ (r12 : Int32), (mq_C mq_X1_located [.ref 5, .int (M9.1 75 x4.toNatClampNeg)] M9 (some (.int r12), M9)) ∧
      mq_G mq_X9_by (47, [some (.ref 0), some (.int x1), some (.int x2), some (.int (x3 + ((r12 >>> (x4 &&& 31)) &&& 1))), some (.int (x4 + 1))], [], M9) res)))))) :
    mq_G mq_X9_by (47, [some (.ref 0), some (.int x1), some (.int x2), some (.int x3), some (.int x4)], [], M) res := by
  refine mz_Go.steps (n := 5) (k2 := (if (M.1 2 1) ≤ x4 then 114 else 59, [some (.ref 0), some (.int x1), some (.int x2), some (.int x3), some (.int x4)], [], M)) (P := []) rfl mz_o0 ?_
  refine mz_Go.ite (fun c56 => ?_) (fun c56 => ?_)
  · replace h := h.1 c56
    refine mz_Go.steps (n := 3) (k2 := (119, [some (.ref 0), some (.int x1), some (.int x2), some (.int x3), some (.int x4)], [.ref 75, .ref 0], M)) (P := []) rfl mz_o0 ?_
    obtain ⟨r2, M2, k2, h⟩ := h
    refine mz_Go.callV (As := [.ref 75]) (rest := []) (rfl : mz_find 119 (mz_rows mq_X9_by) = some (119, .invokevirtual 233, 3, 129, 0, 114)) (rfl : mz_nth mq_tab 129 = some mq_X9_tellsLocated) rfl rfl rfl rfl (Nat.le_of_ble_eq_true rfl) (Nat.le_of_ble_eq_true rfl) k2 ?_
    show mq_G mq_X9_by (122, [some (.ref 0), some (.int x1), some (.int x2), some (.int x3), some (.int x4)], [.int r2], M2) res
    refine mz_Go.steps (n := 5) (k2 := (130, [some (.ref 0), some (.int x1), some (.int x2), some (.int x3), some (.int r2)], [.long (x3.toInt64), .ref 73], M2)) (P := []) rfl mz_o0 ?_
    obtain ⟨M3, k3, h⟩ := h
    refine mz_Go.callV (As := [.long (x3.toInt64)]) (rest := []) (rfl : mz_find 130 (mz_rows mq_X9_by) = some (130, .invokevirtual 124, 3, 45, 0, 78)) (rfl : mz_nth mq_tab 45 = some mq_X6_puts) rfl rfl rfl rfl (Nat.le_of_ble_eq_true rfl) (Nat.le_of_ble_eq_true rfl) k3 ?_
    show mq_G mq_X9_by (133, [some (.ref 0), some (.int x1), some (.int x2), some (.int x3), some (.int r2)], [], M3) res
    refine mz_Go.steps (n := 1) (k2 := (135, [some (.ref 0), some (.int x1), some (.int x2), some (.int x3), some (.int r2)], [.int r2], M3)) (P := []) rfl mz_o0 ?_
    rw [h]
    exact mz_Go.iret (rfl : mz_find 135 (mz_rows mq_X9_by) = some (135, .ireturn, 1, 0, 0, 0)) rfl
  · replace h := h.2 c56
    obtain ⟨q4, q5, h⟩ := h
    refine mz_Go.steps (n := 12) (k2 := (81, [some (.ref 0), some (.int x1), some (.int x2), some (.int x3), some (.int x4)], [.int x4, .ref ([10, 11, 12, 13].getD x1.toNatClampNeg 0), .int x2, .ref 2, .int x4, .ref 75], M)) (P := [vp_in x1 4, ([10, 11, 12, 13] : List Nat).length = 4]) rfl (mz_o2 q4 q5) ?_
    obtain ⟨q6, q7, h⟩ := h
    refine mz_Go.iald (rfl : mz_find 81 (mz_rows mq_X9_by) = some (81, .iaload, 1, 0, 0, 0)) q6 q7 ?_
    show mq_G mq_X9_by (82, [some (.ref 0), some (.int x1), some (.int x2), some (.int x3), some (.int x4)], [.int (M.1 ([10, 11, 12, 13].getD x1.toNatClampNeg 0) x4.toNatClampNeg), .int x2, .ref 2, .int x4, .ref 75], M) res
    obtain ⟨r8, k8, h⟩ := h
    refine mz_Go.callV (As := [.int x2, .int (M.1 ([10, 11, 12, 13].getD x1.toNatClampNeg 0) x4.toNatClampNeg)]) (rest := [.int x4, .ref 75]) (rfl : mz_find 82 (mz_rows mq_X9_by) = some (82, .invokevirtual 106, 3, 3, 0, 70)) (rfl : mz_nth mq_tab 3 = some mq_X0_times) rfl rfl rfl rfl (Nat.le_of_ble_eq_true rfl) (Nat.le_of_ble_eq_true rfl) k8 ?_
    show mq_G mq_X9_by (85, [some (.ref 0), some (.int x1), some (.int x2), some (.int x3), some (.int x4)], [.int r8, .int x4, .ref 75], M) res
    obtain ⟨q10, h⟩ := h
    obtain ⟨M9, e9⟩ : ∃ y, y = mz_wr M 75 (upd (M.1 75) x4.toNatClampNeg r8) := ⟨_, rfl⟩
    replace h := h M9 e9
    refine mz_Go.steps (n := 1) (k2 := (86, [some (.ref 0), some (.int x1), some (.int x2), some (.int x3), some (.int x4)], [], (mz_wr M 75 (upd (M.1 75) x4.toNatClampNeg r8)))) (P := [vp_in x4 8]) rfl (mz_o1 q10) ?_
    rw [← e9]
    obtain ⟨q11, h⟩ := h
    refine mz_Go.steps (n := 7) (k2 := (98, [some (.ref 0), some (.int x1), some (.int x2), some (.int x3), some (.int x4)], [.int (M9.1 75 x4.toNatClampNeg), .ref 5, .int x3], M9)) (P := [vp_in x4 8]) rfl (mz_o1 q11) ?_
    obtain ⟨r12, k12, h⟩ := h
    refine mz_Go.callV (As := [.int (M9.1 75 x4.toNatClampNeg)]) (rest := [.int x3]) (rfl : mz_find 98 (mz_rows mq_X9_by) = some (98, .invokevirtual 226, 3, 21, 0, 112)) (rfl : mz_nth mq_tab 21 = some mq_X1_located) rfl rfl rfl rfl (Nat.le_of_ble_eq_true rfl) (Nat.le_of_ble_eq_true rfl) k12 ?_
    show mq_G mq_X9_by (101, [some (.ref 0), some (.int x1), some (.int x2), some (.int x3), some (.int x4)], [.int r12, .int x3], M9) res
    refine mz_Go.steps (n := 8) (k2 := (47, [some (.ref 0), some (.int x1), some (.int x2), some (.int (x3 + ((r12 >>> (x4 &&& 31)) &&& 1))), some (.int (x4 + 1))], [], M9)) (P := []) rfl mz_o0 ?_
    exact h
set_option maxRecDepth 100000 in
set_option maxHeartbeats 4000000 in
theorem t_X9_squares_0 (x1 : Int32) (M : mz_M) {res : mz_O} (h :
    (∃ (r1 : Int32), (mq_C mq_X9_isSlot [.ref 0, .int x1] M (some (.int r1), M)) ∧
    ((¬ r1 = 0 →
      (vp_in x1 4) ∧
      (([10, 11, 12, 13] : List Nat).length = 4) ∧
      (∃ (r5 : Int32) (M5 : mz_M), (mq_C mq_X1_holds [.ref 5, .ref ([10, 11, 12, 13].getD x1.toNatClampNeg 0), .int (M.1 2 1)] M (some (.int r5), M5)) ∧
      mq_G mq_X9_squares (36, [some (.ref 0), some (.int x1), some (.int 0)], [], M5) res)) ∧
    (¬ (¬ r1 = 0) →
      res = (some (.int (-1)), M))))) :
    mq_G mq_X9_squares (0, [some (.ref 0), some (.int x1), none], [], M) res := by
  refine mz_Go.steps (n := 2) (k2 := (2, [some (.ref 0), some (.int x1), none], [.int x1, .ref 0], M)) (P := []) rfl mz_o0 ?_
  obtain ⟨r1, k1, h⟩ := h
  refine mz_Go.callV (As := [.int x1]) (rest := []) (rfl : mz_find 2 (mz_rows mq_X9_squares) = some (2, .invokevirtual 203, 3, 124, 0, 105)) (rfl : mz_nth mq_tab 124 = some mq_X9_isSlot) rfl rfl rfl rfl (Nat.le_of_ble_eq_true rfl) (Nat.le_of_ble_eq_true rfl) k1 ?_
  show mq_G mq_X9_squares (5, [some (.ref 0), some (.int x1), none], [.int r1], M) res
  refine mz_Go.steps (n := 1) (k2 := (if ¬ r1 = 0 then 10 else 8, [some (.ref 0), some (.int x1), none], [], M)) (P := []) rfl mz_o0 ?_
  refine mz_Go.ite (fun c5 => ?_) (fun c5 => ?_)
  · replace h := h.1 c5
    obtain ⟨q3, q4, h⟩ := h
    refine mz_Go.steps (n := 10) (k2 := (30, [some (.ref 0), some (.int x1), none], [.int (M.1 2 1), .ref ([10, 11, 12, 13].getD x1.toNatClampNeg 0), .ref 5], M)) (P := [vp_in x1 4, ([10, 11, 12, 13] : List Nat).length = 4]) rfl (mz_o2 q3 q4) ?_
    obtain ⟨r5, M5, k5, h⟩ := h
    refine mz_Go.callV (As := [.ref ([10, 11, 12, 13].getD x1.toNatClampNeg 0), .int (M.1 2 1)]) (rest := []) (rfl : mz_find 30 (mz_rows mq_X9_squares) = some (30, .invokevirtual 171, 3, 20, 0, 97)) (rfl : mz_nth mq_tab 20 = some mq_X1_holds) rfl rfl rfl rfl (Nat.le_of_ble_eq_true rfl) (Nat.le_of_ble_eq_true rfl) k5 ?_
    show mq_G mq_X9_squares (33, [some (.ref 0), some (.int x1), none], [.int r5], M5) res
    refine mz_Go.steps (n := 3) (k2 := (36, [some (.ref 0), some (.int x1), some (.int 0)], [], M5)) (P := []) rfl mz_o0 ?_
    exact h
  · replace h := h.2 c5
    refine mz_Go.steps (n := 1) (k2 := (9, [some (.ref 0), some (.int x1), none], [.int (-1)], M)) (P := []) rfl mz_o0 ?_
    rw [h]
    exact mz_Go.iret (rfl : mz_find 9 (mz_rows mq_X9_squares) = some (9, .ireturn, 1, 0, 0, 0)) rfl
set_option maxRecDepth 100000 in
set_option maxHeartbeats 4000000 in
theorem t_X9_squares_36 (x1 : Int32) (x2 : Int32) (M : mz_M) {res : mz_O} (h :
    (((M.1 2 1) ≤ x2 →
      (∃ (r2 : Int32) (M2 : mz_M), (mq_C mq_X9_tellsLocated [.ref 0, .ref 75] M (some (.int r2), M2)) ∧
      res = (some (.int r2), M2))) ∧
    (¬ ((M.1 2 1) ≤ x2) →
      (vp_in x1 4) ∧
      (([10, 11, 12, 13] : List Nat).length = 4) ∧
      (mz_nth mq_sk ([10, 11, 12, 13].getD x1.toNatClampNeg 0) = some (.inl (0, 8, []))) ∧
      (vp_in x2 8) ∧
      (vp_in x1 4) ∧
      (([10, 11, 12, 13] : List Nat).length = 4) ∧
      (mz_nth mq_sk ([10, 11, 12, 13].getD x1.toNatClampNeg 0) = some (.inl (0, 8, []))) ∧
      (vp_in x2 8) ∧
      (∃ (r11 : Int32), (mq_C mq_X0_times [.ref 2, .int (M.1 ([10, 11, 12, 13].getD x1.toNatClampNeg 0) x2.toNatClampNeg), .int (M.1 ([10, 11, 12, 13].getD x1.toNatClampNeg 0) x2.toNatClampNeg)] M (some (.int r11), M)) ∧
      (vp_in x2 8) ∧
      (∀ M12 : mz_M, M12 = mz_wr M 75 (upd (M.1 75) x2.toNatClampNeg r11) →
      mq_G mq_X9_squares (36, [some (.ref 0), some (.int x1), some (.int (x2 + 1))], [], M12) res))))) :
    mq_G mq_X9_squares (36, [some (.ref 0), some (.int x1), some (.int x2)], [], M) res := by
  refine mz_Go.steps (n := 5) (k2 := (if (M.1 2 1) ≤ x2 then 88 else 47, [some (.ref 0), some (.int x1), some (.int x2)], [], M)) (P := []) rfl mz_o0 ?_
  refine mz_Go.ite (fun c44 => ?_) (fun c44 => ?_)
  · replace h := h.1 c44
    refine mz_Go.steps (n := 3) (k2 := (93, [some (.ref 0), some (.int x1), some (.int x2)], [.ref 75, .ref 0], M)) (P := []) rfl mz_o0 ?_
    obtain ⟨r2, M2, k2, h⟩ := h
    refine mz_Go.callV (As := [.ref 75]) (rest := []) (rfl : mz_find 93 (mz_rows mq_X9_squares) = some (93, .invokevirtual 233, 3, 129, 0, 114)) (rfl : mz_nth mq_tab 129 = some mq_X9_tellsLocated) rfl rfl rfl rfl (Nat.le_of_ble_eq_true rfl) (Nat.le_of_ble_eq_true rfl) k2 ?_
    show mq_G mq_X9_squares (96, [some (.ref 0), some (.int x1), some (.int x2)], [.int r2], M2) res
    rw [h]
    exact mz_Go.iret (rfl : mz_find 96 (mz_rows mq_X9_squares) = some (96, .ireturn, 1, 0, 0, 0)) rfl
  · replace h := h.2 c44
    obtain ⟨q3, q4, h⟩ := h
    refine mz_Go.steps (n := 11) (k2 := (66, [some (.ref 0), some (.int x1), some (.int x2)], [.int x2, .ref ([10, 11, 12, 13].getD x1.toNatClampNeg 0), .ref 2, .int x2, .ref 75], M)) (P := [vp_in x1 4, ([10, 11, 12, 13] : List Nat).length = 4]) rfl (mz_o2 q3 q4) ?_
    obtain ⟨q5, q6, h⟩ := h
    refine mz_Go.iald (rfl : mz_find 66 (mz_rows mq_X9_squares) = some (66, .iaload, 1, 0, 0, 0)) q5 q6 ?_
    show mq_G mq_X9_squares (67, [some (.ref 0), some (.int x1), some (.int x2)], [.int (M.1 ([10, 11, 12, 13].getD x1.toNatClampNeg 0) x2.toNatClampNeg), .ref 2, .int x2, .ref 75], M) res
    obtain ⟨q7, q8, h⟩ := h
    refine mz_Go.steps (n := 6) (k2 := (77, [some (.ref 0), some (.int x1), some (.int x2)], [.int x2, .ref ([10, 11, 12, 13].getD x1.toNatClampNeg 0), .int (M.1 ([10, 11, 12, 13].getD x1.toNatClampNeg 0) x2.toNatClampNeg), .ref 2, .int x2, .ref 75], M)) (P := [vp_in x1 4, ([10, 11, 12, 13] : List Nat).length = 4]) rfl (mz_o2 q7 q8) ?_
    obtain ⟨q9, q10, h⟩ := h
    refine mz_Go.iald (rfl : mz_find 77 (mz_rows mq_X9_squares) = some (77, .iaload, 1, 0, 0, 0)) q9 q10 ?_
    show mq_G mq_X9_squares (78, [some (.ref 0), some (.int x1), some (.int x2)], [.int (M.1 ([10, 11, 12, 13].getD x1.toNatClampNeg 0) x2.toNatClampNeg), .int (M.1 ([10, 11, 12, 13].getD x1.toNatClampNeg 0) x2.toNatClampNeg), .ref 2, .int x2, .ref 75], M) res
    obtain ⟨r11, k11, h⟩ := h
    refine mz_Go.callV (As := [.int (M.1 ([10, 11, 12, 13].getD x1.toNatClampNeg 0) x2.toNatClampNeg), .int (M.1 ([10, 11, 12, 13].getD x1.toNatClampNeg 0) x2.toNatClampNeg)]) (rest := [.int x2, .ref 75]) (rfl : mz_find 78 (mz_rows mq_X9_squares) = some (78, .invokevirtual 106, 3, 3, 0, 70)) (rfl : mz_nth mq_tab 3 = some mq_X0_times) rfl rfl rfl rfl (Nat.le_of_ble_eq_true rfl) (Nat.le_of_ble_eq_true rfl) k11 ?_
    show mq_G mq_X9_squares (81, [some (.ref 0), some (.int x1), some (.int x2)], [.int r11, .int x2, .ref 75], M) res
    obtain ⟨q13, h⟩ := h
    obtain ⟨M12, e12⟩ : ∃ y, y = mz_wr M 75 (upd (M.1 75) x2.toNatClampNeg r11) := ⟨_, rfl⟩
    replace h := h M12 e12
    refine mz_Go.steps (n := 1) (k2 := (82, [some (.ref 0), some (.int x1), some (.int x2)], [], (mz_wr M 75 (upd (M.1 75) x2.toNatClampNeg r11)))) (P := [vp_in x2 8]) rfl (mz_o1 q13) ?_
    rw [← e12]
    refine mz_Go.steps (n := 2) (k2 := (36, [some (.ref 0), some (.int x1), some (.int (x2 + 1))], [], M12)) (P := []) rfl mz_o0 ?_
    exact h
set_option maxRecDepth 100000 in
set_option maxHeartbeats 4000000 in
theorem t_X9_productIn_0 (x1 : Int32) (x2 : Int32) (x3 : Int32) (M : mz_M) {res : mz_O} (h :
    (∃ (r1 : Int32), (mq_C mq_X9_isSlot [.ref 0, .int x1] M (some (.int r1), M)) ∧
    ((r1 = 0 →
      res = (some (.int (-1)), M)) ∧
    (¬ (r1 = 0) →
      (∃ (r3 : Int32), (mq_C mq_X9_isElement [.ref 0, .int x2] M (some (.int r3), M)) ∧
      ((r3 = 0 →
        res = (some (.int (-1)), M)) ∧
      (¬ (r3 = 0) →
        (∃ (r5 : Int32), (mq_C mq_X9_isElement [.ref 0, .int x3] M (some (.int r5), M)) ∧
        ((¬ r5 = 0 →
          (vp_in x1 4) ∧
          (([10, 11, 12, 13] : List Nat).length = 4) ∧
          (∃ (r9 : Int32) (M9 : mz_M), (mq_C mq_X1_holds [.ref 5, .ref ([10, 11, 12, 13].getD x1.toNatClampNeg 0), .int (M.1 2 1)] M (some (.int r9), M9)) ∧
          (∃ (r10 : Int32), (mq_C mq_X2_sumAt [.ref 1, .ref ([10, 11, 12, 13].getD x1.toNatClampNeg 0), .int x2] M9 (some (.int r10), M9)) ∧
          (∃ (r11 : Int32), (mq_C mq_X2_sumAt [.ref 1, .ref ([10, 11, 12, 13].getD x1.toNatClampNeg 0), .int x3] M9 (some (.int r11), M9)) ∧
          (∃ (r12 : Int32), (mq_C mq_X0_times [.ref 2, .int r10, .int r11] M9 (some (.int r12), M9)) ∧
          (∃ (r13 : Int32), (mq_C mq_X1_located [.ref 5, .int r12] M9 (some (.int r13), M9)) ∧
          res = (some (.int r13), M9))))))) ∧
        (¬ (¬ r5 = 0) →
          res = (some (.int (-1)), M))))))))))) :
    mq_G mq_X9_productIn (0, [some (.ref 0), some (.int x1), some (.int x2), some (.int x3), none], [], M) res := by
  refine mz_Go.steps (n := 2) (k2 := (2, [some (.ref 0), some (.int x1), some (.int x2), some (.int x3), none], [.int x1, .ref 0], M)) (P := []) rfl mz_o0 ?_
  obtain ⟨r1, k1, h⟩ := h
  refine mz_Go.callV (As := [.int x1]) (rest := []) (rfl : mz_find 2 (mz_rows mq_X9_productIn) = some (2, .invokevirtual 203, 3, 124, 0, 105)) (rfl : mz_nth mq_tab 124 = some mq_X9_isSlot) rfl rfl rfl rfl (Nat.le_of_ble_eq_true rfl) (Nat.le_of_ble_eq_true rfl) k1 ?_
  show mq_G mq_X9_productIn (5, [some (.ref 0), some (.int x1), some (.int x2), some (.int x3), none], [.int r1], M) res
  refine mz_Go.steps (n := 1) (k2 := (if r1 = 0 then 24 else 8, [some (.ref 0), some (.int x1), some (.int x2), some (.int x3), none], [], M)) (P := []) rfl mz_o0 ?_
  refine mz_Go.ite (fun c5 => ?_) (fun c5 => ?_)
  · replace h := h.1 c5
    refine mz_Go.steps (n := 1) (k2 := (25, [some (.ref 0), some (.int x1), some (.int x2), some (.int x3), none], [.int (-1)], M)) (P := []) rfl mz_o0 ?_
    rw [h]
    exact mz_Go.iret (rfl : mz_find 25 (mz_rows mq_X9_productIn) = some (25, .ireturn, 1, 0, 0, 0)) rfl
  · replace h := h.2 c5
    refine mz_Go.steps (n := 2) (k2 := (10, [some (.ref 0), some (.int x1), some (.int x2), some (.int x3), none], [.int x2, .ref 0], M)) (P := []) rfl mz_o0 ?_
    obtain ⟨r3, k3, h⟩ := h
    refine mz_Go.callV (As := [.int x2]) (rest := []) (rfl : mz_find 10 (mz_rows mq_X9_productIn) = some (10, .invokevirtual 103, 3, 123, 0, 68)) (rfl : mz_nth mq_tab 123 = some mq_X9_isElement) rfl rfl rfl rfl (Nat.le_of_ble_eq_true rfl) (Nat.le_of_ble_eq_true rfl) k3 ?_
    show mq_G mq_X9_productIn (13, [some (.ref 0), some (.int x1), some (.int x2), some (.int x3), none], [.int r3], M) res
    refine mz_Go.steps (n := 1) (k2 := (if r3 = 0 then 24 else 16, [some (.ref 0), some (.int x1), some (.int x2), some (.int x3), none], [], M)) (P := []) rfl mz_o0 ?_
    refine mz_Go.ite (fun c13 => ?_) (fun c13 => ?_)
    · replace h := h.1 c13
      refine mz_Go.steps (n := 1) (k2 := (25, [some (.ref 0), some (.int x1), some (.int x2), some (.int x3), none], [.int (-1)], M)) (P := []) rfl mz_o0 ?_
      rw [h]
      exact mz_Go.iret (rfl : mz_find 25 (mz_rows mq_X9_productIn) = some (25, .ireturn, 1, 0, 0, 0)) rfl
    · replace h := h.2 c13
      refine mz_Go.steps (n := 2) (k2 := (18, [some (.ref 0), some (.int x1), some (.int x2), some (.int x3), none], [.int x3, .ref 0], M)) (P := []) rfl mz_o0 ?_
      obtain ⟨r5, k5, h⟩ := h
      refine mz_Go.callV (As := [.int x3]) (rest := []) (rfl : mz_find 18 (mz_rows mq_X9_productIn) = some (18, .invokevirtual 103, 3, 123, 0, 68)) (rfl : mz_nth mq_tab 123 = some mq_X9_isElement) rfl rfl rfl rfl (Nat.le_of_ble_eq_true rfl) (Nat.le_of_ble_eq_true rfl) k5 ?_
      show mq_G mq_X9_productIn (21, [some (.ref 0), some (.int x1), some (.int x2), some (.int x3), none], [.int r5], M) res
      refine mz_Go.steps (n := 1) (k2 := (if ¬ r5 = 0 then 26 else 24, [some (.ref 0), some (.int x1), some (.int x2), some (.int x3), none], [], M)) (P := []) rfl mz_o0 ?_
      refine mz_Go.ite (fun c21 => ?_) (fun c21 => ?_)
      · replace h := h.1 c21
        obtain ⟨q7, q8, h⟩ := h
        refine mz_Go.steps (n := 12) (k2 := (50, [some (.ref 0), some (.int x1), some (.int x2), some (.int x3), some (.ref ([10, 11, 12, 13].getD x1.toNatClampNeg 0))], [.int (M.1 2 1), .ref ([10, 11, 12, 13].getD x1.toNatClampNeg 0), .ref 5], M)) (P := [vp_in x1 4, ([10, 11, 12, 13] : List Nat).length = 4]) rfl (mz_o2 q7 q8) ?_
        obtain ⟨r9, M9, k9, h⟩ := h
        refine mz_Go.callV (As := [.ref ([10, 11, 12, 13].getD x1.toNatClampNeg 0), .int (M.1 2 1)]) (rest := []) (rfl : mz_find 50 (mz_rows mq_X9_productIn) = some (50, .invokevirtual 171, 3, 20, 0, 97)) (rfl : mz_nth mq_tab 20 = some mq_X1_holds) rfl rfl rfl rfl (Nat.le_of_ble_eq_true rfl) (Nat.le_of_ble_eq_true rfl) k9 ?_
        show mq_G mq_X9_productIn (53, [some (.ref 0), some (.int x1), some (.int x2), some (.int x3), some (.ref ([10, 11, 12, 13].getD x1.toNatClampNeg 0))], [.int r9], M9) res
        refine mz_Go.steps (n := 9) (k2 := (69, [some (.ref 0), some (.int x1), some (.int x2), some (.int x3), some (.ref ([10, 11, 12, 13].getD x1.toNatClampNeg 0))], [.int x2, .ref ([10, 11, 12, 13].getD x1.toNatClampNeg 0), .ref 1, .ref 2, .ref 5], M9)) (P := []) rfl mz_o0 ?_
        obtain ⟨r10, k10, h⟩ := h
        refine mz_Go.callV (As := [.ref ([10, 11, 12, 13].getD x1.toNatClampNeg 0), .int x2]) (rest := [.ref 2, .ref 5]) (rfl : mz_find 69 (mz_rows mq_X9_productIn) = some (69, .invokevirtual 229, 3, 26, 0, 113)) (rfl : mz_nth mq_tab 26 = some mq_X2_sumAt) rfl rfl rfl rfl (Nat.le_of_ble_eq_true rfl) (Nat.le_of_ble_eq_true rfl) k10 ?_
        show mq_G mq_X9_productIn (72, [some (.ref 0), some (.int x1), some (.int x2), some (.int x3), some (.ref ([10, 11, 12, 13].getD x1.toNatClampNeg 0))], [.int r10, .ref 2, .ref 5], M9) res
        refine mz_Go.steps (n := 4) (k2 := (79, [some (.ref 0), some (.int x1), some (.int x2), some (.int x3), some (.ref ([10, 11, 12, 13].getD x1.toNatClampNeg 0))], [.int x3, .ref ([10, 11, 12, 13].getD x1.toNatClampNeg 0), .ref 1, .int r10, .ref 2, .ref 5], M9)) (P := []) rfl mz_o0 ?_
        obtain ⟨r11, k11, h⟩ := h
        refine mz_Go.callV (As := [.ref ([10, 11, 12, 13].getD x1.toNatClampNeg 0), .int x3]) (rest := [.int r10, .ref 2, .ref 5]) (rfl : mz_find 79 (mz_rows mq_X9_productIn) = some (79, .invokevirtual 229, 3, 26, 0, 113)) (rfl : mz_nth mq_tab 26 = some mq_X2_sumAt) rfl rfl rfl rfl (Nat.le_of_ble_eq_true rfl) (Nat.le_of_ble_eq_true rfl) k11 ?_
        show mq_G mq_X9_productIn (82, [some (.ref 0), some (.int x1), some (.int x2), some (.int x3), some (.ref ([10, 11, 12, 13].getD x1.toNatClampNeg 0))], [.int r11, .int r10, .ref 2, .ref 5], M9) res
        obtain ⟨r12, k12, h⟩ := h
        refine mz_Go.callV (As := [.int r10, .int r11]) (rest := [.ref 5]) (rfl : mz_find 82 (mz_rows mq_X9_productIn) = some (82, .invokevirtual 106, 3, 3, 0, 70)) (rfl : mz_nth mq_tab 3 = some mq_X0_times) rfl rfl rfl rfl (Nat.le_of_ble_eq_true rfl) (Nat.le_of_ble_eq_true rfl) k12 ?_
        show mq_G mq_X9_productIn (85, [some (.ref 0), some (.int x1), some (.int x2), some (.int x3), some (.ref ([10, 11, 12, 13].getD x1.toNatClampNeg 0))], [.int r12, .ref 5], M9) res
        obtain ⟨r13, k13, h⟩ := h
        refine mz_Go.callV (As := [.int r12]) (rest := []) (rfl : mz_find 85 (mz_rows mq_X9_productIn) = some (85, .invokevirtual 226, 3, 21, 0, 112)) (rfl : mz_nth mq_tab 21 = some mq_X1_located) rfl rfl rfl rfl (Nat.le_of_ble_eq_true rfl) (Nat.le_of_ble_eq_true rfl) k13 ?_
        show mq_G mq_X9_productIn (88, [some (.ref 0), some (.int x1), some (.int x2), some (.int x3), some (.ref ([10, 11, 12, 13].getD x1.toNatClampNeg 0))], [.int r13], M9) res
        rw [h]
        exact mz_Go.iret (rfl : mz_find 88 (mz_rows mq_X9_productIn) = some (88, .ireturn, 1, 0, 0, 0)) rfl
      · replace h := h.2 c21
        refine mz_Go.steps (n := 1) (k2 := (25, [some (.ref 0), some (.int x1), some (.int x2), some (.int x3), none], [.int (-1)], M)) (P := []) rfl mz_o0 ?_
        rw [h]
        exact mz_Go.iret (rfl : mz_find 25 (mz_rows mq_X9_productIn) = some (25, .ireturn, 1, 0, 0, 0)) rfl
set_option maxRecDepth 100000 in
set_option maxHeartbeats 4000000 in
theorem t_X9_far_0 (x1 : Int32) (x2 : Int32) (x3 : Int32) (M : mz_M) {res : mz_O} (h :
    (∃ (r1 : Int32), (mq_C mq_X9_isSlot [.ref 0, .int x1] M (some (.int r1), M)) ∧
    ((r1 = 0 →
      res = (some (.int (-1)), M)) ∧
    (¬ (r1 = 0) →
      (∃ (r3 : Int32), (mq_C mq_X9_isElement [.ref 0, .int x2] M (some (.int r3), M)) ∧
      ((r3 = 0 →
        res = (some (.int (-1)), M)) ∧
      (¬ (r3 = 0) →
        (∃ (r5 : Int32), (mq_C mq_X9_isElement [.ref 0, .int x3] M (some (.int r5), M)) ∧
        ((¬ r5 = 0 →
          (vp_in x1 4) ∧
          (([10, 11, 12, 13] : List Nat).length = 4) ∧
          (∃ (r9 : Int32) (M9 : mz_M), (mq_C mq_X1_holds [.ref 5, .ref ([10, 11, 12, 13].getD x1.toNatClampNeg 0), .int (M.1 2 1)] M (some (.int r9), M9)) ∧
          (∃ (r10 : Int32), (mq_C mq_X1_located [.ref 5, .int x2] M9 (some (.int r10), M9)) ∧
          (∃ (r11 : Int32), (mq_C mq_X1_located [.ref 5, .int x3] M9 (some (.int r11), M9)) ∧
          (∃ (M12 : mz_M), (mq_C mq_X6_empties [.ref 73] M9 (none, M12)) ∧
          (∃ (M13 : mz_M), (mq_C mq_X6_puts [.ref 73, .long ((r10 ^^^ r11).toInt64)] M12 (none, M13)) ∧
          (∃ (M14 : mz_M), (mq_C mq_X6_puts [.ref 73, .long ((r10 &&& r11).toInt64)] M13 (none, M14)) ∧
          (∃ (r15 : Int32), (mq_C mq_J6_bitCount_0f7a4 [.int (r10 ^^^ r11)] M14 (some (.int r15), M14)) ∧
          res = (some (.int r15), M14))))))))) ∧
        (¬ (¬ r5 = 0) →
          res = (some (.int (-1)), M))))))))))) :
    mq_G mq_X9_far (0, [some (.ref 0), some (.int x1), some (.int x2), some (.int x3), none, none], [], M) res := by
  refine mz_Go.steps (n := 2) (k2 := (2, [some (.ref 0), some (.int x1), some (.int x2), some (.int x3), none, none], [.int x1, .ref 0], M)) (P := []) rfl mz_o0 ?_
  obtain ⟨r1, k1, h⟩ := h
  refine mz_Go.callV (As := [.int x1]) (rest := []) (rfl : mz_find 2 (mz_rows mq_X9_far) = some (2, .invokevirtual 203, 3, 124, 0, 105)) (rfl : mz_nth mq_tab 124 = some mq_X9_isSlot) rfl rfl rfl rfl (Nat.le_of_ble_eq_true rfl) (Nat.le_of_ble_eq_true rfl) k1 ?_
  show mq_G mq_X9_far (5, [some (.ref 0), some (.int x1), some (.int x2), some (.int x3), none, none], [.int r1], M) res
  refine mz_Go.steps (n := 1) (k2 := (if r1 = 0 then 24 else 8, [some (.ref 0), some (.int x1), some (.int x2), some (.int x3), none, none], [], M)) (P := []) rfl mz_o0 ?_
  refine mz_Go.ite (fun c5 => ?_) (fun c5 => ?_)
  · replace h := h.1 c5
    refine mz_Go.steps (n := 1) (k2 := (25, [some (.ref 0), some (.int x1), some (.int x2), some (.int x3), none, none], [.int (-1)], M)) (P := []) rfl mz_o0 ?_
    rw [h]
    exact mz_Go.iret (rfl : mz_find 25 (mz_rows mq_X9_far) = some (25, .ireturn, 1, 0, 0, 0)) rfl
  · replace h := h.2 c5
    refine mz_Go.steps (n := 2) (k2 := (10, [some (.ref 0), some (.int x1), some (.int x2), some (.int x3), none, none], [.int x2, .ref 0], M)) (P := []) rfl mz_o0 ?_
    obtain ⟨r3, k3, h⟩ := h
    refine mz_Go.callV (As := [.int x2]) (rest := []) (rfl : mz_find 10 (mz_rows mq_X9_far) = some (10, .invokevirtual 103, 3, 123, 0, 68)) (rfl : mz_nth mq_tab 123 = some mq_X9_isElement) rfl rfl rfl rfl (Nat.le_of_ble_eq_true rfl) (Nat.le_of_ble_eq_true rfl) k3 ?_
    show mq_G mq_X9_far (13, [some (.ref 0), some (.int x1), some (.int x2), some (.int x3), none, none], [.int r3], M) res
    refine mz_Go.steps (n := 1) (k2 := (if r3 = 0 then 24 else 16, [some (.ref 0), some (.int x1), some (.int x2), some (.int x3), none, none], [], M)) (P := []) rfl mz_o0 ?_
    refine mz_Go.ite (fun c13 => ?_) (fun c13 => ?_)
    · replace h := h.1 c13
      refine mz_Go.steps (n := 1) (k2 := (25, [some (.ref 0), some (.int x1), some (.int x2), some (.int x3), none, none], [.int (-1)], M)) (P := []) rfl mz_o0 ?_
      rw [h]
      exact mz_Go.iret (rfl : mz_find 25 (mz_rows mq_X9_far) = some (25, .ireturn, 1, 0, 0, 0)) rfl
    · replace h := h.2 c13
      refine mz_Go.steps (n := 2) (k2 := (18, [some (.ref 0), some (.int x1), some (.int x2), some (.int x3), none, none], [.int x3, .ref 0], M)) (P := []) rfl mz_o0 ?_
      obtain ⟨r5, k5, h⟩ := h
      refine mz_Go.callV (As := [.int x3]) (rest := []) (rfl : mz_find 18 (mz_rows mq_X9_far) = some (18, .invokevirtual 103, 3, 123, 0, 68)) (rfl : mz_nth mq_tab 123 = some mq_X9_isElement) rfl rfl rfl rfl (Nat.le_of_ble_eq_true rfl) (Nat.le_of_ble_eq_true rfl) k5 ?_
      show mq_G mq_X9_far (21, [some (.ref 0), some (.int x1), some (.int x2), some (.int x3), none, none], [.int r5], M) res
      refine mz_Go.steps (n := 1) (k2 := (if ¬ r5 = 0 then 26 else 24, [some (.ref 0), some (.int x1), some (.int x2), some (.int x3), none, none], [], M)) (P := []) rfl mz_o0 ?_
      refine mz_Go.ite (fun c21 => ?_) (fun c21 => ?_)
      · replace h := h.1 c21
        obtain ⟨q7, q8, h⟩ := h
        refine mz_Go.steps (n := 10) (k2 := (46, [some (.ref 0), some (.int x1), some (.int x2), some (.int x3), none, none], [.int (M.1 2 1), .ref ([10, 11, 12, 13].getD x1.toNatClampNeg 0), .ref 5], M)) (P := [vp_in x1 4, ([10, 11, 12, 13] : List Nat).length = 4]) rfl (mz_o2 q7 q8) ?_
        obtain ⟨r9, M9, k9, h⟩ := h
        refine mz_Go.callV (As := [.ref ([10, 11, 12, 13].getD x1.toNatClampNeg 0), .int (M.1 2 1)]) (rest := []) (rfl : mz_find 46 (mz_rows mq_X9_far) = some (46, .invokevirtual 171, 3, 20, 0, 97)) (rfl : mz_nth mq_tab 20 = some mq_X1_holds) rfl rfl rfl rfl (Nat.le_of_ble_eq_true rfl) (Nat.le_of_ble_eq_true rfl) k9 ?_
        show mq_G mq_X9_far (49, [some (.ref 0), some (.int x1), some (.int x2), some (.int x3), none, none], [.int r9], M9) res
        refine mz_Go.steps (n := 4) (k2 := (55, [some (.ref 0), some (.int x1), some (.int x2), some (.int x3), none, none], [.int x2, .ref 5], M9)) (P := []) rfl mz_o0 ?_
        obtain ⟨r10, k10, h⟩ := h
        refine mz_Go.callV (As := [.int x2]) (rest := []) (rfl : mz_find 55 (mz_rows mq_X9_far) = some (55, .invokevirtual 226, 3, 21, 0, 112)) (rfl : mz_nth mq_tab 21 = some mq_X1_located) rfl rfl rfl rfl (Nat.le_of_ble_eq_true rfl) (Nat.le_of_ble_eq_true rfl) k10 ?_
        show mq_G mq_X9_far (58, [some (.ref 0), some (.int x1), some (.int x2), some (.int x3), none, none], [.int r10], M9) res
        refine mz_Go.steps (n := 4) (k2 := (65, [some (.ref 0), some (.int x1), some (.int x2), some (.int x3), some (.int r10), none], [.int x3, .ref 5], M9)) (P := []) rfl mz_o0 ?_
        obtain ⟨r11, k11, h⟩ := h
        refine mz_Go.callV (As := [.int x3]) (rest := []) (rfl : mz_find 65 (mz_rows mq_X9_far) = some (65, .invokevirtual 226, 3, 21, 0, 112)) (rfl : mz_nth mq_tab 21 = some mq_X1_located) rfl rfl rfl rfl (Nat.le_of_ble_eq_true rfl) (Nat.le_of_ble_eq_true rfl) k11 ?_
        show mq_G mq_X9_far (68, [some (.ref 0), some (.int x1), some (.int x2), some (.int x3), some (.int r10), none], [.int r11], M9) res
        refine mz_Go.steps (n := 3) (k2 := (74, [some (.ref 0), some (.int x1), some (.int x2), some (.int x3), some (.int r10), some (.int r11)], [.ref 73], M9)) (P := []) rfl mz_o0 ?_
        obtain ⟨M12, k12, h⟩ := h
        refine mz_Go.callV (As := []) (rest := []) (rfl : mz_find 74 (mz_rows mq_X9_far) = some (74, .invokevirtual 120, 3, 44, 0, 76)) (rfl : mz_nth mq_tab 44 = some mq_X6_empties) rfl rfl rfl rfl (Nat.le_of_ble_eq_true rfl) (Nat.le_of_ble_eq_true rfl) k12 ?_
        show mq_G mq_X9_far (77, [some (.ref 0), some (.int x1), some (.int x2), some (.int x3), some (.int r10), some (.int r11)], [], M12) res
        refine mz_Go.steps (n := 6) (k2 := (87, [some (.ref 0), some (.int x1), some (.int x2), some (.int x3), some (.int r10), some (.int r11)], [.long ((r10 ^^^ r11).toInt64), .ref 73], M12)) (P := []) rfl mz_o0 ?_
        obtain ⟨M13, k13, h⟩ := h
        refine mz_Go.callV (As := [.long ((r10 ^^^ r11).toInt64)]) (rest := []) (rfl : mz_find 87 (mz_rows mq_X9_far) = some (87, .invokevirtual 124, 3, 45, 0, 78)) (rfl : mz_nth mq_tab 45 = some mq_X6_puts) rfl rfl rfl rfl (Nat.le_of_ble_eq_true rfl) (Nat.le_of_ble_eq_true rfl) k13 ?_
        show mq_G mq_X9_far (90, [some (.ref 0), some (.int x1), some (.int x2), some (.int x3), some (.int r10), some (.int r11)], [], M13) res
        refine mz_Go.steps (n := 6) (k2 := (100, [some (.ref 0), some (.int x1), some (.int x2), some (.int x3), some (.int r10), some (.int r11)], [.long ((r10 &&& r11).toInt64), .ref 73], M13)) (P := []) rfl mz_o0 ?_
        obtain ⟨M14, k14, h⟩ := h
        refine mz_Go.callV (As := [.long ((r10 &&& r11).toInt64)]) (rest := []) (rfl : mz_find 100 (mz_rows mq_X9_far) = some (100, .invokevirtual 124, 3, 45, 0, 78)) (rfl : mz_nth mq_tab 45 = some mq_X6_puts) rfl rfl rfl rfl (Nat.le_of_ble_eq_true rfl) (Nat.le_of_ble_eq_true rfl) k14 ?_
        show mq_G mq_X9_far (103, [some (.ref 0), some (.int x1), some (.int x2), some (.int x3), some (.int r10), some (.int r11)], [], M14) res
        refine mz_Go.steps (n := 3) (k2 := (108, [some (.ref 0), some (.int x1), some (.int x2), some (.int x3), some (.int r10), some (.int r11)], [.int (r10 ^^^ r11)], M14)) (P := []) rfl mz_o0 ?_
        obtain ⟨r15, k15, h⟩ := h
        refine mz_Go.callS (As := [.int (r10 ^^^ r11)]) (rest := []) (rfl : mz_find 108 (mz_rows mq_X9_far) = some (108, .invokestatic 210, 3, 252, 0, 107)) (rfl : mz_nth mq_tab 252 = some mq_J6_bitCount_0f7a4) (by decide) rfl rfl rfl (Nat.le_of_ble_eq_true rfl) (Nat.le_of_ble_eq_true rfl) k15 ?_
        show mq_G mq_X9_far (111, [some (.ref 0), some (.int x1), some (.int x2), some (.int x3), some (.int r10), some (.int r11)], [.int r15], M14) res
        rw [h]
        exact mz_Go.iret (rfl : mz_find 111 (mz_rows mq_X9_far) = some (111, .ireturn, 1, 0, 0, 0)) rfl
      · replace h := h.2 c21
        refine mz_Go.steps (n := 1) (k2 := (25, [some (.ref 0), some (.int x1), some (.int x2), some (.int x3), none, none], [.int (-1)], M)) (P := []) rfl mz_o0 ?_
        rw [h]
        exact mz_Go.iret (rfl : mz_find 25 (mz_rows mq_X9_far) = some (25, .ireturn, 1, 0, 0, 0)) rfl
set_option maxRecDepth 100000 in
set_option maxHeartbeats 4000000 in
theorem t_X9_steady_0 (x1 : Int32) (M : mz_M) {res : mz_O} (h :
    (∃ (r1 : Int32), (mq_C mq_X9_isSlot [.ref 0, .int x1] M (some (.int r1), M)) ∧
    ((¬ r1 = 0 →
      (vp_in x1 4) ∧
      (([10, 11, 12, 13] : List Nat).length = 4) ∧
      (∃ (r5 : Int32) (M5 : mz_M), (mq_C mq_X1_holds [.ref 5, .ref ([10, 11, 12, 13].getD x1.toNatClampNeg 0), .int (M.1 2 1)] M (some (.int r5), M5)) ∧
      mq_G mq_X9_steady (41, [some (.ref 0), some (.int x1), some (.int 0), some (.int (-1)), some (.int 0), none], [], M5) res)) ∧
    (¬ (¬ r1 = 0) →
      res = (some (.int (-1)), M))))) :
    mq_G mq_X9_steady (0, [some (.ref 0), some (.int x1), none, none, none, none], [], M) res := by
  refine mz_Go.steps (n := 2) (k2 := (2, [some (.ref 0), some (.int x1), none, none, none, none], [.int x1, .ref 0], M)) (P := []) rfl mz_o0 ?_
  obtain ⟨r1, k1, h⟩ := h
  refine mz_Go.callV (As := [.int x1]) (rest := []) (rfl : mz_find 2 (mz_rows mq_X9_steady) = some (2, .invokevirtual 203, 3, 124, 0, 105)) (rfl : mz_nth mq_tab 124 = some mq_X9_isSlot) rfl rfl rfl rfl (Nat.le_of_ble_eq_true rfl) (Nat.le_of_ble_eq_true rfl) k1 ?_
  show mq_G mq_X9_steady (5, [some (.ref 0), some (.int x1), none, none, none, none], [.int r1], M) res
  refine mz_Go.steps (n := 1) (k2 := (if ¬ r1 = 0 then 10 else 8, [some (.ref 0), some (.int x1), none, none, none, none], [], M)) (P := []) rfl mz_o0 ?_
  refine mz_Go.ite (fun c5 => ?_) (fun c5 => ?_)
  · replace h := h.1 c5
    obtain ⟨q3, q4, h⟩ := h
    refine mz_Go.steps (n := 10) (k2 := (30, [some (.ref 0), some (.int x1), none, none, none, none], [.int (M.1 2 1), .ref ([10, 11, 12, 13].getD x1.toNatClampNeg 0), .ref 5], M)) (P := [vp_in x1 4, ([10, 11, 12, 13] : List Nat).length = 4]) rfl (mz_o2 q3 q4) ?_
    obtain ⟨r5, M5, k5, h⟩ := h
    refine mz_Go.callV (As := [.ref ([10, 11, 12, 13].getD x1.toNatClampNeg 0), .int (M.1 2 1)]) (rest := []) (rfl : mz_find 30 (mz_rows mq_X9_steady) = some (30, .invokevirtual 171, 3, 20, 0, 97)) (rfl : mz_nth mq_tab 20 = some mq_X1_holds) rfl rfl rfl rfl (Nat.le_of_ble_eq_true rfl) (Nat.le_of_ble_eq_true rfl) k5 ?_
    show mq_G mq_X9_steady (33, [some (.ref 0), some (.int x1), none, none, none, none], [.int r5], M5) res
    refine mz_Go.steps (n := 7) (k2 := (41, [some (.ref 0), some (.int x1), some (.int 0), some (.int (-1)), some (.int 0), none], [], M5)) (P := []) rfl mz_o0 ?_
    exact h
  · replace h := h.2 c5
    refine mz_Go.steps (n := 1) (k2 := (9, [some (.ref 0), some (.int x1), none, none, none, none], [.int (-1)], M)) (P := []) rfl mz_o0 ?_
    rw [h]
    exact mz_Go.iret (rfl : mz_find 9 (mz_rows mq_X9_steady) = some (9, .ireturn, 1, 0, 0, 0)) rfl
set_option maxRecDepth 100000 in
set_option maxHeartbeats 4000000 in
theorem t_X9_steady_41 (o1 : Option Value) (x2 : Int32) (x3 : Int32) (x4 : Int32) (o5 : Option Value) (M : mz_M) {res : mz_O} (h :
    (((M.1 2 2) ≤ x4 →
      (∃ (M2 : mz_M), (mq_C mq_X6_empties [.ref 73] M (none, M2)) ∧
      (∃ (M3 : mz_M), (mq_C mq_X6_puts [.ref 73, .long (x3.toInt64)] M2 (none, M3)) ∧
      res = (some (.int x2), M3)))) ∧
    (¬ ((M.1 2 2) ≤ x4) →
      (∃ (r4 : Int32), (mq_C mq_X1_located [.ref 5, .int x4] M (some (.int r4), M)) ∧
      (∃ (r5 : Int32), (mq_C mq_J6_bitCount_0f7a4 [.int r4] M (some (.int r5), M)) ∧
      (∃ (r6 : Int32), (mq_C mq_X0_times [.ref 2, .int x4, .int x4] M (some (.int r6), M)) ∧
      (∃ (r7 : Int32), (mq_C mq_X1_located [.ref 5, .int r6] M (some (.int r7), M)) ∧
      (∃ (r8 : Int32), (mq_C mq_J6_bitCount_0f7a4 [.int r7] M (some (.int r8), M)) ∧
      ((¬ r5 = r8 →
        ((¬ x3 = (-1) →
          mq_G mq_X9_steady (41, [some (.ref 0), o1, some (.int x2), some (.int x3), some (.int (x4 + 1)), some (.int r5)], [], M) res) ∧
        (¬ (¬ x3 = (-1)) →
          mq_G mq_X9_steady (41, [some (.ref 0), o1, some (.int x2), some (.int x4), some (.int (x4 + 1)), some (.int r5)], [], M) res))) ∧
      (¬ (¬ r5 = r8) →
        mq_G mq_X9_steady (41, [some (.ref 0), (mz_nw o1), some (.int (x2 + 1)), some (.int x3), some (.int (x4 + 1)), some (.int r5)], [], M) res)))))))))) :
    mq_G mq_X9_steady (41, [some (.ref 0), o1, some (.int x2), some (.int x3), some (.int x4), o5], [], M) res := by
  refine mz_Go.steps (n := 5) (k2 := (if (M.1 2 2) ≤ x4 then 113 else 53, [some (.ref 0), o1, some (.int x2), some (.int x3), some (.int x4), o5], [], M)) (P := []) rfl mz_o0 ?_
  refine mz_Go.ite (fun c50 => ?_) (fun c50 => ?_)
  · replace h := h.1 c50
    refine mz_Go.steps (n := 2) (k2 := (117, [some (.ref 0), o1, some (.int x2), some (.int x3), some (.int x4), o5], [.ref 73], M)) (P := []) rfl mz_o0 ?_
    obtain ⟨M2, k2, h⟩ := h
    refine mz_Go.callV (As := []) (rest := []) (rfl : mz_find 117 (mz_rows mq_X9_steady) = some (117, .invokevirtual 120, 3, 44, 0, 76)) (rfl : mz_nth mq_tab 44 = some mq_X6_empties) rfl rfl rfl rfl (Nat.le_of_ble_eq_true rfl) (Nat.le_of_ble_eq_true rfl) k2 ?_
    show mq_G mq_X9_steady (120, [some (.ref 0), o1, some (.int x2), some (.int x3), some (.int x4), o5], [], M2) res
    refine mz_Go.steps (n := 4) (k2 := (126, [some (.ref 0), o1, some (.int x2), some (.int x3), some (.int x4), o5], [.long (x3.toInt64), .ref 73], M2)) (P := []) rfl mz_o0 ?_
    obtain ⟨M3, k3, h⟩ := h
    refine mz_Go.callV (As := [.long (x3.toInt64)]) (rest := []) (rfl : mz_find 126 (mz_rows mq_X9_steady) = some (126, .invokevirtual 124, 3, 45, 0, 78)) (rfl : mz_nth mq_tab 45 = some mq_X6_puts) rfl rfl rfl rfl (Nat.le_of_ble_eq_true rfl) (Nat.le_of_ble_eq_true rfl) k3 ?_
    show mq_G mq_X9_steady (129, [some (.ref 0), o1, some (.int x2), some (.int x3), some (.int x4), o5], [], M3) res
    refine mz_Go.steps (n := 1) (k2 := (130, [some (.ref 0), o1, some (.int x2), some (.int x3), some (.int x4), o5], [.int x2], M3)) (P := []) rfl mz_o0 ?_
    rw [h]
    exact mz_Go.iret (rfl : mz_find 130 (mz_rows mq_X9_steady) = some (130, .ireturn, 1, 0, 0, 0)) rfl
  · replace h := h.2 c50
    refine mz_Go.steps (n := 3) (k2 := (59, [some (.ref 0), o1, some (.int x2), some (.int x3), some (.int x4), o5], [.int x4, .ref 5], M)) (P := []) rfl mz_o0 ?_
    obtain ⟨r4, k4, h⟩ := h
    refine mz_Go.callV (As := [.int x4]) (rest := []) (rfl : mz_find 59 (mz_rows mq_X9_steady) = some (59, .invokevirtual 226, 3, 21, 0, 112)) (rfl : mz_nth mq_tab 21 = some mq_X1_located) rfl rfl rfl rfl (Nat.le_of_ble_eq_true rfl) (Nat.le_of_ble_eq_true rfl) k4 ?_
    show mq_G mq_X9_steady (62, [some (.ref 0), o1, some (.int x2), some (.int x3), some (.int x4), o5], [.int r4], M) res
    obtain ⟨r5, k5, h⟩ := h
    refine mz_Go.callS (As := [.int r4]) (rest := []) (rfl : mz_find 62 (mz_rows mq_X9_steady) = some (62, .invokestatic 210, 3, 252, 0, 107)) (rfl : mz_nth mq_tab 252 = some mq_J6_bitCount_0f7a4) (by decide) rfl rfl rfl (Nat.le_of_ble_eq_true rfl) (Nat.le_of_ble_eq_true rfl) k5 ?_
    show mq_G mq_X9_steady (65, [some (.ref 0), o1, some (.int x2), some (.int x3), some (.int x4), o5], [.int r5], M) res
    refine mz_Go.steps (n := 8) (k2 := (81, [some (.ref 0), o1, some (.int x2), some (.int x3), some (.int x4), some (.int r5)], [.int x4, .int x4, .ref 2, .ref 5, .int r5], M)) (P := []) rfl mz_o0 ?_
    obtain ⟨r6, k6, h⟩ := h
    refine mz_Go.callV (As := [.int x4, .int x4]) (rest := [.ref 5, .int r5]) (rfl : mz_find 81 (mz_rows mq_X9_steady) = some (81, .invokevirtual 106, 3, 3, 0, 70)) (rfl : mz_nth mq_tab 3 = some mq_X0_times) rfl rfl rfl rfl (Nat.le_of_ble_eq_true rfl) (Nat.le_of_ble_eq_true rfl) k6 ?_
    show mq_G mq_X9_steady (84, [some (.ref 0), o1, some (.int x2), some (.int x3), some (.int x4), some (.int r5)], [.int r6, .ref 5, .int r5], M) res
    obtain ⟨r7, k7, h⟩ := h
    refine mz_Go.callV (As := [.int r6]) (rest := [.int r5]) (rfl : mz_find 84 (mz_rows mq_X9_steady) = some (84, .invokevirtual 226, 3, 21, 0, 112)) (rfl : mz_nth mq_tab 21 = some mq_X1_located) rfl rfl rfl rfl (Nat.le_of_ble_eq_true rfl) (Nat.le_of_ble_eq_true rfl) k7 ?_
    show mq_G mq_X9_steady (87, [some (.ref 0), o1, some (.int x2), some (.int x3), some (.int x4), some (.int r5)], [.int r7, .int r5], M) res
    obtain ⟨r8, k8, h⟩ := h
    refine mz_Go.callS (As := [.int r7]) (rest := [.int r5]) (rfl : mz_find 87 (mz_rows mq_X9_steady) = some (87, .invokestatic 210, 3, 252, 0, 107)) (rfl : mz_nth mq_tab 252 = some mq_J6_bitCount_0f7a4) (by decide) rfl rfl rfl (Nat.le_of_ble_eq_true rfl) (Nat.le_of_ble_eq_true rfl) k8 ?_
    show mq_G mq_X9_steady (90, [some (.ref 0), o1, some (.int x2), some (.int x3), some (.int x4), some (.int r5)], [.int r8, .int r5], M) res
    refine mz_Go.steps (n := 1) (k2 := (if ¬ r5 = r8 then 99 else 93, [some (.ref 0), o1, some (.int x2), some (.int x3), some (.int x4), some (.int r5)], [], M)) (P := []) rfl mz_o0 ?_
    refine mz_Go.ite (fun c90 => ?_) (fun c90 => ?_)
    · replace h := h.1 c90
      refine mz_Go.steps (n := 3) (k2 := (if ¬ x3 = (-1) then 107 else 104, [some (.ref 0), o1, some (.int x2), some (.int x3), some (.int x4), some (.int r5)], [], M)) (P := []) rfl mz_o0 ?_
      refine mz_Go.ite (fun c101 => ?_) (fun c101 => ?_)
      · replace h := h.1 c101
        refine mz_Go.steps (n := 2) (k2 := (41, [some (.ref 0), o1, some (.int x2), some (.int x3), some (.int (x4 + 1)), some (.int r5)], [], M)) (P := []) rfl mz_o0 ?_
        exact h
      · replace h := h.2 c101
        refine mz_Go.steps (n := 4) (k2 := (41, [some (.ref 0), o1, some (.int x2), some (.int x4), some (.int (x4 + 1)), some (.int r5)], [], M)) (P := []) rfl mz_o0 ?_
        exact h
    · replace h := h.2 c90
      refine mz_Go.steps (n := 4) (k2 := (41, [some (.ref 0), (mz_nw o1), some (.int (x2 + 1)), some (.int x3), some (.int (x4 + 1)), some (.int r5)], [], M)) (P := []) rfl mz_o0 ?_
      exact h
set_option maxRecDepth 100000 in
set_option maxHeartbeats 4000000 in
theorem t_X9_bestScale_0 (x1 : Int32) (M : mz_M) {res : mz_O} (h :
    (∃ (r1 : Int32), (mq_C mq_X9_isSlot [.ref 0, .int x1] M (some (.int r1), M)) ∧
    ((¬ r1 = 0 →
      mq_G mq_X9_bestScale (17, [some (.ref 0), some (.int x1), some (.int 0), some (.int (-1)), some (.int 1), none], [], M) res) ∧
    (¬ (¬ r1 = 0) →
      res = (some (.int (-1)), M))))) :
    mq_G mq_X9_bestScale (0, [some (.ref 0), some (.int x1), none, none, none, none], [], M) res := by
  refine mz_Go.steps (n := 2) (k2 := (2, [some (.ref 0), some (.int x1), none, none, none, none], [.int x1, .ref 0], M)) (P := []) rfl mz_o0 ?_
  obtain ⟨r1, k1, h⟩ := h
  refine mz_Go.callV (As := [.int x1]) (rest := []) (rfl : mz_find 2 (mz_rows mq_X9_bestScale) = some (2, .invokevirtual 203, 3, 124, 0, 105)) (rfl : mz_nth mq_tab 124 = some mq_X9_isSlot) rfl rfl rfl rfl (Nat.le_of_ble_eq_true rfl) (Nat.le_of_ble_eq_true rfl) k1 ?_
  show mq_G mq_X9_bestScale (5, [some (.ref 0), some (.int x1), none, none, none, none], [.int r1], M) res
  refine mz_Go.steps (n := 1) (k2 := (if ¬ r1 = 0 then 10 else 8, [some (.ref 0), some (.int x1), none, none, none, none], [], M)) (P := []) rfl mz_o0 ?_
  refine mz_Go.ite (fun c5 => ?_) (fun c5 => ?_)
  · replace h := h.1 c5
    refine mz_Go.steps (n := 6) (k2 := (17, [some (.ref 0), some (.int x1), some (.int 0), some (.int (-1)), some (.int 1), none], [], M)) (P := []) rfl mz_o0 ?_
    exact h
  · replace h := h.2 c5
    refine mz_Go.steps (n := 1) (k2 := (9, [some (.ref 0), some (.int x1), none, none, none, none], [.int (-1)], M)) (P := []) rfl mz_o0 ?_
    rw [h]
    exact mz_Go.iret (rfl : mz_find 9 (mz_rows mq_X9_bestScale) = some (9, .ireturn, 1, 0, 0, 0)) rfl
set_option maxRecDepth 100000 in
set_option maxHeartbeats 4000000 in
theorem t_X9_bestScale_17 (x1 : Int32) (x2 : Int32) (x3 : Int32) (x4 : Int32) (o5 : Option Value) (M : mz_M) {res : mz_O} (h :
    (((M.1 2 2) ≤ x4 →
      (∃ (M2 : mz_M), (mq_C mq_X6_empties [.ref 73] M (none, M2)) ∧
      (∃ (M3 : mz_M), (mq_C mq_X6_puts [.ref 73, .long (x2.toInt64)] M2 (none, M3)) ∧
      res = (some (.int x3), M3)))) ∧
    (¬ ((M.1 2 2) ≤ x4) →
      mq_G mq_X9_bestScale (32, [some (.ref 0), some (.int x1), some (.int x2), some (.int x3), some (.int x4), some (.int 0)], [], M) res))) :
    mq_G mq_X9_bestScale (17, [some (.ref 0), some (.int x1), some (.int x2), some (.int x3), some (.int x4), o5], [], M) res := by
  refine mz_Go.steps (n := 5) (k2 := (if (M.1 2 2) ≤ x4 then 114 else 29, [some (.ref 0), some (.int x1), some (.int x2), some (.int x3), some (.int x4), o5], [], M)) (P := []) rfl mz_o0 ?_
  refine mz_Go.ite (fun c26 => ?_) (fun c26 => ?_)
  · replace h := h.1 c26
    refine mz_Go.steps (n := 2) (k2 := (118, [some (.ref 0), some (.int x1), some (.int x2), some (.int x3), some (.int x4), o5], [.ref 73], M)) (P := []) rfl mz_o0 ?_
    obtain ⟨M2, k2, h⟩ := h
    refine mz_Go.callV (As := []) (rest := []) (rfl : mz_find 118 (mz_rows mq_X9_bestScale) = some (118, .invokevirtual 120, 3, 44, 0, 76)) (rfl : mz_nth mq_tab 44 = some mq_X6_empties) rfl rfl rfl rfl (Nat.le_of_ble_eq_true rfl) (Nat.le_of_ble_eq_true rfl) k2 ?_
    show mq_G mq_X9_bestScale (121, [some (.ref 0), some (.int x1), some (.int x2), some (.int x3), some (.int x4), o5], [], M2) res
    refine mz_Go.steps (n := 4) (k2 := (127, [some (.ref 0), some (.int x1), some (.int x2), some (.int x3), some (.int x4), o5], [.long (x2.toInt64), .ref 73], M2)) (P := []) rfl mz_o0 ?_
    obtain ⟨M3, k3, h⟩ := h
    refine mz_Go.callV (As := [.long (x2.toInt64)]) (rest := []) (rfl : mz_find 127 (mz_rows mq_X9_bestScale) = some (127, .invokevirtual 124, 3, 45, 0, 78)) (rfl : mz_nth mq_tab 45 = some mq_X6_puts) rfl rfl rfl rfl (Nat.le_of_ble_eq_true rfl) (Nat.le_of_ble_eq_true rfl) k3 ?_
    show mq_G mq_X9_bestScale (130, [some (.ref 0), some (.int x1), some (.int x2), some (.int x3), some (.int x4), o5], [], M3) res
    refine mz_Go.steps (n := 1) (k2 := (131, [some (.ref 0), some (.int x1), some (.int x2), some (.int x3), some (.int x4), o5], [.int x3], M3)) (P := []) rfl mz_o0 ?_
    rw [h]
    exact mz_Go.iret (rfl : mz_find 131 (mz_rows mq_X9_bestScale) = some (131, .ireturn, 1, 0, 0, 0)) rfl
  · replace h := h.2 c26
    refine mz_Go.steps (n := 2) (k2 := (32, [some (.ref 0), some (.int x1), some (.int x2), some (.int x3), some (.int x4), some (.int 0)], [], M)) (P := []) rfl mz_o0 ?_
    exact h
set_option maxRecDepth 100000 in
set_option maxHeartbeats 4000000 in
theorem t_X9_bestScale_32 (x1 : Int32) (x2 : Int32) (x3 : Int32) (x4 : Int32) (x5 : Int32) (M : mz_M) {res : mz_O} (h :
    (((M.1 2 1) ≤ x5 →
      (∃ (r2 : Int32) (M2 : mz_M), (mq_C mq_X2_complexityOf [.ref 1, .ref 75] M (some (.int r2), M2)) ∧
      ((x3 = (-1) →
        mq_G mq_X9_bestScale (17, [some (.ref 0), some (.int x1), some (.int r2), some (.int x4), some (.int (x4 + 1)), some (.int r2)], [], M2) res) ∧
      (¬ (x3 = (-1)) →
        ((x2 ≤ r2 →
          mq_G mq_X9_bestScale (17, [some (.ref 0), some (.int x1), some (.int x2), some (.int x3), some (.int (x4 + 1)), some (.int r2)], [], M2) res) ∧
        (¬ (x2 ≤ r2) →
          mq_G mq_X9_bestScale (17, [some (.ref 0), some (.int x1), some (.int r2), some (.int x4), some (.int (x4 + 1)), some (.int r2)], [], M2) res)))))) ∧
    (¬ ((M.1 2 1) ≤ x5) →
      (vp_in x1 4) ∧
      (([10, 11, 12, 13] : List Nat).length = 4) ∧
      (mz_nth mq_sk ([10, 11, 12, 13].getD x1.toNatClampNeg 0) = some (.inl (0, 8, []))) ∧
      (vp_in x5 8) ∧
      (∃ (r9 : Int32), (mq_C mq_X0_times [.ref 2, .int (M.1 ([10, 11, 12, 13].getD x1.toNatClampNeg 0) x5.toNatClampNeg), .int x4] M (some (.int r9), M)) ∧
      (vp_in x5 8) ∧
      (∀ M10 : mz_M, M10 = mz_wr M 75 (upd (M.1 75) x5.toNatClampNeg r9) →
      mq_G mq_X9_bestScale (32, [some (.ref 0), some (.int x1), some (.int x2), some (.int x3), some (.int x4), some (.int (x5 + 1))], [], M10) res))))) :
    mq_G mq_X9_bestScale (32, [some (.ref 0), some (.int x1), some (.int x2), some (.int x3), some (.int x4), some (.int x5)], [], M) res := by
  refine mz_Go.steps (n := 5) (k2 := (if (M.1 2 1) ≤ x5 then 78 else 44, [some (.ref 0), some (.int x1), some (.int x2), some (.int x3), some (.int x4), some (.int x5)], [], M)) (P := []) rfl mz_o0 ?_
  refine mz_Go.ite (fun c41 => ?_) (fun c41 => ?_)
  · replace h := h.1 c41
    refine mz_Go.steps (n := 4) (k2 := (86, [some (.ref 0), some (.int x1), some (.int x2), some (.int x3), some (.int x4), some (.int x5)], [.ref 75, .ref 1], M)) (P := []) rfl mz_o0 ?_
    obtain ⟨r2, M2, k2, h⟩ := h
    refine mz_Go.callV (As := [.ref 75]) (rest := []) (rfl : mz_find 86 (mz_rows mq_X9_bestScale) = some (86, .invokevirtual 239, 3, 22, 0, 116)) (rfl : mz_nth mq_tab 22 = some mq_X2_complexityOf) rfl rfl rfl rfl (Nat.le_of_ble_eq_true rfl) (Nat.le_of_ble_eq_true rfl) k2 ?_
    show mq_G mq_X9_bestScale (89, [some (.ref 0), some (.int x1), some (.int x2), some (.int x3), some (.int x4), some (.int x5)], [.int r2], M2) res
    refine mz_Go.steps (n := 4) (k2 := (if x3 = (-1) then 102 else 96, [some (.ref 0), some (.int x1), some (.int x2), some (.int x3), some (.int x4), some (.int r2)], [], M2)) (P := []) rfl mz_o0 ?_
    refine mz_Go.ite (fun c93 => ?_) (fun c93 => ?_)
    · replace h := h.1 c93
      refine mz_Go.steps (n := 6) (k2 := (17, [some (.ref 0), some (.int x1), some (.int r2), some (.int x4), some (.int (x4 + 1)), some (.int r2)], [], M2)) (P := []) rfl mz_o0 ?_
      exact h
    · replace h := h.2 c93
      refine mz_Go.steps (n := 3) (k2 := (if x2 ≤ r2 then 108 else 102, [some (.ref 0), some (.int x1), some (.int x2), some (.int x3), some (.int x4), some (.int r2)], [], M2)) (P := []) rfl mz_o0 ?_
      refine mz_Go.ite (fun c99 => ?_) (fun c99 => ?_)
      · replace h := h.1 c99
        refine mz_Go.steps (n := 2) (k2 := (17, [some (.ref 0), some (.int x1), some (.int x2), some (.int x3), some (.int (x4 + 1)), some (.int r2)], [], M2)) (P := []) rfl mz_o0 ?_
        exact h
      · replace h := h.2 c99
        refine mz_Go.steps (n := 6) (k2 := (17, [some (.ref 0), some (.int x1), some (.int r2), some (.int x4), some (.int (x4 + 1)), some (.int r2)], [], M2)) (P := []) rfl mz_o0 ?_
        exact h
  · replace h := h.2 c41
    obtain ⟨q5, q6, h⟩ := h
    refine mz_Go.steps (n := 11) (k2 := (65, [some (.ref 0), some (.int x1), some (.int x2), some (.int x3), some (.int x4), some (.int x5)], [.int x5, .ref ([10, 11, 12, 13].getD x1.toNatClampNeg 0), .ref 2, .int x5, .ref 75], M)) (P := [vp_in x1 4, ([10, 11, 12, 13] : List Nat).length = 4]) rfl (mz_o2 q5 q6) ?_
    obtain ⟨q7, q8, h⟩ := h
    refine mz_Go.iald (rfl : mz_find 65 (mz_rows mq_X9_bestScale) = some (65, .iaload, 1, 0, 0, 0)) q7 q8 ?_
    show mq_G mq_X9_bestScale (66, [some (.ref 0), some (.int x1), some (.int x2), some (.int x3), some (.int x4), some (.int x5)], [.int (M.1 ([10, 11, 12, 13].getD x1.toNatClampNeg 0) x5.toNatClampNeg), .ref 2, .int x5, .ref 75], M) res
    refine mz_Go.steps (n := 1) (k2 := (68, [some (.ref 0), some (.int x1), some (.int x2), some (.int x3), some (.int x4), some (.int x5)], [.int x4, .int (M.1 ([10, 11, 12, 13].getD x1.toNatClampNeg 0) x5.toNatClampNeg), .ref 2, .int x5, .ref 75], M)) (P := []) rfl mz_o0 ?_
    obtain ⟨r9, k9, h⟩ := h
    refine mz_Go.callV (As := [.int (M.1 ([10, 11, 12, 13].getD x1.toNatClampNeg 0) x5.toNatClampNeg), .int x4]) (rest := [.int x5, .ref 75]) (rfl : mz_find 68 (mz_rows mq_X9_bestScale) = some (68, .invokevirtual 106, 3, 3, 0, 70)) (rfl : mz_nth mq_tab 3 = some mq_X0_times) rfl rfl rfl rfl (Nat.le_of_ble_eq_true rfl) (Nat.le_of_ble_eq_true rfl) k9 ?_
    show mq_G mq_X9_bestScale (71, [some (.ref 0), some (.int x1), some (.int x2), some (.int x3), some (.int x4), some (.int x5)], [.int r9, .int x5, .ref 75], M) res
    obtain ⟨q11, h⟩ := h
    obtain ⟨M10, e10⟩ : ∃ y, y = mz_wr M 75 (upd (M.1 75) x5.toNatClampNeg r9) := ⟨_, rfl⟩
    replace h := h M10 e10
    refine mz_Go.steps (n := 1) (k2 := (72, [some (.ref 0), some (.int x1), some (.int x2), some (.int x3), some (.int x4), some (.int x5)], [], (mz_wr M 75 (upd (M.1 75) x5.toNatClampNeg r9)))) (P := [vp_in x5 8]) rfl (mz_o1 q11) ?_
    rw [← e10]
    refine mz_Go.steps (n := 2) (k2 := (32, [some (.ref 0), some (.int x1), some (.int x2), some (.int x3), some (.int x4), some (.int (x5 + 1))], [], M10)) (P := []) rfl mz_o0 ?_
    exact h
set_option maxRecDepth 100000 in
set_option maxHeartbeats 4000000 in
theorem t_X9_same_0 (x1 : Int32) (x2 : Int32) (M : mz_M) {res : mz_O} (h :
    (∃ (r1 : Int32), (mq_C mq_X9_isSlot [.ref 0, .int x1] M (some (.int r1), M)) ∧
    ((r1 = 0 →
      res = (some (.int (-1)), M)) ∧
    (¬ (r1 = 0) →
      (∃ (r3 : Int32), (mq_C mq_X9_isSlot [.ref 0, .int x2] M (some (.int r3), M)) ∧
      ((¬ r3 = 0 →
        mq_G mq_X9_same (26, [some (.ref 0), some (.int x1), some (.int x2), some (.int 0), some (.int 0), some (.int 0), none], [], M) res) ∧
      (¬ (¬ r3 = 0) →
        res = (some (.int (-1)), M)))))))) :
    mq_G mq_X9_same (0, [some (.ref 0), some (.int x1), some (.int x2), none, none, none, none], [], M) res := by
  refine mz_Go.steps (n := 2) (k2 := (2, [some (.ref 0), some (.int x1), some (.int x2), none, none, none, none], [.int x1, .ref 0], M)) (P := []) rfl mz_o0 ?_
  obtain ⟨r1, k1, h⟩ := h
  refine mz_Go.callV (As := [.int x1]) (rest := []) (rfl : mz_find 2 (mz_rows mq_X9_same) = some (2, .invokevirtual 203, 3, 124, 0, 105)) (rfl : mz_nth mq_tab 124 = some mq_X9_isSlot) rfl rfl rfl rfl (Nat.le_of_ble_eq_true rfl) (Nat.le_of_ble_eq_true rfl) k1 ?_
  show mq_G mq_X9_same (5, [some (.ref 0), some (.int x1), some (.int x2), none, none, none, none], [.int r1], M) res
  refine mz_Go.steps (n := 1) (k2 := (if r1 = 0 then 16 else 8, [some (.ref 0), some (.int x1), some (.int x2), none, none, none, none], [], M)) (P := []) rfl mz_o0 ?_
  refine mz_Go.ite (fun c5 => ?_) (fun c5 => ?_)
  · replace h := h.1 c5
    refine mz_Go.steps (n := 1) (k2 := (17, [some (.ref 0), some (.int x1), some (.int x2), none, none, none, none], [.int (-1)], M)) (P := []) rfl mz_o0 ?_
    rw [h]
    exact mz_Go.iret (rfl : mz_find 17 (mz_rows mq_X9_same) = some (17, .ireturn, 1, 0, 0, 0)) rfl
  · replace h := h.2 c5
    refine mz_Go.steps (n := 2) (k2 := (10, [some (.ref 0), some (.int x1), some (.int x2), none, none, none, none], [.int x2, .ref 0], M)) (P := []) rfl mz_o0 ?_
    obtain ⟨r3, k3, h⟩ := h
    refine mz_Go.callV (As := [.int x2]) (rest := []) (rfl : mz_find 10 (mz_rows mq_X9_same) = some (10, .invokevirtual 203, 3, 124, 0, 105)) (rfl : mz_nth mq_tab 124 = some mq_X9_isSlot) rfl rfl rfl rfl (Nat.le_of_ble_eq_true rfl) (Nat.le_of_ble_eq_true rfl) k3 ?_
    show mq_G mq_X9_same (13, [some (.ref 0), some (.int x1), some (.int x2), none, none, none, none], [.int r3], M) res
    refine mz_Go.steps (n := 1) (k2 := (if ¬ r3 = 0 then 18 else 16, [some (.ref 0), some (.int x1), some (.int x2), none, none, none, none], [], M)) (P := []) rfl mz_o0 ?_
    refine mz_Go.ite (fun c13 => ?_) (fun c13 => ?_)
    · replace h := h.1 c13
      refine mz_Go.steps (n := 6) (k2 := (26, [some (.ref 0), some (.int x1), some (.int x2), some (.int 0), some (.int 0), some (.int 0), none], [], M)) (P := []) rfl mz_o0 ?_
      exact h
    · replace h := h.2 c13
      refine mz_Go.steps (n := 1) (k2 := (17, [some (.ref 0), some (.int x1), some (.int x2), none, none, none, none], [.int (-1)], M)) (P := []) rfl mz_o0 ?_
      rw [h]
      exact mz_Go.iret (rfl : mz_find 17 (mz_rows mq_X9_same) = some (17, .ireturn, 1, 0, 0, 0)) rfl
set_option maxRecDepth 100000 in
set_option maxHeartbeats 4000000 in
theorem t_X9_same_26 (x1 : Int32) (x2 : Int32) (x3 : Int32) (x4 : Int32) (x5 : Int32) (o6 : Option Value) (M : mz_M) {res : mz_O} (h :
    (((M.1 2 1) ≤ x5 →
      (∃ (M2 : mz_M), (mq_C mq_X6_empties [.ref 73] M (none, M2)) ∧
      (∃ (M3 : mz_M), (mq_C mq_X6_puts [.ref 73, .long (x3.toInt64)] M2 (none, M3)) ∧
      (∃ (M4 : mz_M), (mq_C mq_X6_puts [.ref 73, .long (x4.toInt64)] M3 (none, M4)) ∧
      ((¬ x3 = (M4.1 2 1) →
        res = (some (.int 0), M4)) ∧
      (¬ (¬ x3 = (M4.1 2 1)) →
        res = (some (.int 1), M4))))))) ∧
    (¬ ((M.1 2 1) ≤ x5) →
      (vp_in x1 4) ∧
      (([10, 11, 12, 13] : List Nat).length = 4) ∧
      (mz_nth mq_sk ([10, 11, 12, 13].getD x1.toNatClampNeg 0) = some (.inl (0, 8, []))) ∧
      (vp_in x5 8) ∧
      (vp_in x2 4) ∧
      (([10, 11, 12, 13] : List Nat).length = 4) ∧
      (∃ (r12 : Int32), (mq_C mq_X2_placeOf [.ref 1, .ref ([10, 11, 12, 13].getD x2.toNatClampNeg 0), .int (M.1 ([10, 11, 12, 13].getD x1.toNatClampNeg 0) x5.toNatClampNeg)] M (some (.int r12), M)) ∧
      ((¬ r12 = (-1) →
        (vp_in x2 4) ∧
        (([10, 11, 12, 13] : List Nat).length = 4) ∧
        (mz_nth mq_sk ([10, 11, 12, 13].getD x2.toNatClampNeg 0) = some (.inl (0, 8, []))) ∧
        (vp_in x5 8) ∧
        ((¬ (M.1 ([10, 11, 12, 13].getD x2.toNatClampNeg 0) x5.toNatClampNeg) = (M.1 ([10, 11, 12, 13].getD x1.toNatClampNeg 0) x5.toNatClampNeg) →
          mq_G mq_X9_same (26, [some (.ref 0), some (.int x1), some (.int x2), some (.int (x3 + 1)), some (.int (x4 + 0)), some (.int (x5 + 1)), some (.int (M.1 ([10, 11, 12, 13].getD x1.toNatClampNeg 0) x5.toNatClampNeg))], [], M) res) ∧
        (¬ (¬ (M.1 ([10, 11, 12, 13].getD x2.toNatClampNeg 0) x5.toNatClampNeg) = (M.1 ([10, 11, 12, 13].getD x1.toNatClampNeg 0) x5.toNatClampNeg)) →
          mq_G mq_X9_same (26, [some (.ref 0), some (.int x1), some (.int x2), some (.int (x3 + 1)), some (.int (x4 + 1)), some (.int (x5 + 1)), some (.int (M.1 ([10, 11, 12, 13].getD x1.toNatClampNeg 0) x5.toNatClampNeg))], [], M) res))) ∧
      (¬ (¬ r12 = (-1)) →
        (vp_in x2 4) ∧
        (([10, 11, 12, 13] : List Nat).length = 4) ∧
        (mz_nth mq_sk ([10, 11, 12, 13].getD x2.toNatClampNeg 0) = some (.inl (0, 8, []))) ∧
        (vp_in x5 8) ∧
        ((¬ (M.1 ([10, 11, 12, 13].getD x2.toNatClampNeg 0) x5.toNatClampNeg) = (M.1 ([10, 11, 12, 13].getD x1.toNatClampNeg 0) x5.toNatClampNeg) →
          mq_G mq_X9_same (26, [some (.ref 0), some (.int x1), some (.int x2), some (.int (x3 + 0)), some (.int (x4 + 0)), some (.int (x5 + 1)), some (.int (M.1 ([10, 11, 12, 13].getD x1.toNatClampNeg 0) x5.toNatClampNeg))], [], M) res) ∧
        (¬ (¬ (M.1 ([10, 11, 12, 13].getD x2.toNatClampNeg 0) x5.toNatClampNeg) = (M.1 ([10, 11, 12, 13].getD x1.toNatClampNeg 0) x5.toNatClampNeg)) →
          mq_G mq_X9_same (26, [some (.ref 0), some (.int x1), some (.int x2), some (.int (x3 + 0)), some (.int (x4 + 1)), some (.int (x5 + 1)), some (.int (M.1 ([10, 11, 12, 13].getD x1.toNatClampNeg 0) x5.toNatClampNeg))], [], M) res)))))))) :
    mq_G mq_X9_same (26, [some (.ref 0), some (.int x1), some (.int x2), some (.int x3), some (.int x4), some (.int x5), o6], [], M) res := by
  refine mz_Go.steps (n := 5) (k2 := (if (M.1 2 1) ≤ x5 then 115 else 38, [some (.ref 0), some (.int x1), some (.int x2), some (.int x3), some (.int x4), some (.int x5), o6], [], M)) (P := []) rfl mz_o0 ?_
  refine mz_Go.ite (fun c35 => ?_) (fun c35 => ?_)
  · replace h := h.1 c35
    refine mz_Go.steps (n := 2) (k2 := (119, [some (.ref 0), some (.int x1), some (.int x2), some (.int x3), some (.int x4), some (.int x5), o6], [.ref 73], M)) (P := []) rfl mz_o0 ?_
    obtain ⟨M2, k2, h⟩ := h
    refine mz_Go.callV (As := []) (rest := []) (rfl : mz_find 119 (mz_rows mq_X9_same) = some (119, .invokevirtual 120, 3, 44, 0, 76)) (rfl : mz_nth mq_tab 44 = some mq_X6_empties) rfl rfl rfl rfl (Nat.le_of_ble_eq_true rfl) (Nat.le_of_ble_eq_true rfl) k2 ?_
    show mq_G mq_X9_same (122, [some (.ref 0), some (.int x1), some (.int x2), some (.int x3), some (.int x4), some (.int x5), o6], [], M2) res
    refine mz_Go.steps (n := 4) (k2 := (128, [some (.ref 0), some (.int x1), some (.int x2), some (.int x3), some (.int x4), some (.int x5), o6], [.long (x3.toInt64), .ref 73], M2)) (P := []) rfl mz_o0 ?_
    obtain ⟨M3, k3, h⟩ := h
    refine mz_Go.callV (As := [.long (x3.toInt64)]) (rest := []) (rfl : mz_find 128 (mz_rows mq_X9_same) = some (128, .invokevirtual 124, 3, 45, 0, 78)) (rfl : mz_nth mq_tab 45 = some mq_X6_puts) rfl rfl rfl rfl (Nat.le_of_ble_eq_true rfl) (Nat.le_of_ble_eq_true rfl) k3 ?_
    show mq_G mq_X9_same (131, [some (.ref 0), some (.int x1), some (.int x2), some (.int x3), some (.int x4), some (.int x5), o6], [], M3) res
    refine mz_Go.steps (n := 4) (k2 := (138, [some (.ref 0), some (.int x1), some (.int x2), some (.int x3), some (.int x4), some (.int x5), o6], [.long (x4.toInt64), .ref 73], M3)) (P := []) rfl mz_o0 ?_
    obtain ⟨M4, k4, h⟩ := h
    refine mz_Go.callV (As := [.long (x4.toInt64)]) (rest := []) (rfl : mz_find 138 (mz_rows mq_X9_same) = some (138, .invokevirtual 124, 3, 45, 0, 78)) (rfl : mz_nth mq_tab 45 = some mq_X6_puts) rfl rfl rfl rfl (Nat.le_of_ble_eq_true rfl) (Nat.le_of_ble_eq_true rfl) k4 ?_
    show mq_G mq_X9_same (141, [some (.ref 0), some (.int x1), some (.int x2), some (.int x3), some (.int x4), some (.int x5), o6], [], M4) res
    refine mz_Go.steps (n := 5) (k2 := (if ¬ x3 = (M4.1 2 1) then 156 else 152, [some (.ref 0), some (.int x1), some (.int x2), some (.int x3), some (.int x4), some (.int x5), o6], [], M4)) (P := []) rfl mz_o0 ?_
    refine mz_Go.ite (fun c149 => ?_) (fun c149 => ?_)
    · replace h := h.1 c149
      refine mz_Go.steps (n := 1) (k2 := (157, [some (.ref 0), some (.int x1), some (.int x2), some (.int x3), some (.int x4), some (.int x5), o6], [.int 0], M4)) (P := []) rfl mz_o0 ?_
      rw [h]
      exact mz_Go.iret (rfl : mz_find 157 (mz_rows mq_X9_same) = some (157, .ireturn, 1, 0, 0, 0)) rfl
    · replace h := h.2 c149
      refine mz_Go.steps (n := 2) (k2 := (157, [some (.ref 0), some (.int x1), some (.int x2), some (.int x3), some (.int x4), some (.int x5), o6], [.int 1], M4)) (P := []) rfl mz_o0 ?_
      rw [h]
      exact mz_Go.iret (rfl : mz_find 157 (mz_rows mq_X9_same) = some (157, .ireturn, 1, 0, 0, 0)) rfl
  · replace h := h.2 c35
    obtain ⟨q6, q7, h⟩ := h
    refine mz_Go.steps (n := 6) (k2 := (49, [some (.ref 0), some (.int x1), some (.int x2), some (.int x3), some (.int x4), some (.int x5), o6], [.int x5, .ref ([10, 11, 12, 13].getD x1.toNatClampNeg 0)], M)) (P := [vp_in x1 4, ([10, 11, 12, 13] : List Nat).length = 4]) rfl (mz_o2 q6 q7) ?_
    obtain ⟨q8, q9, h⟩ := h
    refine mz_Go.iald (rfl : mz_find 49 (mz_rows mq_X9_same) = some (49, .iaload, 1, 0, 0, 0)) q8 q9 ?_
    show mq_G mq_X9_same (50, [some (.ref 0), some (.int x1), some (.int x2), some (.int x3), some (.int x4), some (.int x5), o6], [.int (M.1 ([10, 11, 12, 13].getD x1.toNatClampNeg 0) x5.toNatClampNeg)], M) res
    obtain ⟨q10, q11, h⟩ := h
    refine mz_Go.steps (n := 10) (k2 := (68, [some (.ref 0), some (.int x1), some (.int x2), some (.int x3), some (.int x4), some (.int x5), some (.int (M.1 ([10, 11, 12, 13].getD x1.toNatClampNeg 0) x5.toNatClampNeg))], [.int (M.1 ([10, 11, 12, 13].getD x1.toNatClampNeg 0) x5.toNatClampNeg), .ref ([10, 11, 12, 13].getD x2.toNatClampNeg 0), .ref 1, .int x3], M)) (P := [vp_in x2 4, ([10, 11, 12, 13] : List Nat).length = 4]) rfl (mz_o2 q10 q11) ?_
    obtain ⟨r12, k12, h⟩ := h
    refine mz_Go.callV (As := [.ref ([10, 11, 12, 13].getD x2.toNatClampNeg 0), .int (M.1 ([10, 11, 12, 13].getD x1.toNatClampNeg 0) x5.toNatClampNeg)]) (rest := [.int x3]) (rfl : mz_find 68 (mz_rows mq_X9_same) = some (68, .invokevirtual 242, 3, 27, 0, 117)) (rfl : mz_nth mq_tab 27 = some mq_X2_placeOf) rfl rfl rfl rfl (Nat.le_of_ble_eq_true rfl) (Nat.le_of_ble_eq_true rfl) k12 ?_
    show mq_G mq_X9_same (71, [some (.ref 0), some (.int x1), some (.int x2), some (.int x3), some (.int x4), some (.int x5), some (.int (M.1 ([10, 11, 12, 13].getD x1.toNatClampNeg 0) x5.toNatClampNeg))], [.int r12, .int x3], M) res
    refine mz_Go.steps (n := 2) (k2 := (if ¬ r12 = (-1) then 79 else 75, [some (.ref 0), some (.int x1), some (.int x2), some (.int x3), some (.int x4), some (.int x5), some (.int (M.1 ([10, 11, 12, 13].getD x1.toNatClampNeg 0) x5.toNatClampNeg))], [.int x3], M)) (P := []) rfl mz_o0 ?_
    refine mz_Go.ite (fun c72 => ?_) (fun c72 => ?_)
    · replace h := h.1 c72
      obtain ⟨q14, q15, h⟩ := h
      refine mz_Go.steps (n := 10) (k2 := (95, [some (.ref 0), some (.int x1), some (.int x2), some (.int (x3 + 1)), some (.int x4), some (.int x5), some (.int (M.1 ([10, 11, 12, 13].getD x1.toNatClampNeg 0) x5.toNatClampNeg))], [.int x5, .ref ([10, 11, 12, 13].getD x2.toNatClampNeg 0), .int x4], M)) (P := [vp_in x2 4, ([10, 11, 12, 13] : List Nat).length = 4]) rfl (mz_o2 q14 q15) ?_
      obtain ⟨q16, q17, h⟩ := h
      refine mz_Go.iald (rfl : mz_find 95 (mz_rows mq_X9_same) = some (95, .iaload, 1, 0, 0, 0)) q16 q17 ?_
      show mq_G mq_X9_same (96, [some (.ref 0), some (.int x1), some (.int x2), some (.int (x3 + 1)), some (.int x4), some (.int x5), some (.int (M.1 ([10, 11, 12, 13].getD x1.toNatClampNeg 0) x5.toNatClampNeg))], [.int (M.1 ([10, 11, 12, 13].getD x2.toNatClampNeg 0) x5.toNatClampNeg), .int x4], M) res
      refine mz_Go.steps (n := 2) (k2 := (if ¬ (M.1 ([10, 11, 12, 13].getD x2.toNatClampNeg 0) x5.toNatClampNeg) = (M.1 ([10, 11, 12, 13].getD x1.toNatClampNeg 0) x5.toNatClampNeg) then 105 else 101, [some (.ref 0), some (.int x1), some (.int x2), some (.int (x3 + 1)), some (.int x4), some (.int x5), some (.int (M.1 ([10, 11, 12, 13].getD x1.toNatClampNeg 0) x5.toNatClampNeg))], [.int x4], M)) (P := []) rfl mz_o0 ?_
      refine mz_Go.ite (fun c98 => ?_) (fun c98 => ?_)
      · replace h := h.1 c98
        refine mz_Go.steps (n := 5) (k2 := (26, [some (.ref 0), some (.int x1), some (.int x2), some (.int (x3 + 1)), some (.int (x4 + 0)), some (.int (x5 + 1)), some (.int (M.1 ([10, 11, 12, 13].getD x1.toNatClampNeg 0) x5.toNatClampNeg))], [], M)) (P := []) rfl mz_o0 ?_
        exact h
      · replace h := h.2 c98
        refine mz_Go.steps (n := 6) (k2 := (26, [some (.ref 0), some (.int x1), some (.int x2), some (.int (x3 + 1)), some (.int (x4 + 1)), some (.int (x5 + 1)), some (.int (M.1 ([10, 11, 12, 13].getD x1.toNatClampNeg 0) x5.toNatClampNeg))], [], M)) (P := []) rfl mz_o0 ?_
        exact h
    · replace h := h.2 c72
      obtain ⟨q19, q20, h⟩ := h
      refine mz_Go.steps (n := 11) (k2 := (95, [some (.ref 0), some (.int x1), some (.int x2), some (.int (x3 + 0)), some (.int x4), some (.int x5), some (.int (M.1 ([10, 11, 12, 13].getD x1.toNatClampNeg 0) x5.toNatClampNeg))], [.int x5, .ref ([10, 11, 12, 13].getD x2.toNatClampNeg 0), .int x4], M)) (P := [vp_in x2 4, ([10, 11, 12, 13] : List Nat).length = 4]) rfl (mz_o2 q19 q20) ?_
      obtain ⟨q21, q22, h⟩ := h
      refine mz_Go.iald (rfl : mz_find 95 (mz_rows mq_X9_same) = some (95, .iaload, 1, 0, 0, 0)) q21 q22 ?_
      show mq_G mq_X9_same (96, [some (.ref 0), some (.int x1), some (.int x2), some (.int (x3 + 0)), some (.int x4), some (.int x5), some (.int (M.1 ([10, 11, 12, 13].getD x1.toNatClampNeg 0) x5.toNatClampNeg))], [.int (M.1 ([10, 11, 12, 13].getD x2.toNatClampNeg 0) x5.toNatClampNeg), .int x4], M) res
      refine mz_Go.steps (n := 2) (k2 := (if ¬ (M.1 ([10, 11, 12, 13].getD x2.toNatClampNeg 0) x5.toNatClampNeg) = (M.1 ([10, 11, 12, 13].getD x1.toNatClampNeg 0) x5.toNatClampNeg) then 105 else 101, [some (.ref 0), some (.int x1), some (.int x2), some (.int (x3 + 0)), some (.int x4), some (.int x5), some (.int (M.1 ([10, 11, 12, 13].getD x1.toNatClampNeg 0) x5.toNatClampNeg))], [.int x4], M)) (P := []) rfl mz_o0 ?_
      refine mz_Go.ite (fun c98 => ?_) (fun c98 => ?_)
      · replace h := h.1 c98
        refine mz_Go.steps (n := 5) (k2 := (26, [some (.ref 0), some (.int x1), some (.int x2), some (.int (x3 + 0)), some (.int (x4 + 0)), some (.int (x5 + 1)), some (.int (M.1 ([10, 11, 12, 13].getD x1.toNatClampNeg 0) x5.toNatClampNeg))], [], M)) (P := []) rfl mz_o0 ?_
        exact h
      · replace h := h.2 c98
        refine mz_Go.steps (n := 6) (k2 := (26, [some (.ref 0), some (.int x1), some (.int x2), some (.int (x3 + 0)), some (.int (x4 + 1)), some (.int (x5 + 1)), some (.int (M.1 ([10, 11, 12, 13].getD x1.toNatClampNeg 0) x5.toNatClampNeg))], [], M)) (P := []) rfl mz_o0 ?_
        exact h
set_option maxRecDepth 100000 in
set_option maxHeartbeats 4000000 in
theorem t_X9_dual_0 (x1 : Int32) (x2 : Int32) (M : mz_M) {res : mz_O} (h :
    (∃ (r1 : Int32), (mq_C mq_X9_isSlot [.ref 0, .int x1] M (some (.int r1), M)) ∧
    ((r1 = 0 →
      res = (some (.int (-1)), M)) ∧
    (¬ (r1 = 0) →
      (∃ (r3 : Int32), (mq_C mq_X9_isSlot [.ref 0, .int x2] M (some (.int r3), M)) ∧
      ((¬ r3 = 0 →
        (vp_in x1 4) ∧
        (([10, 11, 12, 13] : List Nat).length = 4) ∧
        (∃ (M7 : mz_M), (mq_C mq_X2_fillsDual [.ref 1, .ref 75, .ref ([10, 11, 12, 13].getD x1.toNatClampNeg 0)] M (none, M7)) ∧
        (∃ (r8 : Int32) (M8 : mz_M), (mq_C mq_X9_setsSlot [.ref 0, .int x2, .ref 75] M7 (some (.int r8), M8)) ∧
        (∃ (M9 : mz_M), (mq_C mq_X6_empties [.ref 73] M8 (none, M9)) ∧
        (∃ (M10 : mz_M), (mq_C mq_X6_putsAll [.ref 73, .ref 75, .int (M9.1 2 1)] M9 (none, M10)) ∧
        res = (some (.int r8), M10)))))) ∧
      (¬ (¬ r3 = 0) →
        res = (some (.int (-1)), M)))))))) :
    mq_G mq_X9_dual (0, [some (.ref 0), some (.int x1), some (.int x2), none], [], M) res := by
  refine mz_Go.steps (n := 2) (k2 := (2, [some (.ref 0), some (.int x1), some (.int x2), none], [.int x1, .ref 0], M)) (P := []) rfl mz_o0 ?_
  obtain ⟨r1, k1, h⟩ := h
  refine mz_Go.callV (As := [.int x1]) (rest := []) (rfl : mz_find 2 (mz_rows mq_X9_dual) = some (2, .invokevirtual 203, 3, 124, 0, 105)) (rfl : mz_nth mq_tab 124 = some mq_X9_isSlot) rfl rfl rfl rfl (Nat.le_of_ble_eq_true rfl) (Nat.le_of_ble_eq_true rfl) k1 ?_
  show mq_G mq_X9_dual (5, [some (.ref 0), some (.int x1), some (.int x2), none], [.int r1], M) res
  refine mz_Go.steps (n := 1) (k2 := (if r1 = 0 then 16 else 8, [some (.ref 0), some (.int x1), some (.int x2), none], [], M)) (P := []) rfl mz_o0 ?_
  refine mz_Go.ite (fun c5 => ?_) (fun c5 => ?_)
  · replace h := h.1 c5
    refine mz_Go.steps (n := 1) (k2 := (17, [some (.ref 0), some (.int x1), some (.int x2), none], [.int (-1)], M)) (P := []) rfl mz_o0 ?_
    rw [h]
    exact mz_Go.iret (rfl : mz_find 17 (mz_rows mq_X9_dual) = some (17, .ireturn, 1, 0, 0, 0)) rfl
  · replace h := h.2 c5
    refine mz_Go.steps (n := 2) (k2 := (10, [some (.ref 0), some (.int x1), some (.int x2), none], [.int x2, .ref 0], M)) (P := []) rfl mz_o0 ?_
    obtain ⟨r3, k3, h⟩ := h
    refine mz_Go.callV (As := [.int x2]) (rest := []) (rfl : mz_find 10 (mz_rows mq_X9_dual) = some (10, .invokevirtual 203, 3, 124, 0, 105)) (rfl : mz_nth mq_tab 124 = some mq_X9_isSlot) rfl rfl rfl rfl (Nat.le_of_ble_eq_true rfl) (Nat.le_of_ble_eq_true rfl) k3 ?_
    show mq_G mq_X9_dual (13, [some (.ref 0), some (.int x1), some (.int x2), none], [.int r3], M) res
    refine mz_Go.steps (n := 1) (k2 := (if ¬ r3 = 0 then 18 else 16, [some (.ref 0), some (.int x1), some (.int x2), none], [], M)) (P := []) rfl mz_o0 ?_
    refine mz_Go.ite (fun c13 => ?_) (fun c13 => ?_)
    · replace h := h.1 c13
      obtain ⟨q5, q6, h⟩ := h
      refine mz_Go.steps (n := 9) (k2 := (35, [some (.ref 0), some (.int x1), some (.int x2), none], [.ref ([10, 11, 12, 13].getD x1.toNatClampNeg 0), .ref 75, .ref 1], M)) (P := [vp_in x1 4, ([10, 11, 12, 13] : List Nat).length = 4]) rfl (mz_o2 q5 q6) ?_
      obtain ⟨M7, k7, h⟩ := h
      refine mz_Go.callV (As := [.ref 75, .ref ([10, 11, 12, 13].getD x1.toNatClampNeg 0)]) (rest := []) (rfl : mz_find 35 (mz_rows mq_X9_dual) = some (35, .invokevirtual 245, 3, 33, 0, 118)) (rfl : mz_nth mq_tab 33 = some mq_X2_fillsDual) rfl rfl rfl rfl (Nat.le_of_ble_eq_true rfl) (Nat.le_of_ble_eq_true rfl) k7 ?_
      show mq_G mq_X9_dual (38, [some (.ref 0), some (.int x1), some (.int x2), none], [], M7) res
      refine mz_Go.steps (n := 4) (k2 := (44, [some (.ref 0), some (.int x1), some (.int x2), none], [.ref 75, .int x2, .ref 0], M7)) (P := []) rfl mz_o0 ?_
      obtain ⟨r8, M8, k8, h⟩ := h
      refine mz_Go.callV (As := [.int x2, .ref 75]) (rest := []) (rfl : mz_find 44 (mz_rows mq_X9_dual) = some (44, .invokevirtual 206, 3, 127, 0, 106)) (rfl : mz_nth mq_tab 127 = some mq_X9_setsSlot) rfl rfl rfl rfl (Nat.le_of_ble_eq_true rfl) (Nat.le_of_ble_eq_true rfl) k8 ?_
      show mq_G mq_X9_dual (47, [some (.ref 0), some (.int x1), some (.int x2), none], [.int r8], M8) res
      refine mz_Go.steps (n := 3) (k2 := (52, [some (.ref 0), some (.int x1), some (.int x2), some (.int r8)], [.ref 73], M8)) (P := []) rfl mz_o0 ?_
      obtain ⟨M9, k9, h⟩ := h
      refine mz_Go.callV (As := []) (rest := []) (rfl : mz_find 52 (mz_rows mq_X9_dual) = some (52, .invokevirtual 120, 3, 44, 0, 76)) (rfl : mz_nth mq_tab 44 = some mq_X6_empties) rfl rfl rfl rfl (Nat.le_of_ble_eq_true rfl) (Nat.le_of_ble_eq_true rfl) k9 ?_
      show mq_G mq_X9_dual (55, [some (.ref 0), some (.int x1), some (.int x2), some (.int r8)], [], M9) res
      refine mz_Go.steps (n := 7) (k2 := (70, [some (.ref 0), some (.int x1), some (.int x2), some (.int r8)], [.int (M9.1 2 1), .ref 75, .ref 73], M9)) (P := []) rfl mz_o0 ?_
      obtain ⟨M10, k10, h⟩ := h
      refine mz_Go.callV (As := [.ref 75, .int (M9.1 2 1)]) (rest := []) (rfl : mz_find 70 (mz_rows mq_X9_dual) = some (70, .invokevirtual 165, 3, 46, 0, 93)) (rfl : mz_nth mq_tab 46 = some mq_X6_putsAll) rfl rfl rfl rfl (Nat.le_of_ble_eq_true rfl) (Nat.le_of_ble_eq_true rfl) k10 ?_
      show mq_G mq_X9_dual (73, [some (.ref 0), some (.int x1), some (.int x2), some (.int r8)], [], M10) res
      refine mz_Go.steps (n := 1) (k2 := (74, [some (.ref 0), some (.int x1), some (.int x2), some (.int r8)], [.int r8], M10)) (P := []) rfl mz_o0 ?_
      rw [h]
      exact mz_Go.iret (rfl : mz_find 74 (mz_rows mq_X9_dual) = some (74, .ireturn, 1, 0, 0, 0)) rfl
    · replace h := h.2 c13
      refine mz_Go.steps (n := 1) (k2 := (17, [some (.ref 0), some (.int x1), some (.int x2), none], [.int (-1)], M)) (P := []) rfl mz_o0 ?_
      rw [h]
      exact mz_Go.iret (rfl : mz_find 17 (mz_rows mq_X9_dual) = some (17, .ireturn, 1, 0, 0, 0)) rfl
set_option maxRecDepth 100000 in
set_option maxHeartbeats 4000000 in
theorem t_X9_weakly_0 (x1 : Int32) (M : mz_M) {res : mz_O} (h :
    (∃ (r1 : Int32), (mq_C mq_X9_isSlot [.ref 0, .int x1] M (some (.int r1), M)) ∧
    ((¬ r1 = 0 →
      (vp_in x1 4) ∧
      (([10, 11, 12, 13] : List Nat).length = 4) ∧
      (∃ (M5 : mz_M), (mq_C mq_X2_fillsDual [.ref 1, .ref 75, .ref ([10, 11, 12, 13].getD x1.toNatClampNeg 0)] M (none, M5)) ∧
      mq_G mq_X9_weakly (32, [some (.ref 0), some (.int x1), some (.int 1)], [], M5) res)) ∧
    (¬ (¬ r1 = 0) →
      res = (some (.int (-1)), M))))) :
    mq_G mq_X9_weakly (0, [some (.ref 0), some (.int x1), none], [], M) res := by
  refine mz_Go.steps (n := 2) (k2 := (2, [some (.ref 0), some (.int x1), none], [.int x1, .ref 0], M)) (P := []) rfl mz_o0 ?_
  obtain ⟨r1, k1, h⟩ := h
  refine mz_Go.callV (As := [.int x1]) (rest := []) (rfl : mz_find 2 (mz_rows mq_X9_weakly) = some (2, .invokevirtual 203, 3, 124, 0, 105)) (rfl : mz_nth mq_tab 124 = some mq_X9_isSlot) rfl rfl rfl rfl (Nat.le_of_ble_eq_true rfl) (Nat.le_of_ble_eq_true rfl) k1 ?_
  show mq_G mq_X9_weakly (5, [some (.ref 0), some (.int x1), none], [.int r1], M) res
  refine mz_Go.steps (n := 1) (k2 := (if ¬ r1 = 0 then 10 else 8, [some (.ref 0), some (.int x1), none], [], M)) (P := []) rfl mz_o0 ?_
  refine mz_Go.ite (fun c5 => ?_) (fun c5 => ?_)
  · replace h := h.1 c5
    obtain ⟨q3, q4, h⟩ := h
    refine mz_Go.steps (n := 9) (k2 := (27, [some (.ref 0), some (.int x1), none], [.ref ([10, 11, 12, 13].getD x1.toNatClampNeg 0), .ref 75, .ref 1], M)) (P := [vp_in x1 4, ([10, 11, 12, 13] : List Nat).length = 4]) rfl (mz_o2 q3 q4) ?_
    obtain ⟨M5, k5, h⟩ := h
    refine mz_Go.callV (As := [.ref 75, .ref ([10, 11, 12, 13].getD x1.toNatClampNeg 0)]) (rest := []) (rfl : mz_find 27 (mz_rows mq_X9_weakly) = some (27, .invokevirtual 245, 3, 33, 0, 118)) (rfl : mz_nth mq_tab 33 = some mq_X2_fillsDual) rfl rfl rfl rfl (Nat.le_of_ble_eq_true rfl) (Nat.le_of_ble_eq_true rfl) k5 ?_
    show mq_G mq_X9_weakly (30, [some (.ref 0), some (.int x1), none], [], M5) res
    refine mz_Go.steps (n := 2) (k2 := (32, [some (.ref 0), some (.int x1), some (.int 1)], [], M5)) (P := []) rfl mz_o0 ?_
    exact h
  · replace h := h.2 c5
    refine mz_Go.steps (n := 1) (k2 := (9, [some (.ref 0), some (.int x1), none], [.int (-1)], M)) (P := []) rfl mz_o0 ?_
    rw [h]
    exact mz_Go.iret (rfl : mz_find 9 (mz_rows mq_X9_weakly) = some (9, .ireturn, 1, 0, 0, 0)) rfl
set_option maxRecDepth 100000 in
set_option maxHeartbeats 4000000 in
theorem t_X9_weakly_32 (x1 : Int32) (x2 : Int32) (M : mz_M) {res : mz_O} (h :
    (((M.1 2 2) ≤ x2 →
      res = (some (.int (-2)), M)) ∧
    (¬ ((M.1 2 2) ≤ x2) →
      (vp_in x1 4) ∧
      (([10, 11, 12, 13] : List Nat).length = 4) ∧
      (∃ (r4 : Int32) (M4 : mz_M), (mq_C mq_X2_fillsPlaces [.ref 1, .ref 76, .ref 75, .int x2, .ref ([10, 11, 12, 13].getD x1.toNatClampNeg 0)] M (some (.int r4), M4)) ∧
      ((r4 = 0 →
        mq_G mq_X9_weakly (32, [some (.ref 0), some (.int x1), some (.int (x2 + 1))], [], M4) res) ∧
      (¬ (r4 = 0) →
        (∃ (M6 : mz_M), (mq_C mq_X6_empties [.ref 73] M4 (none, M6)) ∧
        (∃ (M7 : mz_M), (mq_C mq_X6_putsAll [.ref 73, .ref 76, .int (M6.1 2 1)] M6 (none, M7)) ∧
        res = (some (.int x2), M7))))))))) :
    mq_G mq_X9_weakly (32, [some (.ref 0), some (.int x1), some (.int x2)], [], M) res := by
  refine mz_Go.steps (n := 5) (k2 := (if (M.1 2 2) ≤ x2 then 104 else 43, [some (.ref 0), some (.int x1), some (.int x2)], [], M)) (P := []) rfl mz_o0 ?_
  refine mz_Go.ite (fun c40 => ?_) (fun c40 => ?_)
  · replace h := h.1 c40
    refine mz_Go.steps (n := 1) (k2 := (106, [some (.ref 0), some (.int x1), some (.int x2)], [.int (-2)], M)) (P := []) rfl mz_o0 ?_
    rw [h]
    exact mz_Go.iret (rfl : mz_find 106 (mz_rows mq_X9_weakly) = some (106, .ireturn, 1, 0, 0, 0)) rfl
  · replace h := h.2 c40
    obtain ⟨q2, q3, h⟩ := h
    refine mz_Go.steps (n := 12) (k2 := (65, [some (.ref 0), some (.int x1), some (.int x2)], [.ref ([10, 11, 12, 13].getD x1.toNatClampNeg 0), .int x2, .ref 75, .ref 76, .ref 1], M)) (P := [vp_in x1 4, ([10, 11, 12, 13] : List Nat).length = 4]) rfl (mz_o2 q2 q3) ?_
    obtain ⟨r4, M4, k4, h⟩ := h
    refine mz_Go.callV (As := [.ref 76, .ref 75, .int x2, .ref ([10, 11, 12, 13].getD x1.toNatClampNeg 0)]) (rest := []) (rfl : mz_find 65 (mz_rows mq_X9_weakly) = some (65, .invokevirtual 249, 3, 34, 0, 119)) (rfl : mz_nth mq_tab 34 = some mq_X2_fillsPlaces) rfl rfl rfl rfl (Nat.le_of_ble_eq_true rfl) (Nat.le_of_ble_eq_true rfl) k4 ?_
    show mq_G mq_X9_weakly (68, [some (.ref 0), some (.int x1), some (.int x2)], [.int r4], M4) res
    refine mz_Go.steps (n := 1) (k2 := (if r4 = 0 then 98 else 71, [some (.ref 0), some (.int x1), some (.int x2)], [], M4)) (P := []) rfl mz_o0 ?_
    refine mz_Go.ite (fun c68 => ?_) (fun c68 => ?_)
    · replace h := h.1 c68
      refine mz_Go.steps (n := 2) (k2 := (32, [some (.ref 0), some (.int x1), some (.int (x2 + 1))], [], M4)) (P := []) rfl mz_o0 ?_
      exact h
    · replace h := h.2 c68
      refine mz_Go.steps (n := 2) (k2 := (75, [some (.ref 0), some (.int x1), some (.int x2)], [.ref 73], M4)) (P := []) rfl mz_o0 ?_
      obtain ⟨M6, k6, h⟩ := h
      refine mz_Go.callV (As := []) (rest := []) (rfl : mz_find 75 (mz_rows mq_X9_weakly) = some (75, .invokevirtual 120, 3, 44, 0, 76)) (rfl : mz_nth mq_tab 44 = some mq_X6_empties) rfl rfl rfl rfl (Nat.le_of_ble_eq_true rfl) (Nat.le_of_ble_eq_true rfl) k6 ?_
      show mq_G mq_X9_weakly (78, [some (.ref 0), some (.int x1), some (.int x2)], [], M6) res
      refine mz_Go.steps (n := 7) (k2 := (93, [some (.ref 0), some (.int x1), some (.int x2)], [.int (M6.1 2 1), .ref 76, .ref 73], M6)) (P := []) rfl mz_o0 ?_
      obtain ⟨M7, k7, h⟩ := h
      refine mz_Go.callV (As := [.ref 76, .int (M6.1 2 1)]) (rest := []) (rfl : mz_find 93 (mz_rows mq_X9_weakly) = some (93, .invokevirtual 165, 3, 46, 0, 93)) (rfl : mz_nth mq_tab 46 = some mq_X6_putsAll) rfl rfl rfl rfl (Nat.le_of_ble_eq_true rfl) (Nat.le_of_ble_eq_true rfl) k7 ?_
      show mq_G mq_X9_weakly (96, [some (.ref 0), some (.int x1), some (.int x2)], [], M7) res
      refine mz_Go.steps (n := 1) (k2 := (97, [some (.ref 0), some (.int x1), some (.int x2)], [.int x2], M7)) (P := []) rfl mz_o0 ?_
      rw [h]
      exact mz_Go.iret (rfl : mz_find 97 (mz_rows mq_X9_weakly) = some (97, .ireturn, 1, 0, 0, 0)) rfl
set_option maxRecDepth 100000 in
set_option maxHeartbeats 4000000 in
theorem t_X9_traces_0 (x1 : Int32) (M : mz_M) {res : mz_O} (h :
    (∃ (r1 : Int32), (mq_C mq_X9_isSlot [.ref 0, .int x1] M (some (.int r1), M)) ∧
    ((¬ r1 = 0 →
      (∃ (M3 : mz_M), (mq_C mq_X6_empties [.ref 73] M (none, M3)) ∧
      mq_G mq_X9_traces (21, [some (.ref 0), some (.int x1), some (.int 1), some (.int 0), none], [], M3) res)) ∧
    (¬ (¬ r1 = 0) →
      res = (some (.int (-1)), M))))) :
    mq_G mq_X9_traces (0, [some (.ref 0), some (.int x1), none, none, none], [], M) res := by
  refine mz_Go.steps (n := 2) (k2 := (2, [some (.ref 0), some (.int x1), none, none, none], [.int x1, .ref 0], M)) (P := []) rfl mz_o0 ?_
  obtain ⟨r1, k1, h⟩ := h
  refine mz_Go.callV (As := [.int x1]) (rest := []) (rfl : mz_find 2 (mz_rows mq_X9_traces) = some (2, .invokevirtual 203, 3, 124, 0, 105)) (rfl : mz_nth mq_tab 124 = some mq_X9_isSlot) rfl rfl rfl rfl (Nat.le_of_ble_eq_true rfl) (Nat.le_of_ble_eq_true rfl) k1 ?_
  show mq_G mq_X9_traces (5, [some (.ref 0), some (.int x1), none, none, none], [.int r1], M) res
  refine mz_Go.steps (n := 1) (k2 := (if ¬ r1 = 0 then 10 else 8, [some (.ref 0), some (.int x1), none, none, none], [], M)) (P := []) rfl mz_o0 ?_
  refine mz_Go.ite (fun c5 => ?_) (fun c5 => ?_)
  · replace h := h.1 c5
    refine mz_Go.steps (n := 4) (k2 := (16, [some (.ref 0), some (.int x1), some (.int 1), none, none], [.ref 73], M)) (P := []) rfl mz_o0 ?_
    obtain ⟨M3, k3, h⟩ := h
    refine mz_Go.callV (As := []) (rest := []) (rfl : mz_find 16 (mz_rows mq_X9_traces) = some (16, .invokevirtual 120, 3, 44, 0, 76)) (rfl : mz_nth mq_tab 44 = some mq_X6_empties) rfl rfl rfl rfl (Nat.le_of_ble_eq_true rfl) (Nat.le_of_ble_eq_true rfl) k3 ?_
    show mq_G mq_X9_traces (19, [some (.ref 0), some (.int x1), some (.int 1), none, none], [], M3) res
    refine mz_Go.steps (n := 2) (k2 := (21, [some (.ref 0), some (.int x1), some (.int 1), some (.int 0), none], [], M3)) (P := []) rfl mz_o0 ?_
    exact h
  · replace h := h.2 c5
    refine mz_Go.steps (n := 1) (k2 := (9, [some (.ref 0), some (.int x1), none, none, none], [.int (-1)], M)) (P := []) rfl mz_o0 ?_
    rw [h]
    exact mz_Go.iret (rfl : mz_find 9 (mz_rows mq_X9_traces) = some (9, .ireturn, 1, 0, 0, 0)) rfl
set_option maxRecDepth 100000 in
set_option maxHeartbeats 4000000 in
theorem t_X9_traces_21 (x1 : Int32) (x2 : Int32) (x3 : Int32) (o4 : Option Value) (M : mz_M) {res : mz_O} (h :
    (((M.1 2 1) ≤ x3 →
      res = (some (.int x2), M)) ∧
    (¬ ((M.1 2 1) ≤ x3) →
      (vp_in x1 4) ∧
      (([10, 11, 12, 13] : List Nat).length = 4) ∧
      (vp_in x1 4) ∧
      (([10, 11, 12, 13] : List Nat).length = 4) ∧
      (mz_nth mq_sk ([10, 11, 12, 13].getD x1.toNatClampNeg 0) = some (.inl (0, 8, []))) ∧
      (vp_in x3 8) ∧
      (∃ (r8 : Int32), (mq_C mq_X2_traceBits [.ref 1, .ref ([10, 11, 12, 13].getD x1.toNatClampNeg 0), .int (M.1 ([10, 11, 12, 13].getD x1.toNatClampNeg 0) x3.toNatClampNeg)] M (some (.int r8), M)) ∧
      (∃ (M9 : mz_M), (mq_C mq_X6_puts [.ref 73, .long (r8.toInt64)] M (none, M9)) ∧
      ((r8 = ((1 : Int32) <<< (x3 &&& 31)) →
        mq_G mq_X9_traces (21, [some (.ref 0), some (.int x1), some (.int x2), some (.int (x3 + 1)), some (.int r8)], [], M9) res) ∧
      (¬ (r8 = ((1 : Int32) <<< (x3 &&& 31))) →
        mq_G mq_X9_traces (21, [some (.ref 0), some (.int x1), some (.int 0), some (.int (x3 + 1)), some (.int r8)], [], M9) res))))))) :
    mq_G mq_X9_traces (21, [some (.ref 0), some (.int x1), some (.int x2), some (.int x3), o4], [], M) res := by
  refine mz_Go.steps (n := 5) (k2 := (if (M.1 2 1) ≤ x3 then 87 else 32, [some (.ref 0), some (.int x1), some (.int x2), some (.int x3), o4], [], M)) (P := []) rfl mz_o0 ?_
  refine mz_Go.ite (fun c29 => ?_) (fun c29 => ?_)
  · replace h := h.1 c29
    refine mz_Go.steps (n := 1) (k2 := (88, [some (.ref 0), some (.int x1), some (.int x2), some (.int x3), o4], [.int x2], M)) (P := []) rfl mz_o0 ?_
    rw [h]
    exact mz_Go.iret (rfl : mz_find 88 (mz_rows mq_X9_traces) = some (88, .ireturn, 1, 0, 0, 0)) rfl
  · replace h := h.2 c29
    obtain ⟨q2, q3, q4, q5, h⟩ := h
    refine mz_Go.steps (n := 13) (k2 := (55, [some (.ref 0), some (.int x1), some (.int x2), some (.int x3), o4], [.int x3, .ref ([10, 11, 12, 13].getD x1.toNatClampNeg 0), .ref ([10, 11, 12, 13].getD x1.toNatClampNeg 0), .ref 1], M)) (P := [vp_in x1 4, ([10, 11, 12, 13] : List Nat).length = 4, vp_in x1 4, ([10, 11, 12, 13] : List Nat).length = 4]) rfl (mz_o4 q2 q3 q4 q5) ?_
    obtain ⟨q6, q7, h⟩ := h
    refine mz_Go.iald (rfl : mz_find 55 (mz_rows mq_X9_traces) = some (55, .iaload, 1, 0, 0, 0)) q6 q7 ?_
    show mq_G mq_X9_traces (56, [some (.ref 0), some (.int x1), some (.int x2), some (.int x3), o4], [.int (M.1 ([10, 11, 12, 13].getD x1.toNatClampNeg 0) x3.toNatClampNeg), .ref ([10, 11, 12, 13].getD x1.toNatClampNeg 0), .ref 1], M) res
    obtain ⟨r8, k8, h⟩ := h
    refine mz_Go.callV (As := [.ref ([10, 11, 12, 13].getD x1.toNatClampNeg 0), .int (M.1 ([10, 11, 12, 13].getD x1.toNatClampNeg 0) x3.toNatClampNeg)]) (rest := []) (rfl : mz_find 56 (mz_rows mq_X9_traces) = some (56, .invokevirtual 253, 3, 32, 0, 120)) (rfl : mz_nth mq_tab 32 = some mq_X2_traceBits) rfl rfl rfl rfl (Nat.le_of_ble_eq_true rfl) (Nat.le_of_ble_eq_true rfl) k8 ?_
    show mq_G mq_X9_traces (59, [some (.ref 0), some (.int x1), some (.int x2), some (.int x3), o4], [.int r8], M) res
    refine mz_Go.steps (n := 5) (k2 := (68, [some (.ref 0), some (.int x1), some (.int x2), some (.int x3), some (.int r8)], [.long (r8.toInt64), .ref 73], M)) (P := []) rfl mz_o0 ?_
    obtain ⟨M9, k9, h⟩ := h
    refine mz_Go.callV (As := [.long (r8.toInt64)]) (rest := []) (rfl : mz_find 68 (mz_rows mq_X9_traces) = some (68, .invokevirtual 124, 3, 45, 0, 78)) (rfl : mz_nth mq_tab 45 = some mq_X6_puts) rfl rfl rfl rfl (Nat.le_of_ble_eq_true rfl) (Nat.le_of_ble_eq_true rfl) k9 ?_
    show mq_G mq_X9_traces (71, [some (.ref 0), some (.int x1), some (.int x2), some (.int x3), some (.int r8)], [], M9) res
    refine mz_Go.steps (n := 5) (k2 := (if r8 = ((1 : Int32) <<< (x3 &&& 31)) then 81 else 79, [some (.ref 0), some (.int x1), some (.int x2), some (.int x3), some (.int r8)], [], M9)) (P := []) rfl mz_o0 ?_
    refine mz_Go.ite (fun c76 => ?_) (fun c76 => ?_)
    · replace h := h.1 c76
      refine mz_Go.steps (n := 2) (k2 := (21, [some (.ref 0), some (.int x1), some (.int x2), some (.int (x3 + 1)), some (.int r8)], [], M9)) (P := []) rfl mz_o0 ?_
      exact h
    · replace h := h.2 c76
      refine mz_Go.steps (n := 4) (k2 := (21, [some (.ref 0), some (.int x1), some (.int 0), some (.int (x3 + 1)), some (.int r8)], [], M9)) (P := []) rfl mz_o0 ?_
      exact h
set_option maxRecDepth 100000 in
set_option maxHeartbeats 4000000 in
theorem t_X9_tower_0 (x1 : Int32) (x2 : Int32) (x3 : Int32) (M : mz_M) {res : mz_O} (h :
    (∃ (r1 : Int32), (mq_C mq_X9_isSlot [.ref 0, .int x1] M (some (.int r1), M)) ∧
    ((r1 = 0 →
      res = (some (.int (-1)), M)) ∧
    (¬ (r1 = 0) →
      (∃ (r3 : Int32), (mq_C mq_X0_hasSubfield [.ref 2, .int x2] M (some (.int r3), M)) ∧
      ((r3 = 0 →
        res = (some (.int (-1)), M)) ∧
      (¬ (r3 = 0) →
        (∃ (r5 : Int32), (mq_C mq_X9_isElement [.ref 0, .int x3] M (some (.int r5), M)) ∧
        ((¬ r5 = 0 →
          (∃ (M7 : mz_M), (mq_C mq_X2_fillsSubbase [.ref 1, .ref 76, .int x2] M (none, M7)) ∧
          (∃ (M8 : mz_M), (mq_C mq_X2_fillsTower [.ref 1, .ref 75, .ref 76, .int x2, .int x3] M7 (none, M8)) ∧
          (∃ (r9 : Int32) (M9 : mz_M), (mq_C mq_X1_holds [.ref 5, .ref 75, .int (M8.1 2 1)] M8 (some (.int r9), M9)) ∧
          ((r9 = 0 →
            res = (some (.int (-2)), M9)) ∧
          (¬ (r9 = 0) →
            (∃ (r11 : Int32) (M11 : mz_M), (mq_C mq_X9_setsSlot [.ref 0, .int x1, .ref 75] M9 (some (.int r11), M11)) ∧
            res = (some (.int r11), M11)))))))) ∧
        (¬ (¬ r5 = 0) →
          res = (some (.int (-1)), M))))))))))) :
    mq_G mq_X9_tower (0, [some (.ref 0), some (.int x1), some (.int x2), some (.int x3)], [], M) res := by
  refine mz_Go.steps (n := 2) (k2 := (2, [some (.ref 0), some (.int x1), some (.int x2), some (.int x3)], [.int x1, .ref 0], M)) (P := []) rfl mz_o0 ?_
  obtain ⟨r1, k1, h⟩ := h
  refine mz_Go.callV (As := [.int x1]) (rest := []) (rfl : mz_find 2 (mz_rows mq_X9_tower) = some (2, .invokevirtual 203, 3, 124, 0, 105)) (rfl : mz_nth mq_tab 124 = some mq_X9_isSlot) rfl rfl rfl rfl (Nat.le_of_ble_eq_true rfl) (Nat.le_of_ble_eq_true rfl) k1 ?_
  show mq_G mq_X9_tower (5, [some (.ref 0), some (.int x1), some (.int x2), some (.int x3)], [.int r1], M) res
  refine mz_Go.steps (n := 1) (k2 := (if r1 = 0 then 27 else 8, [some (.ref 0), some (.int x1), some (.int x2), some (.int x3)], [], M)) (P := []) rfl mz_o0 ?_
  refine mz_Go.ite (fun c5 => ?_) (fun c5 => ?_)
  · replace h := h.1 c5
    refine mz_Go.steps (n := 1) (k2 := (28, [some (.ref 0), some (.int x1), some (.int x2), some (.int x3)], [.int (-1)], M)) (P := []) rfl mz_o0 ?_
    rw [h]
    exact mz_Go.iret (rfl : mz_find 28 (mz_rows mq_X9_tower) = some (28, .ireturn, 1, 0, 0, 0)) rfl
  · replace h := h.2 c5
    refine mz_Go.steps (n := 3) (k2 := (13, [some (.ref 0), some (.int x1), some (.int x2), some (.int x3)], [.int x2, .ref 2], M)) (P := []) rfl mz_o0 ?_
    obtain ⟨r3, k3, h⟩ := h
    refine mz_Go.callV (As := [.int x2]) (rest := []) (rfl : mz_find 13 (mz_rows mq_X9_tower) = some (13, .invokevirtual 137, 3, 11, 0, 83)) (rfl : mz_nth mq_tab 11 = some mq_X0_hasSubfield) rfl rfl rfl rfl (Nat.le_of_ble_eq_true rfl) (Nat.le_of_ble_eq_true rfl) k3 ?_
    show mq_G mq_X9_tower (16, [some (.ref 0), some (.int x1), some (.int x2), some (.int x3)], [.int r3], M) res
    refine mz_Go.steps (n := 1) (k2 := (if r3 = 0 then 27 else 19, [some (.ref 0), some (.int x1), some (.int x2), some (.int x3)], [], M)) (P := []) rfl mz_o0 ?_
    refine mz_Go.ite (fun c16 => ?_) (fun c16 => ?_)
    · replace h := h.1 c16
      refine mz_Go.steps (n := 1) (k2 := (28, [some (.ref 0), some (.int x1), some (.int x2), some (.int x3)], [.int (-1)], M)) (P := []) rfl mz_o0 ?_
      rw [h]
      exact mz_Go.iret (rfl : mz_find 28 (mz_rows mq_X9_tower) = some (28, .ireturn, 1, 0, 0, 0)) rfl
    · replace h := h.2 c16
      refine mz_Go.steps (n := 2) (k2 := (21, [some (.ref 0), some (.int x1), some (.int x2), some (.int x3)], [.int x3, .ref 0], M)) (P := []) rfl mz_o0 ?_
      obtain ⟨r5, k5, h⟩ := h
      refine mz_Go.callV (As := [.int x3]) (rest := []) (rfl : mz_find 21 (mz_rows mq_X9_tower) = some (21, .invokevirtual 103, 3, 123, 0, 68)) (rfl : mz_nth mq_tab 123 = some mq_X9_isElement) rfl rfl rfl rfl (Nat.le_of_ble_eq_true rfl) (Nat.le_of_ble_eq_true rfl) k5 ?_
      show mq_G mq_X9_tower (24, [some (.ref 0), some (.int x1), some (.int x2), some (.int x3)], [.int r5], M) res
      refine mz_Go.steps (n := 1) (k2 := (if ¬ r5 = 0 then 29 else 27, [some (.ref 0), some (.int x1), some (.int x2), some (.int x3)], [], M)) (P := []) rfl mz_o0 ?_
      refine mz_Go.ite (fun c24 => ?_) (fun c24 => ?_)
      · replace h := h.1 c24
        refine mz_Go.steps (n := 5) (k2 := (38, [some (.ref 0), some (.int x1), some (.int x2), some (.int x3)], [.int x2, .ref 76, .ref 1], M)) (P := []) rfl mz_o0 ?_
        obtain ⟨M7, k7, h⟩ := h
        refine mz_Go.callV (As := [.ref 76, .int x2]) (rest := []) (rfl : mz_find 38 (mz_rows mq_X9_tower) = some (38, .invokevirtual 161, 3, 29, 0, 92)) (rfl : mz_nth mq_tab 29 = some mq_X2_fillsSubbase) rfl rfl rfl rfl (Nat.le_of_ble_eq_true rfl) (Nat.le_of_ble_eq_true rfl) k7 ?_
        show mq_G mq_X9_tower (41, [some (.ref 0), some (.int x1), some (.int x2), some (.int x3)], [], M7) res
        refine mz_Go.steps (n := 8) (k2 := (55, [some (.ref 0), some (.int x1), some (.int x2), some (.int x3)], [.int x3, .int x2, .ref 76, .ref 75, .ref 1], M7)) (P := []) rfl mz_o0 ?_
        obtain ⟨M8, k8, h⟩ := h
        refine mz_Go.callV (As := [.ref 75, .ref 76, .int x2, .int x3]) (rest := []) (rfl : mz_find 55 (mz_rows mq_X9_tower) = some (55, .invokevirtual 256, 3, 31, 0, 121)) (rfl : mz_nth mq_tab 31 = some mq_X2_fillsTower) rfl rfl rfl rfl (Nat.le_of_ble_eq_true rfl) (Nat.le_of_ble_eq_true rfl) k8 ?_
        show mq_G mq_X9_tower (58, [some (.ref 0), some (.int x1), some (.int x2), some (.int x3)], [], M8) res
        refine mz_Go.steps (n := 7) (k2 := (73, [some (.ref 0), some (.int x1), some (.int x2), some (.int x3)], [.int (M8.1 2 1), .ref 75, .ref 5], M8)) (P := []) rfl mz_o0 ?_
        obtain ⟨r9, M9, k9, h⟩ := h
        refine mz_Go.callV (As := [.ref 75, .int (M8.1 2 1)]) (rest := []) (rfl : mz_find 73 (mz_rows mq_X9_tower) = some (73, .invokevirtual 171, 3, 20, 0, 97)) (rfl : mz_nth mq_tab 20 = some mq_X1_holds) rfl rfl rfl rfl (Nat.le_of_ble_eq_true rfl) (Nat.le_of_ble_eq_true rfl) k9 ?_
        show mq_G mq_X9_tower (76, [some (.ref 0), some (.int x1), some (.int x2), some (.int x3)], [.int r9], M9) res
        refine mz_Go.steps (n := 1) (k2 := (if r9 = 0 then 91 else 79, [some (.ref 0), some (.int x1), some (.int x2), some (.int x3)], [], M9)) (P := []) rfl mz_o0 ?_
        refine mz_Go.ite (fun c76 => ?_) (fun c76 => ?_)
        · replace h := h.1 c76
          refine mz_Go.steps (n := 1) (k2 := (93, [some (.ref 0), some (.int x1), some (.int x2), some (.int x3)], [.int (-2)], M9)) (P := []) rfl mz_o0 ?_
          rw [h]
          exact mz_Go.iret (rfl : mz_find 93 (mz_rows mq_X9_tower) = some (93, .ireturn, 1, 0, 0, 0)) rfl
        · replace h := h.2 c76
          refine mz_Go.steps (n := 4) (k2 := (85, [some (.ref 0), some (.int x1), some (.int x2), some (.int x3)], [.ref 75, .int x1, .ref 0], M9)) (P := []) rfl mz_o0 ?_
          obtain ⟨r11, M11, k11, h⟩ := h
          refine mz_Go.callV (As := [.int x1, .ref 75]) (rest := []) (rfl : mz_find 85 (mz_rows mq_X9_tower) = some (85, .invokevirtual 206, 3, 127, 0, 106)) (rfl : mz_nth mq_tab 127 = some mq_X9_setsSlot) rfl rfl rfl rfl (Nat.le_of_ble_eq_true rfl) (Nat.le_of_ble_eq_true rfl) k11 ?_
          show mq_G mq_X9_tower (88, [some (.ref 0), some (.int x1), some (.int x2), some (.int x3)], [.int r11], M11) res
          refine mz_Go.steps (n := 1) (k2 := (93, [some (.ref 0), some (.int x1), some (.int x2), some (.int x3)], [.int r11], M11)) (P := []) rfl mz_o0 ?_
          rw [h]
          exact mz_Go.iret (rfl : mz_find 93 (mz_rows mq_X9_tower) = some (93, .ireturn, 1, 0, 0, 0)) rfl
      · replace h := h.2 c24
        refine mz_Go.steps (n := 1) (k2 := (28, [some (.ref 0), some (.int x1), some (.int x2), some (.int x3)], [.int (-1)], M)) (P := []) rfl mz_o0 ?_
        rw [h]
        exact mz_Go.iret (rfl : mz_find 28 (mz_rows mq_X9_tower) = some (28, .ireturn, 1, 0, 0, 0)) rfl
set_option maxRecDepth 100000 in
set_option maxHeartbeats 4000000 in
theorem t_X9_fits_0 (x1 : Int32) (M : mz_M) {res : mz_O} (h :
    (∃ (r1 : Int32), (mq_C mq_X4_degreeOf [.int x1] M (some (.int r1), M)) ∧
    (∃ (r2 : Int32), (mq_C mq_X0_hasSubfield [.ref 2, .int r1] M (some (.int r2), M)) ∧
    ((¬ r2 = 0 →
      (∃ (r4 : Int32), (mq_C mq_X4_isIrreducible [.int x1] M (some (.int r4), M)) ∧
      ((¬ r4 = 0 →
        (∃ (M6 : mz_M), (mq_C mq_X6_empties [.ref 73] M (none, M6)) ∧
        mq_G mq_X9_fits (37, [some (.ref 0), some (.int x1), some (.int 0), some (.int 0)], [], M6) res)) ∧
      (¬ (¬ r4 = 0) →
        res = (some (.int (-2)), M))))) ∧
    (¬ (¬ r2 = 0) →
      res = (some (.int (-1)), M)))))) :
    mq_G mq_X9_fits (0, [some (.ref 0), some (.int x1), none, none], [], M) res := by
  refine mz_Go.steps (n := 3) (k2 := (5, [some (.ref 0), some (.int x1), none, none], [.int x1, .ref 2], M)) (P := []) rfl mz_o0 ?_
  obtain ⟨r1, k1, h⟩ := h
  refine mz_Go.callS (As := [.int x1]) (rest := [.ref 2]) (rfl : mz_find 5 (mz_rows mq_X9_fits) = some (5, .invokestatic 100, 3, 37, 0, 67)) (rfl : mz_nth mq_tab 37 = some mq_X4_degreeOf) (by decide) rfl rfl rfl (Nat.le_of_ble_eq_true rfl) (Nat.le_of_ble_eq_true rfl) k1 ?_
  show mq_G mq_X9_fits (8, [some (.ref 0), some (.int x1), none, none], [.int r1, .ref 2], M) res
  obtain ⟨r2, k2, h⟩ := h
  refine mz_Go.callV (As := [.int r1]) (rest := []) (rfl : mz_find 8 (mz_rows mq_X9_fits) = some (8, .invokevirtual 137, 3, 11, 0, 83)) (rfl : mz_nth mq_tab 11 = some mq_X0_hasSubfield) rfl rfl rfl rfl (Nat.le_of_ble_eq_true rfl) (Nat.le_of_ble_eq_true rfl) k2 ?_
  show mq_G mq_X9_fits (11, [some (.ref 0), some (.int x1), none, none], [.int r2], M) res
  refine mz_Go.steps (n := 1) (k2 := (if ¬ r2 = 0 then 16 else 14, [some (.ref 0), some (.int x1), none, none], [], M)) (P := []) rfl mz_o0 ?_
  refine mz_Go.ite (fun c11 => ?_) (fun c11 => ?_)
  · replace h := h.1 c11
    refine mz_Go.steps (n := 1) (k2 := (17, [some (.ref 0), some (.int x1), none, none], [.int x1], M)) (P := []) rfl mz_o0 ?_
    obtain ⟨r4, k4, h⟩ := h
    refine mz_Go.callS (As := [.int x1]) (rest := []) (rfl : mz_find 17 (mz_rows mq_X9_fits) = some (17, .invokestatic 91, 3, 40, 0, 65)) (rfl : mz_nth mq_tab 40 = some mq_X4_isIrreducible) (by decide) rfl rfl rfl (Nat.le_of_ble_eq_true rfl) (Nat.le_of_ble_eq_true rfl) k4 ?_
    show mq_G mq_X9_fits (20, [some (.ref 0), some (.int x1), none, none], [.int r4], M) res
    refine mz_Go.steps (n := 1) (k2 := (if ¬ r4 = 0 then 26 else 23, [some (.ref 0), some (.int x1), none, none], [], M)) (P := []) rfl mz_o0 ?_
    refine mz_Go.ite (fun c20 => ?_) (fun c20 => ?_)
    · replace h := h.1 c20
      refine mz_Go.steps (n := 4) (k2 := (32, [some (.ref 0), some (.int x1), some (.int 0), none], [.ref 73], M)) (P := []) rfl mz_o0 ?_
      obtain ⟨M6, k6, h⟩ := h
      refine mz_Go.callV (As := []) (rest := []) (rfl : mz_find 32 (mz_rows mq_X9_fits) = some (32, .invokevirtual 120, 3, 44, 0, 76)) (rfl : mz_nth mq_tab 44 = some mq_X6_empties) rfl rfl rfl rfl (Nat.le_of_ble_eq_true rfl) (Nat.le_of_ble_eq_true rfl) k6 ?_
      show mq_G mq_X9_fits (35, [some (.ref 0), some (.int x1), some (.int 0), none], [], M6) res
      refine mz_Go.steps (n := 2) (k2 := (37, [some (.ref 0), some (.int x1), some (.int 0), some (.int 0)], [], M6)) (P := []) rfl mz_o0 ?_
      exact h
    · replace h := h.2 c20
      refine mz_Go.steps (n := 1) (k2 := (25, [some (.ref 0), some (.int x1), none, none], [.int (-2)], M)) (P := []) rfl mz_o0 ?_
      rw [h]
      exact mz_Go.iret (rfl : mz_find 25 (mz_rows mq_X9_fits) = some (25, .ireturn, 1, 0, 0, 0)) rfl
  · replace h := h.2 c11
    refine mz_Go.steps (n := 1) (k2 := (15, [some (.ref 0), some (.int x1), none, none], [.int (-1)], M)) (P := []) rfl mz_o0 ?_
    rw [h]
    exact mz_Go.iret (rfl : mz_find 15 (mz_rows mq_X9_fits) = some (15, .ireturn, 1, 0, 0, 0)) rfl
set_option maxRecDepth 100000 in
set_option maxHeartbeats 4000000 in
theorem t_X9_fits_37 (x1 : Int32) (x2 : Int32) (x3 : Int32) (M : mz_M) {res : mz_O} (h :
    (((M.1 2 2) ≤ x3 →
      res = (some (.int x2), M)) ∧
    (¬ ((M.1 2 2) ≤ x3) →
      (∃ (r2 : Int32), (mq_C mq_X0_valueAt [.ref 2, .int x1, .int x3] M (some (.int r2), M)) ∧
      ((¬ r2 = 0 →
        mq_G mq_X9_fits (37, [some (.ref 0), some (.int x1), some (.int x2), some (.int (x3 + 1))], [], M) res) ∧
      (¬ (¬ r2 = 0) →
        (∃ (M4 : mz_M), (mq_C mq_X6_puts [.ref 73, .long (x3.toInt64)] M (none, M4)) ∧
        mq_G mq_X9_fits (37, [some (.ref 0), some (.int x1), some (.int (x2 + 1)), some (.int (x3 + 1))], [], M4) res))))))) :
    mq_G mq_X9_fits (37, [some (.ref 0), some (.int x1), some (.int x2), some (.int x3)], [], M) res := by
  refine mz_Go.steps (n := 5) (k2 := (if (M.1 2 2) ≤ x3 then 78 else 48, [some (.ref 0), some (.int x1), some (.int x2), some (.int x3)], [], M)) (P := []) rfl mz_o0 ?_
  refine mz_Go.ite (fun c45 => ?_) (fun c45 => ?_)
  · replace h := h.1 c45
    refine mz_Go.steps (n := 1) (k2 := (79, [some (.ref 0), some (.int x1), some (.int x2), some (.int x3)], [.int x2], M)) (P := []) rfl mz_o0 ?_
    rw [h]
    exact mz_Go.iret (rfl : mz_find 79 (mz_rows mq_X9_fits) = some (79, .ireturn, 1, 0, 0, 0)) rfl
  · replace h := h.2 c45
    refine mz_Go.steps (n := 4) (k2 := (54, [some (.ref 0), some (.int x1), some (.int x2), some (.int x3)], [.int x3, .int x1, .ref 2], M)) (P := []) rfl mz_o0 ?_
    obtain ⟨r2, k2, h⟩ := h
    refine mz_Go.callV (As := [.int x1, .int x3]) (rest := []) (rfl : mz_find 54 (mz_rows mq_X9_fits) = some (54, .invokevirtual 259, 3, 15, 0, 122)) (rfl : mz_nth mq_tab 15 = some mq_X0_valueAt) rfl rfl rfl rfl (Nat.le_of_ble_eq_true rfl) (Nat.le_of_ble_eq_true rfl) k2 ?_
    show mq_G mq_X9_fits (57, [some (.ref 0), some (.int x1), some (.int x2), some (.int x3)], [.int r2], M) res
    refine mz_Go.steps (n := 1) (k2 := (if ¬ r2 = 0 then 72 else 60, [some (.ref 0), some (.int x1), some (.int x2), some (.int x3)], [], M)) (P := []) rfl mz_o0 ?_
    refine mz_Go.ite (fun c57 => ?_) (fun c57 => ?_)
    · replace h := h.1 c57
      refine mz_Go.steps (n := 2) (k2 := (37, [some (.ref 0), some (.int x1), some (.int x2), some (.int (x3 + 1))], [], M)) (P := []) rfl mz_o0 ?_
      exact h
    · replace h := h.2 c57
      refine mz_Go.steps (n := 4) (k2 := (66, [some (.ref 0), some (.int x1), some (.int x2), some (.int x3)], [.long (x3.toInt64), .ref 73], M)) (P := []) rfl mz_o0 ?_
      obtain ⟨M4, k4, h⟩ := h
      refine mz_Go.callV (As := [.long (x3.toInt64)]) (rest := []) (rfl : mz_find 66 (mz_rows mq_X9_fits) = some (66, .invokevirtual 124, 3, 45, 0, 78)) (rfl : mz_nth mq_tab 45 = some mq_X6_puts) rfl rfl rfl rfl (Nat.le_of_ble_eq_true rfl) (Nat.le_of_ble_eq_true rfl) k4 ?_
      show mq_G mq_X9_fits (69, [some (.ref 0), some (.int x1), some (.int x2), some (.int x3)], [], M4) res
      refine mz_Go.steps (n := 3) (k2 := (37, [some (.ref 0), some (.int x1), some (.int (x2 + 1)), some (.int (x3 + 1))], [], M4)) (P := []) rfl mz_o0 ?_
      exact h
set_option maxRecDepth 100000 in
set_option maxHeartbeats 4000000 in
theorem t_X9_maps_0 (x1 : Int32) (x2 : Int32) (x3 : Int32) (M : mz_M) {res : mz_O} (h :
    (∃ (r1 : Int32), (mq_C mq_X4_degreeOf [.int x1] M (some (.int r1), M)) ∧
    (∃ (r2 : Int32), (mq_C mq_X0_hasSubfield [.ref 2, .int r1] M (some (.int r2), M)) ∧
    ((r2 = 0 →
      res = (some (.int (-1)), M)) ∧
    (¬ (r2 = 0) →
      (∃ (r4 : Int32), (mq_C mq_X4_isIrreducible [.int x1] M (some (.int r4), M)) ∧
      ((¬ r4 = 0 →
        (∃ (r6 : Int32), (mq_C mq_X9_isElement [.ref 0, .int x2] M (some (.int r6), M)) ∧
        ((r6 = 0 →
          res = (some (.int (-1)), M)) ∧
        (¬ (r6 = 0) →
          ((x3 < 0 →
            res = (some (.int (-1)), M)) ∧
          (¬ (x3 < 0) →
            ((x3 < ((1 : Int32) <<< (r1 &&& 31)) →
              (∃ (r10 : Int32), (mq_C mq_X0_valueAt [.ref 2, .int x1, .int x2] M (some (.int r10), M)) ∧
              ((¬ r10 = 0 →
                res = (some (.int (-2)), M)) ∧
              (¬ (¬ r10 = 0) →
                (∃ (r12 : Int32), (mq_C mq_X0_valueAt [.ref 2, .int x3, .int x2] M (some (.int r12), M)) ∧
                res = (some (.int r12), M)))))) ∧
            (¬ (x3 < ((1 : Int32) <<< (r1 &&& 31))) →
              res = (some (.int (-1)), M))))))))) ∧
      (¬ (¬ r4 = 0) →
        res = (some (.int (-1)), M))))))))) :
    mq_G mq_X9_maps (0, [some (.ref 0), some (.int x1), some (.int x2), some (.int x3), none], [], M) res := by
  refine mz_Go.steps (n := 1) (k2 := (1, [some (.ref 0), some (.int x1), some (.int x2), some (.int x3), none], [.int x1], M)) (P := []) rfl mz_o0 ?_
  obtain ⟨r1, k1, h⟩ := h
  refine mz_Go.callS (As := [.int x1]) (rest := []) (rfl : mz_find 1 (mz_rows mq_X9_maps) = some (1, .invokestatic 100, 3, 37, 0, 67)) (rfl : mz_nth mq_tab 37 = some mq_X4_degreeOf) (by decide) rfl rfl rfl (Nat.le_of_ble_eq_true rfl) (Nat.le_of_ble_eq_true rfl) k1 ?_
  show mq_G mq_X9_maps (4, [some (.ref 0), some (.int x1), some (.int x2), some (.int x3), none], [.int r1], M) res
  refine mz_Go.steps (n := 4) (k2 := (12, [some (.ref 0), some (.int x1), some (.int x2), some (.int x3), some (.int r1)], [.int r1, .ref 2], M)) (P := []) rfl mz_o0 ?_
  obtain ⟨r2, k2, h⟩ := h
  refine mz_Go.callV (As := [.int r1]) (rest := []) (rfl : mz_find 12 (mz_rows mq_X9_maps) = some (12, .invokevirtual 137, 3, 11, 0, 83)) (rfl : mz_nth mq_tab 11 = some mq_X0_hasSubfield) rfl rfl rfl rfl (Nat.le_of_ble_eq_true rfl) (Nat.le_of_ble_eq_true rfl) k2 ?_
  show mq_G mq_X9_maps (15, [some (.ref 0), some (.int x1), some (.int x2), some (.int x3), some (.int r1)], [.int r2], M) res
  refine mz_Go.steps (n := 1) (k2 := (if r2 = 0 then 25 else 18, [some (.ref 0), some (.int x1), some (.int x2), some (.int x3), some (.int r1)], [], M)) (P := []) rfl mz_o0 ?_
  refine mz_Go.ite (fun c15 => ?_) (fun c15 => ?_)
  · replace h := h.1 c15
    refine mz_Go.steps (n := 1) (k2 := (26, [some (.ref 0), some (.int x1), some (.int x2), some (.int x3), some (.int r1)], [.int (-1)], M)) (P := []) rfl mz_o0 ?_
    rw [h]
    exact mz_Go.iret (rfl : mz_find 26 (mz_rows mq_X9_maps) = some (26, .ireturn, 1, 0, 0, 0)) rfl
  · replace h := h.2 c15
    refine mz_Go.steps (n := 1) (k2 := (19, [some (.ref 0), some (.int x1), some (.int x2), some (.int x3), some (.int r1)], [.int x1], M)) (P := []) rfl mz_o0 ?_
    obtain ⟨r4, k4, h⟩ := h
    refine mz_Go.callS (As := [.int x1]) (rest := []) (rfl : mz_find 19 (mz_rows mq_X9_maps) = some (19, .invokestatic 91, 3, 40, 0, 65)) (rfl : mz_nth mq_tab 40 = some mq_X4_isIrreducible) (by decide) rfl rfl rfl (Nat.le_of_ble_eq_true rfl) (Nat.le_of_ble_eq_true rfl) k4 ?_
    show mq_G mq_X9_maps (22, [some (.ref 0), some (.int x1), some (.int x2), some (.int x3), some (.int r1)], [.int r4], M) res
    refine mz_Go.steps (n := 1) (k2 := (if ¬ r4 = 0 then 27 else 25, [some (.ref 0), some (.int x1), some (.int x2), some (.int x3), some (.int r1)], [], M)) (P := []) rfl mz_o0 ?_
    refine mz_Go.ite (fun c22 => ?_) (fun c22 => ?_)
    · replace h := h.1 c22
      refine mz_Go.steps (n := 2) (k2 := (29, [some (.ref 0), some (.int x1), some (.int x2), some (.int x3), some (.int r1)], [.int x2, .ref 0], M)) (P := []) rfl mz_o0 ?_
      obtain ⟨r6, k6, h⟩ := h
      refine mz_Go.callV (As := [.int x2]) (rest := []) (rfl : mz_find 29 (mz_rows mq_X9_maps) = some (29, .invokevirtual 103, 3, 123, 0, 68)) (rfl : mz_nth mq_tab 123 = some mq_X9_isElement) rfl rfl rfl rfl (Nat.le_of_ble_eq_true rfl) (Nat.le_of_ble_eq_true rfl) k6 ?_
      show mq_G mq_X9_maps (32, [some (.ref 0), some (.int x1), some (.int x2), some (.int x3), some (.int r1)], [.int r6], M) res
      refine mz_Go.steps (n := 1) (k2 := (if r6 = 0 then 47 else 35, [some (.ref 0), some (.int x1), some (.int x2), some (.int x3), some (.int r1)], [], M)) (P := []) rfl mz_o0 ?_
      refine mz_Go.ite (fun c32 => ?_) (fun c32 => ?_)
      · replace h := h.1 c32
        refine mz_Go.steps (n := 1) (k2 := (48, [some (.ref 0), some (.int x1), some (.int x2), some (.int x3), some (.int r1)], [.int (-1)], M)) (P := []) rfl mz_o0 ?_
        rw [h]
        exact mz_Go.iret (rfl : mz_find 48 (mz_rows mq_X9_maps) = some (48, .ireturn, 1, 0, 0, 0)) rfl
      · replace h := h.2 c32
        refine mz_Go.steps (n := 2) (k2 := (if x3 < 0 then 47 else 39, [some (.ref 0), some (.int x1), some (.int x2), some (.int x3), some (.int r1)], [], M)) (P := []) rfl mz_o0 ?_
        refine mz_Go.ite (fun c36 => ?_) (fun c36 => ?_)
        · replace h := h.1 c36
          refine mz_Go.steps (n := 1) (k2 := (48, [some (.ref 0), some (.int x1), some (.int x2), some (.int x3), some (.int r1)], [.int (-1)], M)) (P := []) rfl mz_o0 ?_
          rw [h]
          exact mz_Go.iret (rfl : mz_find 48 (mz_rows mq_X9_maps) = some (48, .ireturn, 1, 0, 0, 0)) rfl
        · replace h := h.2 c36
          refine mz_Go.steps (n := 5) (k2 := (if x3 < ((1 : Int32) <<< (r1 &&& 31)) then 49 else 47, [some (.ref 0), some (.int x1), some (.int x2), some (.int x3), some (.int r1)], [], M)) (P := []) rfl mz_o0 ?_
          refine mz_Go.ite (fun c44 => ?_) (fun c44 => ?_)
          · replace h := h.1 c44
            refine mz_Go.steps (n := 4) (k2 := (55, [some (.ref 0), some (.int x1), some (.int x2), some (.int x3), some (.int r1)], [.int x2, .int x1, .ref 2], M)) (P := []) rfl mz_o0 ?_
            obtain ⟨r10, k10, h⟩ := h
            refine mz_Go.callV (As := [.int x1, .int x2]) (rest := []) (rfl : mz_find 55 (mz_rows mq_X9_maps) = some (55, .invokevirtual 259, 3, 15, 0, 122)) (rfl : mz_nth mq_tab 15 = some mq_X0_valueAt) rfl rfl rfl rfl (Nat.le_of_ble_eq_true rfl) (Nat.le_of_ble_eq_true rfl) k10 ?_
            show mq_G mq_X9_maps (58, [some (.ref 0), some (.int x1), some (.int x2), some (.int x3), some (.int r1)], [.int r10], M) res
            refine mz_Go.steps (n := 1) (k2 := (if ¬ r10 = 0 then 73 else 61, [some (.ref 0), some (.int x1), some (.int x2), some (.int x3), some (.int r1)], [], M)) (P := []) rfl mz_o0 ?_
            refine mz_Go.ite (fun c58 => ?_) (fun c58 => ?_)
            · replace h := h.1 c58
              refine mz_Go.steps (n := 1) (k2 := (75, [some (.ref 0), some (.int x1), some (.int x2), some (.int x3), some (.int r1)], [.int (-2)], M)) (P := []) rfl mz_o0 ?_
              rw [h]
              exact mz_Go.iret (rfl : mz_find 75 (mz_rows mq_X9_maps) = some (75, .ireturn, 1, 0, 0, 0)) rfl
            · replace h := h.2 c58
              refine mz_Go.steps (n := 4) (k2 := (67, [some (.ref 0), some (.int x1), some (.int x2), some (.int x3), some (.int r1)], [.int x2, .int x3, .ref 2], M)) (P := []) rfl mz_o0 ?_
              obtain ⟨r12, k12, h⟩ := h
              refine mz_Go.callV (As := [.int x3, .int x2]) (rest := []) (rfl : mz_find 67 (mz_rows mq_X9_maps) = some (67, .invokevirtual 259, 3, 15, 0, 122)) (rfl : mz_nth mq_tab 15 = some mq_X0_valueAt) rfl rfl rfl rfl (Nat.le_of_ble_eq_true rfl) (Nat.le_of_ble_eq_true rfl) k12 ?_
              show mq_G mq_X9_maps (70, [some (.ref 0), some (.int x1), some (.int x2), some (.int x3), some (.int r1)], [.int r12], M) res
              refine mz_Go.steps (n := 1) (k2 := (75, [some (.ref 0), some (.int x1), some (.int x2), some (.int x3), some (.int r1)], [.int r12], M)) (P := []) rfl mz_o0 ?_
              rw [h]
              exact mz_Go.iret (rfl : mz_find 75 (mz_rows mq_X9_maps) = some (75, .ireturn, 1, 0, 0, 0)) rfl
          · replace h := h.2 c44
            refine mz_Go.steps (n := 1) (k2 := (48, [some (.ref 0), some (.int x1), some (.int x2), some (.int x3), some (.int r1)], [.int (-1)], M)) (P := []) rfl mz_o0 ?_
            rw [h]
            exact mz_Go.iret (rfl : mz_find 48 (mz_rows mq_X9_maps) = some (48, .ireturn, 1, 0, 0, 0)) rfl
    · replace h := h.2 c22
      refine mz_Go.steps (n := 1) (k2 := (26, [some (.ref 0), some (.int x1), some (.int x2), some (.int x3), some (.int r1)], [.int (-1)], M)) (P := []) rfl mz_o0 ?_
      rw [h]
      exact mz_Go.iret (rfl : mz_find 26 (mz_rows mq_X9_maps) = some (26, .ireturn, 1, 0, 0, 0)) rfl
set_option maxRecDepth 100000 in
set_option maxHeartbeats 4000000 in
theorem t_X9_irreducibles_0 (x1 : Int32) (M : mz_M) {res : mz_O} (h :
    ((x1 < 1 →
      res = (some (.int (-1)), M)) ∧
    (¬ (x1 < 1) →
      ((x1 ≤ 8 →
        mq_G mq_X9_irreducibles (25, [some (.ref 0), some (.int x1), some (.int 0), some (.int (-1)), some (.int 0), some (.int ((1 : Int32) <<< (x1 &&& 31)))], [], M) res) ∧
      (¬ (x1 ≤ 8) →
        res = (some (.int (-1)), M)))))) :
    mq_G mq_X9_irreducibles (0, [some (.ref 0), some (.int x1), none, none, none, none], [], M) res := by
  refine mz_Go.steps (n := 3) (k2 := (if x1 < 1 then 11 else 5, [some (.ref 0), some (.int x1), none, none, none, none], [], M)) (P := []) rfl mz_o0 ?_
  refine mz_Go.ite (fun c2 => ?_) (fun c2 => ?_)
  · replace h := h.1 c2
    refine mz_Go.steps (n := 1) (k2 := (12, [some (.ref 0), some (.int x1), none, none, none, none], [.int (-1)], M)) (P := []) rfl mz_o0 ?_
    rw [h]
    exact mz_Go.iret (rfl : mz_find 12 (mz_rows mq_X9_irreducibles) = some (12, .ireturn, 1, 0, 0, 0)) rfl
  · replace h := h.2 c2
    refine mz_Go.steps (n := 3) (k2 := (if x1 ≤ 8 then 13 else 11, [some (.ref 0), some (.int x1), none, none, none, none], [], M)) (P := []) rfl mz_o0 ?_
    refine mz_Go.ite (fun c8 => ?_) (fun c8 => ?_)
    · replace h := h.1 c8
      refine mz_Go.steps (n := 10) (k2 := (25, [some (.ref 0), some (.int x1), some (.int 0), some (.int (-1)), some (.int 0), some (.int ((1 : Int32) <<< (x1 &&& 31)))], [], M)) (P := []) rfl mz_o0 ?_
      exact h
    · replace h := h.2 c8
      refine mz_Go.steps (n := 1) (k2 := (12, [some (.ref 0), some (.int x1), none, none, none, none], [.int (-1)], M)) (P := []) rfl mz_o0 ?_
      rw [h]
      exact mz_Go.iret (rfl : mz_find 12 (mz_rows mq_X9_irreducibles) = some (12, .ireturn, 1, 0, 0, 0)) rfl
set_option maxRecDepth 100000 in
set_option maxHeartbeats 4000000 in
theorem t_X9_irreducibles_25 (x1 : Int32) (x2 : Int32) (x3 : Int32) (x4 : Int32) (x5 : Int32) (M : mz_M) {res : mz_O} (h :
    ((((2 : Int32) <<< (x1 &&& 31)) ≤ x5 →
      (∃ (M2 : mz_M), (mq_C mq_X6_empties [.ref 73] M (none, M2)) ∧
      (∃ (M3 : mz_M), (mq_C mq_X6_puts [.ref 73, .long (x3.toInt64)] M2 (none, M3)) ∧
      (∃ (M4 : mz_M), (mq_C mq_X6_puts [.ref 73, .long (x4.toInt64)] M3 (none, M4)) ∧
      res = (some (.int x2), M4))))) ∧
    (¬ (((2 : Int32) <<< (x1 &&& 31)) ≤ x5) →
      (∃ (r5 : Int32), (mq_C mq_X4_isIrreducible [.int x5] M (some (.int r5), M)) ∧
      ((r5 = 0 →
        mq_G mq_X9_irreducibles (25, [some (.ref 0), some (.int x1), some (.int x2), some (.int x3), some (.int x4), some (.int (x5 + 1))], [], M) res) ∧
      (¬ (r5 = 0) →
        ((¬ x3 = (-1) →
          ((x1 ≤ 1 →
            mq_G mq_X9_irreducibles (25, [some (.ref 0), some (.int x1), some (.int (x2 + 1)), some (.int x3), some (.int (x4 + 0)), some (.int (x5 + 1))], [], M) res) ∧
          (¬ (x1 ≤ 1) →
            (∃ (r9 : Int32), (mq_C mq_X4_isGeneratedByX [.int x5] M (some (.int r9), M)) ∧
            ((r9 = 0 →
              mq_G mq_X9_irreducibles (25, [some (.ref 0), some (.int x1), some (.int (x2 + 1)), some (.int x3), some (.int (x4 + 0)), some (.int (x5 + 1))], [], M) res) ∧
            (¬ (r9 = 0) →
              mq_G mq_X9_irreducibles (25, [some (.ref 0), some (.int x1), some (.int (x2 + 1)), some (.int x3), some (.int (x4 + 1)), some (.int (x5 + 1))], [], M) res)))))) ∧
        (¬ (¬ x3 = (-1)) →
          ((x1 ≤ 1 →
            mq_G mq_X9_irreducibles (25, [some (.ref 0), some (.int x1), some (.int (x2 + 1)), some (.int x5), some (.int (x4 + 0)), some (.int (x5 + 1))], [], M) res) ∧
          (¬ (x1 ≤ 1) →
            (∃ (r12 : Int32), (mq_C mq_X4_isGeneratedByX [.int x5] M (some (.int r12), M)) ∧
            ((r12 = 0 →
              mq_G mq_X9_irreducibles (25, [some (.ref 0), some (.int x1), some (.int (x2 + 1)), some (.int x5), some (.int (x4 + 0)), some (.int (x5 + 1))], [], M) res) ∧
            (¬ (r12 = 0) →
              mq_G mq_X9_irreducibles (25, [some (.ref 0), some (.int x1), some (.int (x2 + 1)), some (.int x5), some (.int (x4 + 1)), some (.int (x5 + 1))], [], M) res))))))))))))) :
    mq_G mq_X9_irreducibles (25, [some (.ref 0), some (.int x1), some (.int x2), some (.int x3), some (.int x4), some (.int x5)], [], M) res := by
  refine mz_Go.steps (n := 5) (k2 := (if ((2 : Int32) <<< (x1 &&& 31)) ≤ x5 then 85 else 33, [some (.ref 0), some (.int x1), some (.int x2), some (.int x3), some (.int x4), some (.int x5)], [], M)) (P := []) rfl mz_o0 ?_
  refine mz_Go.ite (fun c30 => ?_) (fun c30 => ?_)
  · replace h := h.1 c30
    refine mz_Go.steps (n := 2) (k2 := (89, [some (.ref 0), some (.int x1), some (.int x2), some (.int x3), some (.int x4), some (.int x5)], [.ref 73], M)) (P := []) rfl mz_o0 ?_
    obtain ⟨M2, k2, h⟩ := h
    refine mz_Go.callV (As := []) (rest := []) (rfl : mz_find 89 (mz_rows mq_X9_irreducibles) = some (89, .invokevirtual 120, 3, 44, 0, 76)) (rfl : mz_nth mq_tab 44 = some mq_X6_empties) rfl rfl rfl rfl (Nat.le_of_ble_eq_true rfl) (Nat.le_of_ble_eq_true rfl) k2 ?_
    show mq_G mq_X9_irreducibles (92, [some (.ref 0), some (.int x1), some (.int x2), some (.int x3), some (.int x4), some (.int x5)], [], M2) res
    refine mz_Go.steps (n := 4) (k2 := (98, [some (.ref 0), some (.int x1), some (.int x2), some (.int x3), some (.int x4), some (.int x5)], [.long (x3.toInt64), .ref 73], M2)) (P := []) rfl mz_o0 ?_
    obtain ⟨M3, k3, h⟩ := h
    refine mz_Go.callV (As := [.long (x3.toInt64)]) (rest := []) (rfl : mz_find 98 (mz_rows mq_X9_irreducibles) = some (98, .invokevirtual 124, 3, 45, 0, 78)) (rfl : mz_nth mq_tab 45 = some mq_X6_puts) rfl rfl rfl rfl (Nat.le_of_ble_eq_true rfl) (Nat.le_of_ble_eq_true rfl) k3 ?_
    show mq_G mq_X9_irreducibles (101, [some (.ref 0), some (.int x1), some (.int x2), some (.int x3), some (.int x4), some (.int x5)], [], M3) res
    refine mz_Go.steps (n := 4) (k2 := (108, [some (.ref 0), some (.int x1), some (.int x2), some (.int x3), some (.int x4), some (.int x5)], [.long (x4.toInt64), .ref 73], M3)) (P := []) rfl mz_o0 ?_
    obtain ⟨M4, k4, h⟩ := h
    refine mz_Go.callV (As := [.long (x4.toInt64)]) (rest := []) (rfl : mz_find 108 (mz_rows mq_X9_irreducibles) = some (108, .invokevirtual 124, 3, 45, 0, 78)) (rfl : mz_nth mq_tab 45 = some mq_X6_puts) rfl rfl rfl rfl (Nat.le_of_ble_eq_true rfl) (Nat.le_of_ble_eq_true rfl) k4 ?_
    show mq_G mq_X9_irreducibles (111, [some (.ref 0), some (.int x1), some (.int x2), some (.int x3), some (.int x4), some (.int x5)], [], M4) res
    refine mz_Go.steps (n := 1) (k2 := (112, [some (.ref 0), some (.int x1), some (.int x2), some (.int x3), some (.int x4), some (.int x5)], [.int x2], M4)) (P := []) rfl mz_o0 ?_
    rw [h]
    exact mz_Go.iret (rfl : mz_find 112 (mz_rows mq_X9_irreducibles) = some (112, .ireturn, 1, 0, 0, 0)) rfl
  · replace h := h.2 c30
    refine mz_Go.steps (n := 1) (k2 := (35, [some (.ref 0), some (.int x1), some (.int x2), some (.int x3), some (.int x4), some (.int x5)], [.int x5], M)) (P := []) rfl mz_o0 ?_
    obtain ⟨r5, k5, h⟩ := h
    refine mz_Go.callS (As := [.int x5]) (rest := []) (rfl : mz_find 35 (mz_rows mq_X9_irreducibles) = some (35, .invokestatic 91, 3, 40, 0, 65)) (rfl : mz_nth mq_tab 40 = some mq_X4_isIrreducible) (by decide) rfl rfl rfl (Nat.le_of_ble_eq_true rfl) (Nat.le_of_ble_eq_true rfl) k5 ?_
    show mq_G mq_X9_irreducibles (38, [some (.ref 0), some (.int x1), some (.int x2), some (.int x3), some (.int x4), some (.int x5)], [.int r5], M) res
    refine mz_Go.steps (n := 1) (k2 := (if r5 = 0 then 79 else 41, [some (.ref 0), some (.int x1), some (.int x2), some (.int x3), some (.int x4), some (.int x5)], [], M)) (P := []) rfl mz_o0 ?_
    refine mz_Go.ite (fun c38 => ?_) (fun c38 => ?_)
    · replace h := h.1 c38
      refine mz_Go.steps (n := 2) (k2 := (25, [some (.ref 0), some (.int x1), some (.int x2), some (.int x3), some (.int x4), some (.int (x5 + 1))], [], M)) (P := []) rfl mz_o0 ?_
      exact h
    · replace h := h.2 c38
      refine mz_Go.steps (n := 4) (k2 := (if ¬ x3 = (-1) then 54 else 49, [some (.ref 0), some (.int x1), some (.int (x2 + 1)), some (.int x3), some (.int x4), some (.int x5)], [], M)) (P := []) rfl mz_o0 ?_
      refine mz_Go.ite (fun c46 => ?_) (fun c46 => ?_)
      · replace h := h.1 c46
        refine mz_Go.steps (n := 6) (k2 := (if x1 ≤ 1 then 75 else 63, [some (.ref 0), some (.int x1), some (.int (x2 + 1)), some (.int x3), some (.int x4), some (.int x5)], [.int x4], M)) (P := []) rfl mz_o0 ?_
        refine mz_Go.ite (fun c60 => ?_) (fun c60 => ?_)
        · replace h := h.1 c60
          refine mz_Go.steps (n := 5) (k2 := (25, [some (.ref 0), some (.int x1), some (.int (x2 + 1)), some (.int x3), some (.int (x4 + 0)), some (.int (x5 + 1))], [], M)) (P := []) rfl mz_o0 ?_
          exact h
        · replace h := h.2 c60
          refine mz_Go.steps (n := 1) (k2 := (65, [some (.ref 0), some (.int x1), some (.int (x2 + 1)), some (.int x3), some (.int x4), some (.int x5)], [.int x5, .int x4], M)) (P := []) rfl mz_o0 ?_
          obtain ⟨r9, k9, h⟩ := h
          refine mz_Go.callS (As := [.int x5]) (rest := [.int x4]) (rfl : mz_find 65 (mz_rows mq_X9_irreducibles) = some (65, .invokestatic 262, 3, 41, 0, 123)) (rfl : mz_nth mq_tab 41 = some mq_X4_isGeneratedByX) (by decide) rfl rfl rfl (Nat.le_of_ble_eq_true rfl) (Nat.le_of_ble_eq_true rfl) k9 ?_
          show mq_G mq_X9_irreducibles (68, [some (.ref 0), some (.int x1), some (.int (x2 + 1)), some (.int x3), some (.int x4), some (.int x5)], [.int r9, .int x4], M) res
          refine mz_Go.steps (n := 1) (k2 := (if r9 = 0 then 75 else 71, [some (.ref 0), some (.int x1), some (.int (x2 + 1)), some (.int x3), some (.int x4), some (.int x5)], [.int x4], M)) (P := []) rfl mz_o0 ?_
          refine mz_Go.ite (fun c68 => ?_) (fun c68 => ?_)
          · replace h := h.1 c68
            refine mz_Go.steps (n := 5) (k2 := (25, [some (.ref 0), some (.int x1), some (.int (x2 + 1)), some (.int x3), some (.int (x4 + 0)), some (.int (x5 + 1))], [], M)) (P := []) rfl mz_o0 ?_
            exact h
          · replace h := h.2 c68
            refine mz_Go.steps (n := 6) (k2 := (25, [some (.ref 0), some (.int x1), some (.int (x2 + 1)), some (.int x3), some (.int (x4 + 1)), some (.int (x5 + 1))], [], M)) (P := []) rfl mz_o0 ?_
            exact h
      · replace h := h.2 c46
        refine mz_Go.steps (n := 7) (k2 := (if x1 ≤ 1 then 75 else 63, [some (.ref 0), some (.int x1), some (.int (x2 + 1)), some (.int x5), some (.int x4), some (.int x5)], [.int x4], M)) (P := []) rfl mz_o0 ?_
        refine mz_Go.ite (fun c60 => ?_) (fun c60 => ?_)
        · replace h := h.1 c60
          refine mz_Go.steps (n := 5) (k2 := (25, [some (.ref 0), some (.int x1), some (.int (x2 + 1)), some (.int x5), some (.int (x4 + 0)), some (.int (x5 + 1))], [], M)) (P := []) rfl mz_o0 ?_
          exact h
        · replace h := h.2 c60
          refine mz_Go.steps (n := 1) (k2 := (65, [some (.ref 0), some (.int x1), some (.int (x2 + 1)), some (.int x5), some (.int x4), some (.int x5)], [.int x5, .int x4], M)) (P := []) rfl mz_o0 ?_
          obtain ⟨r12, k12, h⟩ := h
          refine mz_Go.callS (As := [.int x5]) (rest := [.int x4]) (rfl : mz_find 65 (mz_rows mq_X9_irreducibles) = some (65, .invokestatic 262, 3, 41, 0, 123)) (rfl : mz_nth mq_tab 41 = some mq_X4_isGeneratedByX) (by decide) rfl rfl rfl (Nat.le_of_ble_eq_true rfl) (Nat.le_of_ble_eq_true rfl) k12 ?_
          show mq_G mq_X9_irreducibles (68, [some (.ref 0), some (.int x1), some (.int (x2 + 1)), some (.int x5), some (.int x4), some (.int x5)], [.int r12, .int x4], M) res
          refine mz_Go.steps (n := 1) (k2 := (if r12 = 0 then 75 else 71, [some (.ref 0), some (.int x1), some (.int (x2 + 1)), some (.int x5), some (.int x4), some (.int x5)], [.int x4], M)) (P := []) rfl mz_o0 ?_
          refine mz_Go.ite (fun c68 => ?_) (fun c68 => ?_)
          · replace h := h.1 c68
            refine mz_Go.steps (n := 5) (k2 := (25, [some (.ref 0), some (.int x1), some (.int (x2 + 1)), some (.int x5), some (.int (x4 + 0)), some (.int (x5 + 1))], [], M)) (P := []) rfl mz_o0 ?_
            exact h
          · replace h := h.2 c68
            refine mz_Go.steps (n := 6) (k2 := (25, [some (.ref 0), some (.int x1), some (.int (x2 + 1)), some (.int x5), some (.int (x4 + 1)), some (.int (x5 + 1))], [], M)) (P := []) rfl mz_o0 ?_
            exact h
set_option maxRecDepth 100000 in
set_option maxHeartbeats 4000000 in
theorem t_X9_undo_0 (M : mz_M) {res : mz_O} (h :
    (∃ (r1 : Int32) (M1 : mz_M), (mq_C mq_X3_restores [.ref 20, .ref 8] M (some (.int r1), M1)) ∧
    ((¬ r1 = 0 →
      (∃ (M3 : mz_M), (mq_C mq_X9_followsState [.ref 0] M1 (none, M3)) ∧
      res = (some (.int (M3.1 20 2)), M3))) ∧
    (¬ (¬ r1 = 0) →
      res = (some (.int (-2)), M1))))) :
    mq_G mq_X9_undo (0, [some (.ref 0)], [], M) res := by
  refine mz_Go.steps (n := 4) (k2 := (8, [some (.ref 0)], [.ref 8, .ref 20], M)) (P := []) rfl mz_o0 ?_
  obtain ⟨r1, M1, k1, h⟩ := h
  refine mz_Go.callV (As := [.ref 8]) (rest := []) (rfl : mz_find 8 (mz_rows mq_X9_undo) = some (8, .invokevirtual 265, 3, 36, 0, 125)) (rfl : mz_nth mq_tab 36 = some mq_X3_restores) rfl rfl rfl rfl (Nat.le_of_ble_eq_true rfl) (Nat.le_of_ble_eq_true rfl) k1 ?_
  show mq_G mq_X9_undo (11, [some (.ref 0)], [.int r1], M1) res
  refine mz_Go.steps (n := 1) (k2 := (if ¬ r1 = 0 then 17 else 14, [some (.ref 0)], [], M1)) (P := []) rfl mz_o0 ?_
  refine mz_Go.ite (fun c11 => ?_) (fun c11 => ?_)
  · replace h := h.1 c11
    refine mz_Go.steps (n := 1) (k2 := (18, [some (.ref 0)], [.ref 0], M1)) (P := []) rfl mz_o0 ?_
    obtain ⟨M3, k3, h⟩ := h
    refine mz_Go.callV (As := []) (rest := []) (rfl : mz_find 18 (mz_rows mq_X9_undo) = some (18, .invokevirtual 269, 3, 128, 0, 126)) (rfl : mz_nth mq_tab 128 = some mq_X9_followsState) rfl rfl rfl rfl (Nat.le_of_ble_eq_true rfl) (Nat.le_of_ble_eq_true rfl) k3 ?_
    show mq_G mq_X9_undo (21, [some (.ref 0)], [], M3) res
    refine mz_Go.steps (n := 3) (k2 := (28, [some (.ref 0)], [.int (M3.1 20 2)], M3)) (P := []) rfl mz_o0 ?_
    rw [h]
    exact mz_Go.iret (rfl : mz_find 28 (mz_rows mq_X9_undo) = some (28, .ireturn, 1, 0, 0, 0)) rfl
  · replace h := h.2 c11
    refine mz_Go.steps (n := 1) (k2 := (16, [some (.ref 0)], [.int (-2)], M1)) (P := []) rfl mz_o0 ?_
    rw [h]
    exact mz_Go.iret (rfl : mz_find 16 (mz_rows mq_X9_undo) = some (16, .ireturn, 1, 0, 0, 0)) rfl
set_option maxRecDepth 100000 in
set_option maxHeartbeats 4000000 in
theorem t_X9_keeps_0 (M : mz_M) {res : mz_O} (h :
    (∃ (M1 : mz_M), (mq_C mq_X7_becomes [.ref 14, .ref 8] M (none, M1)) ∧
    ((1 : Int32) = 0 ∨ (1 : Int32) = 1) ∧
    (∀ M2 : mz_M, M2 = mz_wr M1 0 (upd (M1.1 0) 10 1) →
    res = (some (.int (M2.1 2 1)), M2)))) :
    mq_G mq_X9_keeps (0, [some (.ref 0)], [], M) res := by
  refine mz_Go.steps (n := 4) (k2 := (8, [some (.ref 0)], [.ref 8, .ref 14], M)) (P := []) rfl mz_o0 ?_
  obtain ⟨M1, k1, h⟩ := h
  refine mz_Go.callV (As := [.ref 8]) (rest := []) (rfl : mz_find 8 (mz_rows mq_X9_keeps) = some (8, .invokevirtual 275, 3, 48, 0, 129)) (rfl : mz_nth mq_tab 48 = some mq_X7_becomes) rfl rfl rfl rfl (Nat.le_of_ble_eq_true rfl) (Nat.le_of_ble_eq_true rfl) k1 ?_
  show mq_G mq_X9_keeps (11, [some (.ref 0)], [], M1) res
  obtain ⟨q3, h⟩ := h
  obtain ⟨M2, e2⟩ : ∃ y, y = mz_wr M1 0 (upd (M1.1 0) 10 1) := ⟨_, rfl⟩
  replace h := h M2 e2
  refine mz_Go.steps (n := 3) (k2 := (16, [some (.ref 0)], [], (mz_wr M1 0 (upd (M1.1 0) 10 1)))) (P := [(1 : Int32) = 0 ∨ (1 : Int32) = 1]) rfl (mz_o1 q3) ?_
  rw [← e2]
  refine mz_Go.steps (n := 3) (k2 := (23, [some (.ref 0)], [.int (M2.1 2 1)], M2)) (P := []) rfl mz_o0 ?_
  rw [h]
  exact mz_Go.iret (rfl : mz_find 23 (mz_rows mq_X9_keeps) = some (23, .ireturn, 1, 0, 0, 0)) rfl
set_option maxRecDepth 100000 in
set_option maxHeartbeats 4000000 in
theorem t_X9_back_0 (M : mz_M) {res : mz_O} (h :
    ((¬ (M.1 0 10) = 0 →
      (∃ (M2 : mz_M), (mq_C mq_X3_remembers [.ref 20, .ref 8] M (none, M2)) ∧
      (∃ (M3 : mz_M), (mq_C mq_X7_becomes [.ref 8, .ref 14] M2 (none, M3)) ∧
      (∃ (M4 : mz_M), (mq_C mq_X9_followsState [.ref 0] M3 (none, M4)) ∧
      res = (some (.int (M4.1 2 1)), M4))))) ∧
    (¬ (¬ (M.1 0 10) = 0) →
      res = (some (.int (-2)), M)))) :
    mq_G mq_X9_back (0, [some (.ref 0)], [], M) res := by
  refine mz_Go.steps (n := 3) (k2 := (if ¬ (M.1 0 10) = 0 then 10 else 7, [some (.ref 0)], [], M)) (P := []) rfl mz_o0 ?_
  refine mz_Go.ite (fun c4 => ?_) (fun c4 => ?_)
  · replace h := h.1 c4
    refine mz_Go.steps (n := 4) (k2 := (18, [some (.ref 0)], [.ref 8, .ref 20], M)) (P := []) rfl mz_o0 ?_
    obtain ⟨M2, k2, h⟩ := h
    refine mz_Go.callV (As := [.ref 8]) (rest := []) (rfl : mz_find 18 (mz_rows mq_X9_back) = some (18, .invokevirtual 283, 3, 35, 0, 131)) (rfl : mz_nth mq_tab 35 = some mq_X3_remembers) rfl rfl rfl rfl (Nat.le_of_ble_eq_true rfl) (Nat.le_of_ble_eq_true rfl) k2 ?_
    show mq_G mq_X9_back (21, [some (.ref 0)], [], M2) res
    refine mz_Go.steps (n := 4) (k2 := (29, [some (.ref 0)], [.ref 14, .ref 8], M2)) (P := []) rfl mz_o0 ?_
    obtain ⟨M3, k3, h⟩ := h
    refine mz_Go.callV (As := [.ref 14]) (rest := []) (rfl : mz_find 29 (mz_rows mq_X9_back) = some (29, .invokevirtual 275, 3, 48, 0, 129)) (rfl : mz_nth mq_tab 48 = some mq_X7_becomes) rfl rfl rfl rfl (Nat.le_of_ble_eq_true rfl) (Nat.le_of_ble_eq_true rfl) k3 ?_
    show mq_G mq_X9_back (32, [some (.ref 0)], [], M3) res
    refine mz_Go.steps (n := 1) (k2 := (33, [some (.ref 0)], [.ref 0], M3)) (P := []) rfl mz_o0 ?_
    obtain ⟨M4, k4, h⟩ := h
    refine mz_Go.callV (As := []) (rest := []) (rfl : mz_find 33 (mz_rows mq_X9_back) = some (33, .invokevirtual 269, 3, 128, 0, 126)) (rfl : mz_nth mq_tab 128 = some mq_X9_followsState) rfl rfl rfl rfl (Nat.le_of_ble_eq_true rfl) (Nat.le_of_ble_eq_true rfl) k4 ?_
    show mq_G mq_X9_back (36, [some (.ref 0)], [], M4) res
    refine mz_Go.steps (n := 3) (k2 := (43, [some (.ref 0)], [.int (M4.1 2 1)], M4)) (P := []) rfl mz_o0 ?_
    rw [h]
    exact mz_Go.iret (rfl : mz_find 43 (mz_rows mq_X9_back) = some (43, .ireturn, 1, 0, 0, 0)) rfl
  · replace h := h.2 c4
    refine mz_Go.steps (n := 1) (k2 := (9, [some (.ref 0)], [.int (-2)], M)) (P := []) rfl mz_o0 ?_
    rw [h]
    exact mz_Go.iret (rfl : mz_find 9 (mz_rows mq_X9_back) = some (9, .ireturn, 1, 0, 0, 0)) rfl
set_option maxRecDepth 100000 in
set_option maxHeartbeats 4000000 in
theorem t_X9_written_0 (x1 : Int32) (M : mz_M) {res : mz_O} (h :
    (∃ (r1 : Int32) (M1 : mz_M), (mq_C mq_X8_signOf [.ref 70, .int (M.1 8 0), .int x1] M (some (.int r1), M1)) ∧
    res = (some (.int r1), M1))) :
    mq_G mq_X9_written (0, [some (.ref 0), some (.int x1)], [], M) res := by
  refine mz_Go.steps (n := 6) (k2 := (12, [some (.ref 0), some (.int x1)], [.int x1, .int (M.1 8 0), .ref 70], M)) (P := []) rfl mz_o0 ?_
  obtain ⟨r1, M1, k1, h⟩ := h
  refine mz_Go.callV (As := [.int (M.1 8 0), .int x1]) (rest := []) (rfl : mz_find 12 (mz_rows mq_X9_written) = some (12, .invokevirtual 289, 3, 61, 0, 133)) (rfl : mz_nth mq_tab 61 = some mq_X8_signOf) rfl rfl rfl rfl (Nat.le_of_ble_eq_true rfl) (Nat.le_of_ble_eq_true rfl) k1 ?_
  show mq_G mq_X9_written (15, [some (.ref 0), some (.int x1)], [.int r1], M1) res
  rw [h]
  exact mz_Go.iret (rfl : mz_find 15 (mz_rows mq_X9_written) = some (15, .ireturn, 1, 0, 0, 0)) rfl
set_option maxRecDepth 100000 in
set_option maxHeartbeats 4000000 in
theorem t_X9_count_0 (x1 : Int32) (M : mz_M) {res : mz_O} (h :
    ((x1.toInt < 0 ∨ 6 < x1.toInt →
      res = (some (.int (-1)), M)) ∧
    (x1.toInt = 0 →
      res = (some (.int (M.1 2 1)), M)) ∧
    (x1.toInt = 1 →
      res = (some (.int (M.1 8 0)), M)) ∧
    (x1.toInt = 2 →
      res = (some (.int (M.1 20 2)), M)) ∧
    (x1.toInt = 3 →
      res = (some (.int (M.1 73 1)), M)) ∧
    (x1.toInt = 4 →
      res = (some (.int (M.1 70 2)), M)) ∧
    (x1.toInt = 5 →
      (∃ (r1 : Int32), (mq_C mq_X9_normalSlots [.ref 0] M (some (.int r1), M)) ∧
      res = (some (.int r1), M))) ∧
    (x1.toInt = 6 →
      (∃ (r2 : Int32), (mq_C mq_X9_plainSlots [.ref 0] M (some (.int r2), M)) ∧
      res = (some (.int r2), M))))) :
    mq_G mq_X9_count (0, [some (.ref 0), some (.int x1)], [], M) res := by
  refine mz_Go.steps (n := 2) (k2 := (if x1.toInt < 0 ∨ 6 < x1.toInt then 94 else ((1 : Int) + (#[43, 51, 59, 67, 75, 83, 88] : Array Int).getD (x1.toInt - 0).toNat 0).toNat, [some (.ref 0), some (.int x1)], [], M)) (P := []) rfl mz_o0 ?_
  refine mz_Go.tsw (fun cd => ?_) (fun kk hk hx => ?_)
  · replace h := h.1 cd
    refine mz_Go.steps (n := 1) (k2 := (95, [some (.ref 0), some (.int x1)], [.int (-1)], M)) (P := []) rfl mz_o0 ?_
    rw [h]
    exact mz_Go.iret (rfl : mz_find 95 (mz_rows mq_X9_count) = some (95, .ireturn, 1, 0, 0, 0)) rfl
  · replace h := h.2
    match kk, hk, hx with
    | 0, hk, hx =>
      replace h := h.1 (by rw [hx]; rfl)
      show mq_G mq_X9_count (44, [some (.ref 0), some (.int x1)], [], M) res
      refine mz_Go.steps (n := 3) (k2 := (51, [some (.ref 0), some (.int x1)], [.int (M.1 2 1)], M)) (P := []) rfl mz_o0 ?_
      rw [h]
      exact mz_Go.iret (rfl : mz_find 51 (mz_rows mq_X9_count) = some (51, .ireturn, 1, 0, 0, 0)) rfl
    | 1, hk, hx =>
      replace h := h.2.1 (by rw [hx]; rfl)
      show mq_G mq_X9_count (52, [some (.ref 0), some (.int x1)], [], M) res
      refine mz_Go.steps (n := 3) (k2 := (59, [some (.ref 0), some (.int x1)], [.int (M.1 8 0)], M)) (P := []) rfl mz_o0 ?_
      rw [h]
      exact mz_Go.iret (rfl : mz_find 59 (mz_rows mq_X9_count) = some (59, .ireturn, 1, 0, 0, 0)) rfl
    | 2, hk, hx =>
      replace h := h.2.2.1 (by rw [hx]; rfl)
      show mq_G mq_X9_count (60, [some (.ref 0), some (.int x1)], [], M) res
      refine mz_Go.steps (n := 3) (k2 := (67, [some (.ref 0), some (.int x1)], [.int (M.1 20 2)], M)) (P := []) rfl mz_o0 ?_
      rw [h]
      exact mz_Go.iret (rfl : mz_find 67 (mz_rows mq_X9_count) = some (67, .ireturn, 1, 0, 0, 0)) rfl
    | 3, hk, hx =>
      replace h := h.2.2.2.1 (by rw [hx]; rfl)
      show mq_G mq_X9_count (68, [some (.ref 0), some (.int x1)], [], M) res
      refine mz_Go.steps (n := 3) (k2 := (75, [some (.ref 0), some (.int x1)], [.int (M.1 73 1)], M)) (P := []) rfl mz_o0 ?_
      rw [h]
      exact mz_Go.iret (rfl : mz_find 75 (mz_rows mq_X9_count) = some (75, .ireturn, 1, 0, 0, 0)) rfl
    | 4, hk, hx =>
      replace h := h.2.2.2.2.1 (by rw [hx]; rfl)
      show mq_G mq_X9_count (76, [some (.ref 0), some (.int x1)], [], M) res
      refine mz_Go.steps (n := 3) (k2 := (83, [some (.ref 0), some (.int x1)], [.int (M.1 70 2)], M)) (P := []) rfl mz_o0 ?_
      rw [h]
      exact mz_Go.iret (rfl : mz_find 83 (mz_rows mq_X9_count) = some (83, .ireturn, 1, 0, 0, 0)) rfl
    | 5, hk, hx =>
      replace h := h.2.2.2.2.2.1 (by rw [hx]; rfl)
      show mq_G mq_X9_count (84, [some (.ref 0), some (.int x1)], [], M) res
      refine mz_Go.steps (n := 1) (k2 := (85, [some (.ref 0), some (.int x1)], [.ref 0], M)) (P := []) rfl mz_o0 ?_
      obtain ⟨r1, k1, h⟩ := h
      refine mz_Go.callV (As := []) (rest := []) (rfl : mz_find 85 (mz_rows mq_X9_count) = some (85, .invokevirtual 293, 3, 130, 0, 135)) (rfl : mz_nth mq_tab 130 = some mq_X9_normalSlots) rfl rfl rfl rfl (Nat.le_of_ble_eq_true rfl) (Nat.le_of_ble_eq_true rfl) k1 ?_
      show mq_G mq_X9_count (88, [some (.ref 0), some (.int x1)], [.int r1], M) res
      rw [h]
      exact mz_Go.iret (rfl : mz_find 88 (mz_rows mq_X9_count) = some (88, .ireturn, 1, 0, 0, 0)) rfl
    | 6, hk, hx =>
      replace h := h.2.2.2.2.2.2 (by rw [hx]; rfl)
      show mq_G mq_X9_count (89, [some (.ref 0), some (.int x1)], [], M) res
      refine mz_Go.steps (n := 1) (k2 := (90, [some (.ref 0), some (.int x1)], [.ref 0], M)) (P := []) rfl mz_o0 ?_
      obtain ⟨r2, k2, h⟩ := h
      refine mz_Go.callV (As := []) (rest := []) (rfl : mz_find 90 (mz_rows mq_X9_count) = some (90, .invokevirtual 296, 3, 131, 0, 136)) (rfl : mz_nth mq_tab 131 = some mq_X9_plainSlots) rfl rfl rfl rfl (Nat.le_of_ble_eq_true rfl) (Nat.le_of_ble_eq_true rfl) k2 ?_
      show mq_G mq_X9_count (93, [some (.ref 0), some (.int x1)], [.int r2], M) res
      rw [h]
      exact mz_Go.iret (rfl : mz_find 93 (mz_rows mq_X9_count) = some (93, .ireturn, 1, 0, 0, 0)) rfl
    | kk + 7, hk, hx => exact absurd hk (by omega)
set_option maxRecDepth 100000 in
set_option maxHeartbeats 4000000 in
theorem t_X9_isElement_0 (x1 : Int32) (M : mz_M) {res : mz_O} (h :
    ((x1 < 0 →
      res = (some (.int 0), M)) ∧
    (¬ (x1 < 0) →
      (((M.1 2 2) ≤ x1 →
        res = (some (.int 0), M)) ∧
      (¬ ((M.1 2 2) ≤ x1) →
        res = (some (.int 1), M)))))) :
    mq_G mq_X9_isElement (0, [some (.ref 0), some (.int x1)], [], M) res := by
  refine mz_Go.steps (n := 2) (k2 := (if x1 < 0 then 19 else 4, [some (.ref 0), some (.int x1)], [], M)) (P := []) rfl mz_o0 ?_
  refine mz_Go.ite (fun c1 => ?_) (fun c1 => ?_)
  · replace h := h.1 c1
    refine mz_Go.steps (n := 1) (k2 := (20, [some (.ref 0), some (.int x1)], [.int 0], M)) (P := []) rfl mz_o0 ?_
    rw [h]
    exact mz_Go.zret (rfl : mz_find 20 (mz_rows mq_X9_isElement) = some (20, .ireturn, 1, 0, 0, 0)) rfl (Or.inl rfl)
  · replace h := h.2 c1
    refine mz_Go.steps (n := 5) (k2 := (if (M.1 2 2) ≤ x1 then 19 else 15, [some (.ref 0), some (.int x1)], [], M)) (P := []) rfl mz_o0 ?_
    refine mz_Go.ite (fun c12 => ?_) (fun c12 => ?_)
    · replace h := h.1 c12
      refine mz_Go.steps (n := 1) (k2 := (20, [some (.ref 0), some (.int x1)], [.int 0], M)) (P := []) rfl mz_o0 ?_
      rw [h]
      exact mz_Go.zret (rfl : mz_find 20 (mz_rows mq_X9_isElement) = some (20, .ireturn, 1, 0, 0, 0)) rfl (Or.inl rfl)
    · replace h := h.2 c12
      refine mz_Go.steps (n := 2) (k2 := (20, [some (.ref 0), some (.int x1)], [.int 1], M)) (P := []) rfl mz_o0 ?_
      rw [h]
      exact mz_Go.zret (rfl : mz_find 20 (mz_rows mq_X9_isElement) = some (20, .ireturn, 1, 0, 0, 0)) rfl (Or.inr rfl)
set_option maxRecDepth 100000 in
set_option maxHeartbeats 4000000 in
theorem t_X9_isSlot_0 (x1 : Int32) (M : mz_M) {res : mz_O} (h :
    ((x1 < 0 →
      res = (some (.int 0), M)) ∧
    (¬ (x1 < 0) →
      ((4 ≤ x1 →
        res = (some (.int 0), M)) ∧
      (¬ (4 ≤ x1) →
        res = (some (.int 1), M)))))) :
    mq_G mq_X9_isSlot (0, [some (.ref 0), some (.int x1)], [], M) res := by
  refine mz_Go.steps (n := 2) (k2 := (if x1 < 0 then 13 else 4, [some (.ref 0), some (.int x1)], [], M)) (P := []) rfl mz_o0 ?_
  refine mz_Go.ite (fun c1 => ?_) (fun c1 => ?_)
  · replace h := h.1 c1
    refine mz_Go.steps (n := 1) (k2 := (14, [some (.ref 0), some (.int x1)], [.int 0], M)) (P := []) rfl mz_o0 ?_
    rw [h]
    exact mz_Go.zret (rfl : mz_find 14 (mz_rows mq_X9_isSlot) = some (14, .ireturn, 1, 0, 0, 0)) rfl (Or.inl rfl)
  · replace h := h.2 c1
    refine mz_Go.steps (n := 3) (k2 := (if 4 ≤ x1 then 13 else 9, [some (.ref 0), some (.int x1)], [], M)) (P := []) rfl mz_o0 ?_
    refine mz_Go.ite (fun c6 => ?_) (fun c6 => ?_)
    · replace h := h.1 c6
      refine mz_Go.steps (n := 1) (k2 := (14, [some (.ref 0), some (.int x1)], [.int 0], M)) (P := []) rfl mz_o0 ?_
      rw [h]
      exact mz_Go.zret (rfl : mz_find 14 (mz_rows mq_X9_isSlot) = some (14, .ireturn, 1, 0, 0, 0)) rfl (Or.inl rfl)
    · replace h := h.2 c6
      refine mz_Go.steps (n := 2) (k2 := (14, [some (.ref 0), some (.int x1)], [.int 1], M)) (P := []) rfl mz_o0 ?_
      rw [h]
      exact mz_Go.zret (rfl : mz_find 14 (mz_rows mq_X9_isSlot) = some (14, .ireturn, 1, 0, 0, 0)) rfl (Or.inr rfl)
set_option maxRecDepth 100000 in
set_option maxHeartbeats 4000000 in
theorem t_X9_isPlace_0 (x1 : Int32) (M : mz_M) {res : mz_O} (h :
    ((x1 < 0 →
      res = (some (.int 0), M)) ∧
    (¬ (x1 < 0) →
      (((M.1 2 1) ≤ x1 →
        res = (some (.int 0), M)) ∧
      (¬ ((M.1 2 1) ≤ x1) →
        res = (some (.int 1), M)))))) :
    mq_G mq_X9_isPlace (0, [some (.ref 0), some (.int x1)], [], M) res := by
  refine mz_Go.steps (n := 2) (k2 := (if x1 < 0 then 19 else 4, [some (.ref 0), some (.int x1)], [], M)) (P := []) rfl mz_o0 ?_
  refine mz_Go.ite (fun c1 => ?_) (fun c1 => ?_)
  · replace h := h.1 c1
    refine mz_Go.steps (n := 1) (k2 := (20, [some (.ref 0), some (.int x1)], [.int 0], M)) (P := []) rfl mz_o0 ?_
    rw [h]
    exact mz_Go.zret (rfl : mz_find 20 (mz_rows mq_X9_isPlace) = some (20, .ireturn, 1, 0, 0, 0)) rfl (Or.inl rfl)
  · replace h := h.2 c1
    refine mz_Go.steps (n := 5) (k2 := (if (M.1 2 1) ≤ x1 then 19 else 15, [some (.ref 0), some (.int x1)], [], M)) (P := []) rfl mz_o0 ?_
    refine mz_Go.ite (fun c12 => ?_) (fun c12 => ?_)
    · replace h := h.1 c12
      refine mz_Go.steps (n := 1) (k2 := (20, [some (.ref 0), some (.int x1)], [.int 0], M)) (P := []) rfl mz_o0 ?_
      rw [h]
      exact mz_Go.zret (rfl : mz_find 20 (mz_rows mq_X9_isPlace) = some (20, .ireturn, 1, 0, 0, 0)) rfl (Or.inl rfl)
    · replace h := h.2 c12
      refine mz_Go.steps (n := 2) (k2 := (20, [some (.ref 0), some (.int x1)], [.int 1], M)) (P := []) rfl mz_o0 ?_
      rw [h]
      exact mz_Go.zret (rfl : mz_find 20 (mz_rows mq_X9_isPlace) = some (20, .ireturn, 1, 0, 0, 0)) rfl (Or.inr rfl)
set_option maxRecDepth 100000 in
set_option maxHeartbeats 4000000 in
theorem t_X9_tellsField_0 (x1 : Int32) (M : mz_M) {res : mz_O} (h :
    (∃ (M1 : mz_M), (mq_C mq_X3_remembers [.ref 20, .ref 8] M (none, M1)) ∧
    (∃ (M2 : mz_M), (mq_C mq_X7_start [.ref 8, .int x1] M1 (none, M2)) ∧
    (∃ (M3 : mz_M), (mq_C mq_X0_settle [.ref 2, .int x1] M2 (none, M3)) ∧
    res = (some (.int (M3.1 2 1)), M3))))) :
    mq_G mq_X9_tellsField (0, [some (.ref 0), some (.int x1)], [], M) res := by
  refine mz_Go.steps (n := 4) (k2 := (8, [some (.ref 0), some (.int x1)], [.ref 8, .ref 20], M)) (P := []) rfl mz_o0 ?_
  obtain ⟨M1, k1, h⟩ := h
  refine mz_Go.callV (As := [.ref 8]) (rest := []) (rfl : mz_find 8 (mz_rows mq_X9_tellsField) = some (8, .invokevirtual 283, 3, 35, 0, 131)) (rfl : mz_nth mq_tab 35 = some mq_X3_remembers) rfl rfl rfl rfl (Nat.le_of_ble_eq_true rfl) (Nat.le_of_ble_eq_true rfl) k1 ?_
  show mq_G mq_X9_tellsField (11, [some (.ref 0), some (.int x1)], [], M1) res
  refine mz_Go.steps (n := 3) (k2 := (16, [some (.ref 0), some (.int x1)], [.int x1, .ref 8], M1)) (P := []) rfl mz_o0 ?_
  obtain ⟨M2, k2, h⟩ := h
  refine mz_Go.callV (As := [.int x1]) (rest := []) (rfl : mz_find 16 (mz_rows mq_X9_tellsField) = some (16, .invokevirtual 70, 3, 47, 0, 137)) (rfl : mz_nth mq_tab 47 = some mq_X7_start) rfl rfl rfl rfl (Nat.le_of_ble_eq_true rfl) (Nat.le_of_ble_eq_true rfl) k2 ?_
  show mq_G mq_X9_tellsField (19, [some (.ref 0), some (.int x1)], [], M2) res
  refine mz_Go.steps (n := 3) (k2 := (24, [some (.ref 0), some (.int x1)], [.int x1, .ref 2], M2)) (P := []) rfl mz_o0 ?_
  obtain ⟨M3, k3, h⟩ := h
  refine mz_Go.callV (As := [.int x1]) (rest := []) (rfl : mz_find 24 (mz_rows mq_X9_tellsField) = some (24, .invokevirtual 64, 3, 0, 0, 138)) (rfl : mz_nth mq_tab 0 = some mq_X0_settle) rfl rfl rfl rfl (Nat.le_of_ble_eq_true rfl) (Nat.le_of_ble_eq_true rfl) k3 ?_
  show mq_G mq_X9_tellsField (27, [some (.ref 0), some (.int x1)], [], M3) res
  refine mz_Go.steps (n := 3) (k2 := (34, [some (.ref 0), some (.int x1)], [.int (M3.1 2 1)], M3)) (P := []) rfl mz_o0 ?_
  rw [h]
  exact mz_Go.iret (rfl : mz_find 34 (mz_rows mq_X9_tellsField) = some (34, .ireturn, 1, 0, 0, 0)) rfl
set_option maxRecDepth 100000 in
set_option maxHeartbeats 4000000 in
theorem t_X9_setsSlot_0 (x1 : Int32) (b2 : Nat) (M : mz_M) {res : mz_O} (h :
    (∃ (M1 : mz_M), (mq_C mq_X3_remembers [.ref 20, .ref 8] M (none, M1)) ∧
    (∃ (M2 : mz_M), (mq_C mq_X7_setsSlot [.ref 8, .int x1, .ref b2] M1 (none, M2)) ∧
    (∃ (r3 : Int32) (M3 : mz_M), (mq_C mq_X2_complexityOf [.ref 1, .ref b2] M2 (some (.int r3), M3)) ∧
    res = (some (.int r3), M3))))) :
    mq_G mq_X9_setsSlot (0, [some (.ref 0), some (.int x1), some (.ref b2)], [], M) res := by
  refine mz_Go.steps (n := 4) (k2 := (8, [some (.ref 0), some (.int x1), some (.ref b2)], [.ref 8, .ref 20], M)) (P := []) rfl mz_o0 ?_
  obtain ⟨M1, k1, h⟩ := h
  refine mz_Go.callV (As := [.ref 8]) (rest := []) (rfl : mz_find 8 (mz_rows mq_X9_setsSlot) = some (8, .invokevirtual 283, 3, 35, 0, 131)) (rfl : mz_nth mq_tab 35 = some mq_X3_remembers) rfl rfl rfl rfl (Nat.le_of_ble_eq_true rfl) (Nat.le_of_ble_eq_true rfl) k1 ?_
  show mq_G mq_X9_setsSlot (11, [some (.ref 0), some (.int x1), some (.ref b2)], [], M1) res
  refine mz_Go.steps (n := 4) (k2 := (17, [some (.ref 0), some (.int x1), some (.ref b2)], [.ref b2, .int x1, .ref 8], M1)) (P := []) rfl mz_o0 ?_
  obtain ⟨M2, k2, h⟩ := h
  refine mz_Go.callV (As := [.int x1, .ref b2]) (rest := []) (rfl : mz_find 17 (mz_rows mq_X9_setsSlot) = some (17, .invokevirtual 305, 3, 49, 0, 139)) (rfl : mz_nth mq_tab 49 = some mq_X7_setsSlot) rfl rfl rfl rfl (Nat.le_of_ble_eq_true rfl) (Nat.le_of_ble_eq_true rfl) k2 ?_
  show mq_G mq_X9_setsSlot (20, [some (.ref 0), some (.int x1), some (.ref b2)], [], M2) res
  refine mz_Go.steps (n := 3) (k2 := (25, [some (.ref 0), some (.int x1), some (.ref b2)], [.ref b2, .ref 1], M2)) (P := []) rfl mz_o0 ?_
  obtain ⟨r3, M3, k3, h⟩ := h
  refine mz_Go.callV (As := [.ref b2]) (rest := []) (rfl : mz_find 25 (mz_rows mq_X9_setsSlot) = some (25, .invokevirtual 239, 3, 22, 0, 116)) (rfl : mz_nth mq_tab 22 = some mq_X2_complexityOf) rfl rfl rfl rfl (Nat.le_of_ble_eq_true rfl) (Nat.le_of_ble_eq_true rfl) k3 ?_
  show mq_G mq_X9_setsSlot (28, [some (.ref 0), some (.int x1), some (.ref b2)], [.int r3], M3) res
  rw [h]
  exact mz_Go.iret (rfl : mz_find 28 (mz_rows mq_X9_setsSlot) = some (28, .ireturn, 1, 0, 0, 0)) rfl
