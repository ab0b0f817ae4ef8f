set_option maxRecDepth 100000 in
set_option maxHeartbeats 4000000 in
theorem t_X10_root_0 (x1 : Int32) (M : mz_M) {res : mz_O} (h :
    (∀ M1 : mz_M, M1 = mz_wr M 77 (upd (M.1 77) 10 0) →
    (∃ (r2 : Int32), (mq_C mq_X10_isElement [.ref 77, .int x1] M1 (some (.int r2), M1)) ∧
    ((r2 = 0 →
      res = (some (.int (-1)), M1)) ∧
    (¬ (r2 = 0) →
      (∃ (r4 : Int32), (mq_C mq_X10_conj [.ref 77, .int x1, .int ((M1.1 77 11) - 1)] M1 (some (.int r4), M1)) ∧
      res = (some (.int r4), M1))))))) :
    mq_G mq_X10_root (0, [some (.ref 77), some (.int x1)], [], M) res := by
  obtain ⟨M1, e1⟩ : ∃ y, y = mz_wr M 77 (upd (M.1 77) 10 0) := ⟨_, rfl⟩
  replace h := h M1 e1
  refine mz_Go.steps (n := 3) (k2 := (5, [some (.ref 77), some (.int x1)], [], (mz_wr M 77 (upd (M.1 77) 10 0)))) (P := []) rfl mz_o0 ?_
  rw [← e1]
  refine mz_Go.steps (n := 2) (k2 := (7, [some (.ref 77), some (.int x1)], [.int x1, .ref 77], M1)) (P := []) rfl mz_o0 ?_
  obtain ⟨r2, k2, h⟩ := h
  refine mz_Go.callV (As := [.int x1]) (rest := []) (rfl : mz_find 7 (mz_rows mq_X10_root) = some (7, .invokevirtual 183, 3, 156, 0, 194)) (rfl : mz_nth mq_tab 156 = some mq_X10_isElement) rfl rfl rfl rfl (Nat.le_of_ble_eq_true rfl) (Nat.le_of_ble_eq_true rfl) k2 ?_
  show mq_G mq_X10_root (10, [some (.ref 77), some (.int x1)], [.int r2], M1) res
  refine mz_Go.steps (n := 1) (k2 := (if r2 = 0 then 27 else 13, [some (.ref 77), some (.int x1)], [], M1)) (P := []) rfl mz_o0 ?_
  refine mz_Go.ite (fun c10 => ?_) (fun c10 => ?_)
  · replace h := h.1 c10
    refine mz_Go.steps (n := 1) (k2 := (28, [some (.ref 77), some (.int x1)], [.int (-1)], M1)) (P := []) rfl mz_o0 ?_
    rw [h]
    exact mz_Go.iret (rfl : mz_find 28 (mz_rows mq_X10_root) = some (28, .ireturn, 1, 0, 0, 0)) rfl
  · replace h := h.2 c10
    refine mz_Go.steps (n := 6) (k2 := (21, [some (.ref 77), some (.int x1)], [.int ((M1.1 77 11) - 1), .int x1, .ref 77], M1)) (P := []) rfl mz_o0 ?_
    obtain ⟨r4, k4, h⟩ := h
    refine mz_Go.callV (As := [.int x1, .int ((M1.1 77 11) - 1)]) (rest := []) (rfl : mz_find 21 (mz_rows mq_X10_root) = some (21, .invokevirtual 98, 3, 148, 0, 158)) (rfl : mz_nth mq_tab 148 = some mq_X10_conj) rfl rfl rfl rfl (Nat.le_of_ble_eq_true rfl) (Nat.le_of_ble_eq_true rfl) k4 ?_
    show mq_G mq_X10_root (24, [some (.ref 77), some (.int x1)], [.int r4], M1) res
    refine mz_Go.steps (n := 1) (k2 := (28, [some (.ref 77), some (.int x1)], [.int r4], M1)) (P := []) rfl mz_o0 ?_
    rw [h]
    exact mz_Go.iret (rfl : mz_find 28 (mz_rows mq_X10_root) = some (28, .ireturn, 1, 0, 0, 0)) rfl
set_option maxRecDepth 100000 in
set_option maxHeartbeats 4000000 in
theorem t_X10_solves_0 (x1 : Int32) (M : mz_M) {res : mz_O} (h :
    (∀ M1 : mz_M, M1 = mz_wr M 77 (upd (M.1 77) 10 0) →
    (∃ (r2 : Int32), (mq_C mq_X10_isElement [.ref 77, .int x1] M1 (some (.int r2), M1)) ∧
    ((¬ r2 = 0 →
      mq_G mq_X10_solves (17, [some (.ref 77), some (.int x1), some (.int 0)], [], M1) res) ∧
    (¬ (¬ r2 = 0) →
      res = (some (.int (-1)), M1)))))) :
    mq_G mq_X10_solves (0, [some (.ref 77), some (.int x1), none], [], M) res := by
  obtain ⟨M1, e1⟩ : ∃ y, y = mz_wr M 77 (upd (M.1 77) 10 0) := ⟨_, rfl⟩
  replace h := h M1 e1
  refine mz_Go.steps (n := 3) (k2 := (5, [some (.ref 77), some (.int x1), none], [], (mz_wr M 77 (upd (M.1 77) 10 0)))) (P := []) rfl mz_o0 ?_
  rw [← e1]
  refine mz_Go.steps (n := 2) (k2 := (7, [some (.ref 77), some (.int x1), none], [.int x1, .ref 77], M1)) (P := []) rfl mz_o0 ?_
  obtain ⟨r2, k2, h⟩ := h
  refine mz_Go.callV (As := [.int x1]) (rest := []) (rfl : mz_find 7 (mz_rows mq_X10_solves) = some (7, .invokevirtual 183, 3, 156, 0, 194)) (rfl : mz_nth mq_tab 156 = some mq_X10_isElement) rfl rfl rfl rfl (Nat.le_of_ble_eq_true rfl) (Nat.le_of_ble_eq_true rfl) k2 ?_
  show mq_G mq_X10_solves (10, [some (.ref 77), some (.int x1), none], [.int r2], M1) res
  refine mz_Go.steps (n := 1) (k2 := (if ¬ r2 = 0 then 15 else 13, [some (.ref 77), some (.int x1), none], [], M1)) (P := []) rfl mz_o0 ?_
  refine mz_Go.ite (fun c10 => ?_) (fun c10 => ?_)
  · replace h := h.1 c10
    refine mz_Go.steps (n := 2) (k2 := (17, [some (.ref 77), some (.int x1), some (.int 0)], [], M1)) (P := []) rfl mz_o0 ?_
    exact h
  · replace h := h.2 c10
    refine mz_Go.steps (n := 1) (k2 := (14, [some (.ref 77), some (.int x1), none], [.int (-1)], M1)) (P := []) rfl mz_o0 ?_
    rw [h]
    exact mz_Go.iret (rfl : mz_find 14 (mz_rows mq_X10_solves) = some (14, .ireturn, 1, 0, 0, 0)) rfl
set_option maxRecDepth 100000 in
set_option maxHeartbeats 4000000 in
theorem t_X10_solves_17 (x1 : Int32) (x2 : Int32) (M : mz_M) {res : mz_O} (h :
    (((M.1 77 12) ≤ x2 →
      res = (some (.int (-2)), M)) ∧
    (¬ ((M.1 77 12) ≤ x2) →
      (∃ (r2 : Int32), (mq_C mq_X10_times [.ref 77, .int x2, .int x2] M (some (.int r2), M)) ∧
      (((r2 ^^^ x2) = x1 →
        (∀ M4 : mz_M, M4 = mz_wr M 77 (upd (M.1 77) 9 0) →
        (∃ (M5 : mz_M), (mq_C mq_X10_tell [.ref 77, .long ((x2 ^^^ 1).toInt64)] M4 (none, M5)) ∧
        res = (some (.int x2), M5)))) ∧
      (¬ ((r2 ^^^ x2) = x1) →
        mq_G mq_X10_solves (17, [some (.ref 77), some (.int x1), some (.int (x2 + 1))], [], M) res)))))) :
    mq_G mq_X10_solves (17, [some (.ref 77), some (.int x1), some (.int x2)], [], M) res := by
  refine mz_Go.steps (n := 4) (k2 := (if (M.1 77 12) ≤ x2 then 61 else 25, [some (.ref 77), some (.int x1), some (.int x2)], [], M)) (P := []) rfl mz_o0 ?_
  refine mz_Go.ite (fun c22 => ?_) (fun c22 => ?_)
  · replace h := h.1 c22
    refine mz_Go.steps (n := 1) (k2 := (63, [some (.ref 77), some (.int x1), some (.int x2)], [.int (-2)], M)) (P := []) rfl mz_o0 ?_
    rw [h]
    exact mz_Go.iret (rfl : mz_find 63 (mz_rows mq_X10_solves) = some (63, .ireturn, 1, 0, 0, 0)) rfl
  · replace h := h.2 c22
    refine mz_Go.steps (n := 3) (k2 := (28, [some (.ref 77), some (.int x1), some (.int x2)], [.int x2, .int x2, .ref 77], M)) (P := []) rfl mz_o0 ?_
    obtain ⟨r2, k2, h⟩ := h
    refine mz_Go.callV (As := [.int x2, .int x2]) (rest := []) (rfl : mz_find 28 (mz_rows mq_X10_solves) = some (28, .invokevirtual 92, 3, 147, 0, 156)) (rfl : mz_nth mq_tab 147 = some mq_X10_times) rfl rfl rfl rfl (Nat.le_of_ble_eq_true rfl) (Nat.le_of_ble_eq_true rfl) k2 ?_
    show mq_G mq_X10_solves (31, [some (.ref 77), some (.int x1), some (.int x2)], [.int r2], M) res
    refine mz_Go.steps (n := 4) (k2 := (if (r2 ^^^ x2) = x1 then 40 else 37, [some (.ref 77), some (.int x1), some (.int x2)], [], M)) (P := []) rfl mz_o0 ?_
    refine mz_Go.ite (fun c34 => ?_) (fun c34 => ?_)
    · replace h := h.1 c34
      obtain ⟨M4, e4⟩ : ∃ y, y = mz_wr M 77 (upd (M.1 77) 9 0) := ⟨_, rfl⟩
      replace h := h M4 e4
      refine mz_Go.steps (n := 3) (k2 := (45, [some (.ref 77), some (.int x1), some (.int x2)], [], (mz_wr M 77 (upd (M.1 77) 9 0)))) (P := []) rfl mz_o0 ?_
      rw [← e4]
      refine mz_Go.steps (n := 5) (k2 := (50, [some (.ref 77), some (.int x1), some (.int x2)], [.long ((x2 ^^^ 1).toInt64), .ref 77], M4)) (P := []) rfl mz_o0 ?_
      obtain ⟨M5, k5, h⟩ := h
      refine mz_Go.callV (As := [.long ((x2 ^^^ 1).toInt64)]) (rest := []) (rfl : mz_find 50 (mz_rows mq_X10_solves) = some (50, .invokevirtual 194, 3, 135, 0, 198)) (rfl : mz_nth mq_tab 135 = some mq_X10_tell) rfl rfl rfl rfl (Nat.le_of_ble_eq_true rfl) (Nat.le_of_ble_eq_true rfl) k5 ?_
      show mq_G mq_X10_solves (53, [some (.ref 77), some (.int x1), some (.int x2)], [], M5) res
      refine mz_Go.steps (n := 1) (k2 := (54, [some (.ref 77), some (.int x1), some (.int x2)], [.int x2], M5)) (P := []) rfl mz_o0 ?_
      rw [h]
      exact mz_Go.iret (rfl : mz_find 54 (mz_rows mq_X10_solves) = some (54, .ireturn, 1, 0, 0, 0)) rfl
    · replace h := h.2 c34
      refine mz_Go.steps (n := 3) (k2 := (17, [some (.ref 77), some (.int x1), some (.int (x2 + 1))], [], M)) (P := []) rfl mz_o0 ?_
      exact h
set_option maxRecDepth 100000 in
set_option maxHeartbeats 4000000 in
theorem t_X10_log_0 (x1 : Int32) (x2 : Int32) (M : mz_M) {res : mz_O} (h :
    (∀ M1 : mz_M, M1 = mz_wr M 77 (upd (M.1 77) 10 0) →
    (∃ (r2 : Int32), (mq_C mq_X10_isElement [.ref 77, .int x1] M1 (some (.int r2), M1)) ∧
    ((r2 = 0 →
      res = (some (.int (-1)), M1)) ∧
    (¬ (r2 = 0) →
      (∃ (r4 : Int32), (mq_C mq_X10_isElement [.ref 77, .int x2] M1 (some (.int r4), M1)) ∧
      ((¬ r4 = 0 →
        mq_G mq_X10_log (28, [some (.ref 77), some (.int x1), some (.int x2), some (.int 1), some (.int 0)], [], M1) res) ∧
      (¬ (¬ r4 = 0) →
        res = (some (.int (-1)), M1))))))))) :
    mq_G mq_X10_log (0, [some (.ref 77), some (.int x1), some (.int x2), none, none], [], M) res := by
  obtain ⟨M1, e1⟩ : ∃ y, y = mz_wr M 77 (upd (M.1 77) 10 0) := ⟨_, rfl⟩
  replace h := h M1 e1
  refine mz_Go.steps (n := 3) (k2 := (5, [some (.ref 77), some (.int x1), some (.int x2), none, none], [], (mz_wr M 77 (upd (M.1 77) 10 0)))) (P := []) rfl mz_o0 ?_
  rw [← e1]
  refine mz_Go.steps (n := 2) (k2 := (7, [some (.ref 77), some (.int x1), some (.int x2), none, none], [.int x1, .ref 77], M1)) (P := []) rfl mz_o0 ?_
  obtain ⟨r2, k2, h⟩ := h
  refine mz_Go.callV (As := [.int x1]) (rest := []) (rfl : mz_find 7 (mz_rows mq_X10_log) = some (7, .invokevirtual 183, 3, 156, 0, 194)) (rfl : mz_nth mq_tab 156 = some mq_X10_isElement) rfl rfl rfl rfl (Nat.le_of_ble_eq_true rfl) (Nat.le_of_ble_eq_true rfl) k2 ?_
  show mq_G mq_X10_log (10, [some (.ref 77), some (.int x1), some (.int x2), none, none], [.int r2], M1) res
  refine mz_Go.steps (n := 1) (k2 := (if r2 = 0 then 21 else 13, [some (.ref 77), some (.int x1), some (.int x2), none, none], [], M1)) (P := []) rfl mz_o0 ?_
  refine mz_Go.ite (fun c10 => ?_) (fun c10 => ?_)
  · replace h := h.1 c10
    refine mz_Go.steps (n := 1) (k2 := (22, [some (.ref 77), some (.int x1), some (.int x2), none, none], [.int (-1)], M1)) (P := []) rfl mz_o0 ?_
    rw [h]
    exact mz_Go.iret (rfl : mz_find 22 (mz_rows mq_X10_log) = some (22, .ireturn, 1, 0, 0, 0)) rfl
  · replace h := h.2 c10
    refine mz_Go.steps (n := 2) (k2 := (15, [some (.ref 77), some (.int x1), some (.int x2), none, none], [.int x2, .ref 77], M1)) (P := []) rfl mz_o0 ?_
    obtain ⟨r4, k4, h⟩ := h
    refine mz_Go.callV (As := [.int x2]) (rest := []) (rfl : mz_find 15 (mz_rows mq_X10_log) = some (15, .invokevirtual 183, 3, 156, 0, 194)) (rfl : mz_nth mq_tab 156 = some mq_X10_isElement) rfl rfl rfl rfl (Nat.le_of_ble_eq_true rfl) (Nat.le_of_ble_eq_true rfl) k4 ?_
    show mq_G mq_X10_log (18, [some (.ref 77), some (.int x1), some (.int x2), none, none], [.int r4], M1) res
    refine mz_Go.steps (n := 1) (k2 := (if ¬ r4 = 0 then 23 else 21, [some (.ref 77), some (.int x1), some (.int x2), none, none], [], M1)) (P := []) rfl mz_o0 ?_
    refine mz_Go.ite (fun c18 => ?_) (fun c18 => ?_)
    · replace h := h.1 c18
      refine mz_Go.steps (n := 4) (k2 := (28, [some (.ref 77), some (.int x1), some (.int x2), some (.int 1), some (.int 0)], [], M1)) (P := []) rfl mz_o0 ?_
      exact h
    · replace h := h.2 c18
      refine mz_Go.steps (n := 1) (k2 := (22, [some (.ref 77), some (.int x1), some (.int x2), none, none], [.int (-1)], M1)) (P := []) rfl mz_o0 ?_
      rw [h]
      exact mz_Go.iret (rfl : mz_find 22 (mz_rows mq_X10_log) = some (22, .ireturn, 1, 0, 0, 0)) rfl
set_option maxRecDepth 100000 in
set_option maxHeartbeats 4000000 in
theorem t_X10_log_28 (x1 : Int32) (x2 : Int32) (x3 : Int32) (x4 : Int32) (M : mz_M) {res : mz_O} (h :
    (((M.1 77 12) ≤ x4 →
      res = (some (.int (-2)), M)) ∧
    (¬ ((M.1 77 12) ≤ x4) →
      ((¬ x3 = x2 →
        (∃ (r3 : Int32), (mq_C mq_X10_times [.ref 77, .int x3, .int x1] M (some (.int r3), M)) ∧
        mq_G mq_X10_log (28, [some (.ref 77), some (.int x1), some (.int x2), some (.int r3), some (.int (x4 + 1))], [], M) res)) ∧
      (¬ (¬ x3 = x2) →
        res = (some (.int x4), M)))))) :
    mq_G mq_X10_log (28, [some (.ref 77), some (.int x1), some (.int x2), some (.int x3), some (.int x4)], [], M) res := by
  refine mz_Go.steps (n := 4) (k2 := (if (M.1 77 12) ≤ x4 then 58 else 37, [some (.ref 77), some (.int x1), some (.int x2), some (.int x3), some (.int x4)], [], M)) (P := []) rfl mz_o0 ?_
  refine mz_Go.ite (fun c34 => ?_) (fun c34 => ?_)
  · replace h := h.1 c34
    refine mz_Go.steps (n := 1) (k2 := (60, [some (.ref 77), some (.int x1), some (.int x2), some (.int x3), some (.int x4)], [.int (-2)], M)) (P := []) rfl mz_o0 ?_
    rw [h]
    exact mz_Go.iret (rfl : mz_find 60 (mz_rows mq_X10_log) = some (60, .ireturn, 1, 0, 0, 0)) rfl
  · replace h := h.2 c34
    refine mz_Go.steps (n := 3) (k2 := (if ¬ x3 = x2 then 45 else 42, [some (.ref 77), some (.int x1), some (.int x2), some (.int x3), some (.int x4)], [], M)) (P := []) rfl mz_o0 ?_
    refine mz_Go.ite (fun c39 => ?_) (fun c39 => ?_)
    · replace h := h.1 c39
      refine mz_Go.steps (n := 3) (k2 := (48, [some (.ref 77), some (.int x1), some (.int x2), some (.int x3), some (.int x4)], [.int x1, .int x3, .ref 77], M)) (P := []) rfl mz_o0 ?_
      obtain ⟨r3, k3, h⟩ := h
      refine mz_Go.callV (As := [.int x3, .int x1]) (rest := []) (rfl : mz_find 48 (mz_rows mq_X10_log) = some (48, .invokevirtual 92, 3, 147, 0, 156)) (rfl : mz_nth mq_tab 147 = some mq_X10_times) rfl rfl rfl rfl (Nat.le_of_ble_eq_true rfl) (Nat.le_of_ble_eq_true rfl) k3 ?_
      show mq_G mq_X10_log (51, [some (.ref 77), some (.int x1), some (.int x2), some (.int x3), some (.int x4)], [.int r3], M) res
      refine mz_Go.steps (n := 3) (k2 := (28, [some (.ref 77), some (.int x1), some (.int x2), some (.int r3), some (.int (x4 + 1))], [], M)) (P := []) rfl mz_o0 ?_
      exact h
    · replace h := h.2 c39
      refine mz_Go.steps (n := 1) (k2 := (44, [some (.ref 77), some (.int x1), some (.int x2), some (.int x3), some (.int x4)], [.int x4], M)) (P := []) rfl mz_o0 ?_
      rw [h]
      exact mz_Go.iret (rfl : mz_find 44 (mz_rows mq_X10_log) = some (44, .ireturn, 1, 0, 0, 0)) rfl
set_option maxRecDepth 100000 in
set_option maxHeartbeats 4000000 in
theorem t_X10_traced_0 (x1 : Int32) (x2 : Int32) (M : mz_M) {res : mz_O} (h :
    (∀ M1 : mz_M, M1 = mz_wr M 77 (upd (M.1 77) 10 0) →
    (∃ (r2 : Int32), (mq_C mq_X10_isPart [.ref 77, .int x1] M1 (some (.int r2), M1)) ∧
    ((r2 = 0 →
      res = (some (.int (-1)), M1)) ∧
    (¬ (r2 = 0) →
      (∃ (r4 : Int32), (mq_C mq_X10_isElement [.ref 77, .int x2] M1 (some (.int r4), M1)) ∧
      ((¬ r4 = 0 →
        mq_G mq_X10_traced (36, [some (.ref 77), some (.int x1), some (.int x2), some (.int 0), some (.int (-1)), some (.int ((M1.1 77 12) - 1))], [], M1) res) ∧
      (¬ (¬ r4 = 0) →
        res = (some (.int (-1)), M1))))))))) :
    mq_G mq_X10_traced (0, [some (.ref 77), some (.int x1), some (.int x2), none, none, none], [], M) res := by
  obtain ⟨M1, e1⟩ : ∃ y, y = mz_wr M 77 (upd (M.1 77) 10 0) := ⟨_, rfl⟩
  replace h := h M1 e1
  refine mz_Go.steps (n := 3) (k2 := (5, [some (.ref 77), some (.int x1), some (.int x2), none, none, none], [], (mz_wr M 77 (upd (M.1 77) 10 0)))) (P := []) rfl mz_o0 ?_
  rw [← e1]
  refine mz_Go.steps (n := 2) (k2 := (7, [some (.ref 77), some (.int x1), some (.int x2), none, none, none], [.int x1, .ref 77], M1)) (P := []) rfl mz_o0 ?_
  obtain ⟨r2, k2, h⟩ := h
  refine mz_Go.callV (As := [.int x1]) (rest := []) (rfl : mz_find 7 (mz_rows mq_X10_traced) = some (7, .invokevirtual 206, 3, 157, 0, 202)) (rfl : mz_nth mq_tab 157 = some mq_X10_isPart) rfl rfl rfl rfl (Nat.le_of_ble_eq_true rfl) (Nat.le_of_ble_eq_true rfl) k2 ?_
  show mq_G mq_X10_traced (10, [some (.ref 77), some (.int x1), some (.int x2), none, none, none], [.int r2], M1) res
  refine mz_Go.steps (n := 1) (k2 := (if r2 = 0 then 21 else 13, [some (.ref 77), some (.int x1), some (.int x2), none, none, none], [], M1)) (P := []) rfl mz_o0 ?_
  refine mz_Go.ite (fun c10 => ?_) (fun c10 => ?_)
  · replace h := h.1 c10
    refine mz_Go.steps (n := 1) (k2 := (22, [some (.ref 77), some (.int x1), some (.int x2), none, none, none], [.int (-1)], M1)) (P := []) rfl mz_o0 ?_
    rw [h]
    exact mz_Go.iret (rfl : mz_find 22 (mz_rows mq_X10_traced) = some (22, .ireturn, 1, 0, 0, 0)) rfl
  · replace h := h.2 c10
    refine mz_Go.steps (n := 2) (k2 := (15, [some (.ref 77), some (.int x1), some (.int x2), none, none, none], [.int x2, .ref 77], M1)) (P := []) rfl mz_o0 ?_
    obtain ⟨r4, k4, h⟩ := h
    refine mz_Go.callV (As := [.int x2]) (rest := []) (rfl : mz_find 15 (mz_rows mq_X10_traced) = some (15, .invokevirtual 183, 3, 156, 0, 194)) (rfl : mz_nth mq_tab 156 = some mq_X10_isElement) rfl rfl rfl rfl (Nat.le_of_ble_eq_true rfl) (Nat.le_of_ble_eq_true rfl) k4 ?_
    show mq_G mq_X10_traced (18, [some (.ref 77), some (.int x1), some (.int x2), none, none, none], [.int r4], M1) res
    refine mz_Go.steps (n := 1) (k2 := (if ¬ r4 = 0 then 23 else 21, [some (.ref 77), some (.int x1), some (.int x2), none, none, none], [], M1)) (P := []) rfl mz_o0 ?_
    refine mz_Go.ite (fun c18 => ?_) (fun c18 => ?_)
    · replace h := h.1 c18
      refine mz_Go.steps (n := 9) (k2 := (36, [some (.ref 77), some (.int x1), some (.int x2), some (.int 0), some (.int (-1)), some (.int ((M1.1 77 12) - 1))], [], M1)) (P := []) rfl mz_o0 ?_
      exact h
    · replace h := h.2 c18
      refine mz_Go.steps (n := 1) (k2 := (22, [some (.ref 77), some (.int x1), some (.int x2), none, none, none], [.int (-1)], M1)) (P := []) rfl mz_o0 ?_
      rw [h]
      exact mz_Go.iret (rfl : mz_find 22 (mz_rows mq_X10_traced) = some (22, .ireturn, 1, 0, 0, 0)) rfl
set_option maxRecDepth 100000 in
set_option maxHeartbeats 4000000 in
theorem t_X10_traced_36 (x1 : Int32) (x2 : Int32) (x3 : Int32) (x4 : Int32) (x5 : Int32) (M : mz_M) {res : mz_O} (h :
    ((x5 < 0 →
      (∀ M2 : mz_M, M2 = mz_wr M 77 (upd (M.1 77) 9 0) →
      (∃ (M3 : mz_M), (mq_C mq_X10_tell [.ref 77, .long (x4.toInt64)] M2 (none, M3)) ∧
      res = (some (.int x3), M3)))) ∧
    (¬ (x5 < 0) →
      (∃ (r4 : Int32), (mq_C mq_X10_traceTo [.ref 77, .int x5, .int x1] M (some (.int r4), M)) ∧
      ((r4 = x2 →
        mq_G mq_X10_traced (36, [some (.ref 77), some (.int x1), some (.int x2), some (.int (x3 + 1)), some (.int x5), some (.int (x5 + (-1)))], [], M) res) ∧
      (¬ (r4 = x2) →
        mq_G mq_X10_traced (36, [some (.ref 77), some (.int x1), some (.int x2), some (.int x3), some (.int x4), some (.int (x5 + (-1)))], [], M) res)))))) :
    mq_G mq_X10_traced (36, [some (.ref 77), some (.int x1), some (.int x2), some (.int x3), some (.int x4), some (.int x5)], [], M) res := by
  refine mz_Go.steps (n := 2) (k2 := (if x5 < 0 then 68 else 41, [some (.ref 77), some (.int x1), some (.int x2), some (.int x3), some (.int x4), some (.int x5)], [], M)) (P := []) rfl mz_o0 ?_
  refine mz_Go.ite (fun c38 => ?_) (fun c38 => ?_)
  · replace h := h.1 c38
    obtain ⟨M2, e2⟩ : ∃ y, y = mz_wr M 77 (upd (M.1 77) 9 0) := ⟨_, rfl⟩
    replace h := h M2 e2
    refine mz_Go.steps (n := 3) (k2 := (73, [some (.ref 77), some (.int x1), some (.int x2), some (.int x3), some (.int x4), some (.int x5)], [], (mz_wr M 77 (upd (M.1 77) 9 0)))) (P := []) rfl mz_o0 ?_
    rw [← e2]
    refine mz_Go.steps (n := 3) (k2 := (77, [some (.ref 77), some (.int x1), some (.int x2), some (.int x3), some (.int x4), some (.int x5)], [.long (x4.toInt64), .ref 77], M2)) (P := []) rfl mz_o0 ?_
    obtain ⟨M3, k3, h⟩ := h
    refine mz_Go.callV (As := [.long (x4.toInt64)]) (rest := []) (rfl : mz_find 77 (mz_rows mq_X10_traced) = some (77, .invokevirtual 194, 3, 135, 0, 198)) (rfl : mz_nth mq_tab 135 = some mq_X10_tell) rfl rfl rfl rfl (Nat.le_of_ble_eq_true rfl) (Nat.le_of_ble_eq_true rfl) k3 ?_
    show mq_G mq_X10_traced (80, [some (.ref 77), some (.int x1), some (.int x2), some (.int x3), some (.int x4), some (.int x5)], [], M3) res
    refine mz_Go.steps (n := 1) (k2 := (81, [some (.ref 77), some (.int x1), some (.int x2), some (.int x3), some (.int x4), some (.int x5)], [.int x3], M3)) (P := []) rfl mz_o0 ?_
    rw [h]
    exact mz_Go.iret (rfl : mz_find 81 (mz_rows mq_X10_traced) = some (81, .ireturn, 1, 0, 0, 0)) rfl
  · replace h := h.2 c38
    refine mz_Go.steps (n := 3) (k2 := (45, [some (.ref 77), some (.int x1), some (.int x2), some (.int x3), some (.int x4), some (.int x5)], [.int x1, .int x5, .ref 77], M)) (P := []) rfl mz_o0 ?_
    obtain ⟨r4, k4, h⟩ := h
    refine mz_Go.callV (As := [.int x5, .int x1]) (rest := []) (rfl : mz_find 45 (mz_rows mq_X10_traced) = some (45, .invokevirtual 209, 3, 154, 0, 203)) (rfl : mz_nth mq_tab 154 = some mq_X10_traceTo) rfl rfl rfl rfl (Nat.le_of_ble_eq_true rfl) (Nat.le_of_ble_eq_true rfl) k4 ?_
    show mq_G mq_X10_traced (48, [some (.ref 77), some (.int x1), some (.int x2), some (.int x3), some (.int x4), some (.int x5)], [.int r4], M) res
    refine mz_Go.steps (n := 2) (k2 := (if r4 = x2 then 55 else 52, [some (.ref 77), some (.int x1), some (.int x2), some (.int x3), some (.int x4), some (.int x5)], [], M)) (P := []) rfl mz_o0 ?_
    refine mz_Go.ite (fun c49 => ?_) (fun c49 => ?_)
    · replace h := h.1 c49
      refine mz_Go.steps (n := 5) (k2 := (36, [some (.ref 77), some (.int x1), some (.int x2), some (.int (x3 + 1)), some (.int x5), some (.int (x5 + (-1)))], [], M)) (P := []) rfl mz_o0 ?_
      exact h
    · replace h := h.2 c49
      refine mz_Go.steps (n := 3) (k2 := (36, [some (.ref 77), some (.int x1), some (.int x2), some (.int x3), some (.int x4), some (.int (x5 + (-1)))], [], M)) (P := []) rfl mz_o0 ?_
      exact h
set_option maxRecDepth 100000 in
set_option maxHeartbeats 4000000 in
theorem t_X10_factors_0 (x1 : Int32) (M : mz_M) {res : mz_O} (h :
    (∀ M1 : mz_M, M1 = mz_wr M 77 (upd (M.1 77) 10 0) →
    (∃ (r2 : Int32), (mq_C mq_X10_in [.long (x1.toInt64), .long ((2 : Int32).toInt64), .long ((1023 : Int32).toInt64)] M1 (some (.int r2), M1)) ∧
    ((¬ r2 = 0 →
      (∀ M4 : mz_M, M4 = mz_wr M1 77 (upd (M1.1 77) 9 0) →
      mq_G mq_X10_factors (28, [some (.ref 77), some (.int x1), some (.int x1)], [], M4) res)) ∧
    (¬ (¬ r2 = 0) →
      res = (some (.int (-1)), M1)))))) :
    mq_G mq_X10_factors (0, [some (.ref 77), some (.int x1), none], [], M) res := by
  obtain ⟨M1, e1⟩ : ∃ y, y = mz_wr M 77 (upd (M.1 77) 10 0) := ⟨_, rfl⟩
  replace h := h M1 e1
  refine mz_Go.steps (n := 3) (k2 := (5, [some (.ref 77), some (.int x1), none], [], (mz_wr M 77 (upd (M.1 77) 10 0)))) (P := []) rfl mz_o0 ?_
  rw [← e1]
  refine mz_Go.steps (n := 4) (k2 := (13, [some (.ref 77), some (.int x1), none], [.long ((1023 : Int32).toInt64), .long ((2 : Int32).toInt64), .long (x1.toInt64)], M1)) (P := []) rfl mz_o0 ?_
  obtain ⟨r2, k2, h⟩ := h
  refine mz_Go.callS (As := [.long (x1.toInt64), .long ((2 : Int32).toInt64), .long ((1023 : Int32).toInt64)]) (rest := []) (rfl : mz_find 13 (mz_rows mq_X10_factors) = some (13, .invokestatic 65, 3, 133, 0, 147)) (rfl : mz_nth mq_tab 133 = some mq_X10_in) (by decide) rfl rfl rfl (Nat.le_of_ble_eq_true rfl) (Nat.le_of_ble_eq_true rfl) k2 ?_
  show mq_G mq_X10_factors (16, [some (.ref 77), some (.int x1), none], [.int r2], M1) res
  refine mz_Go.steps (n := 1) (k2 := (if ¬ r2 = 0 then 21 else 19, [some (.ref 77), some (.int x1), none], [], M1)) (P := []) rfl mz_o0 ?_
  refine mz_Go.ite (fun c16 => ?_) (fun c16 => ?_)
  · replace h := h.1 c16
    obtain ⟨M4, e4⟩ : ∃ y, y = mz_wr M1 77 (upd (M1.1 77) 9 0) := ⟨_, rfl⟩
    replace h := h M4 e4
    refine mz_Go.steps (n := 3) (k2 := (26, [some (.ref 77), some (.int x1), none], [], (mz_wr M1 77 (upd (M1.1 77) 9 0)))) (P := []) rfl mz_o0 ?_
    rw [← e4]
    refine mz_Go.steps (n := 2) (k2 := (28, [some (.ref 77), some (.int x1), some (.int x1)], [], M4)) (P := []) rfl mz_o0 ?_
    exact h
  · replace h := h.2 c16
    refine mz_Go.steps (n := 1) (k2 := (20, [some (.ref 77), some (.int x1), none], [.int (-1)], M1)) (P := []) rfl mz_o0 ?_
    rw [h]
    exact mz_Go.iret (rfl : mz_find 20 (mz_rows mq_X10_factors) = some (20, .ireturn, 1, 0, 0, 0)) rfl
set_option maxRecDepth 100000 in
set_option maxHeartbeats 4000000 in
theorem t_X10_factors_28 (o1 : Option Value) (x2 : Int32) (M : mz_M) {res : mz_O} (h :
    ((x2 ≤ 1 →
      (vp_in 0 64) ∧
      res = (some (.int ((M.2 83 (0 : Int32).toNatClampNeg).toInt32)), M)) ∧
    (¬ (x2 ≤ 1) →
      (∃ (r3 : Int32), (mq_C mq_X10_leastFactor [.int x2] M (some (.int r3), M)) ∧
      (∃ (M4 : mz_M), (mq_C mq_X10_tell [.ref 77, .long (r3.toInt64)] M (none, M4)) ∧
      (∃ (r5 : Int32), (mq_C mq_X10_leastFactor [.int x2] M4 (some (.int r5), M4)) ∧
      (∃ (r6 : Int32), (mq_C mq_X10_quotient [.int x2, .int r5] M4 (some (.int r6), M4)) ∧
      mq_G mq_X10_factors (28, [some (.ref 77), (mz_nw o1), some (.int r6)], [], M4) res))))))) :
    mq_G mq_X10_factors (28, [some (.ref 77), o1, some (.int x2)], [], M) res := by
  refine mz_Go.steps (n := 3) (k2 := (if x2 ≤ 1 then 54 else 33, [some (.ref 77), o1, some (.int x2)], [], M)) (P := []) rfl mz_o0 ?_
  refine mz_Go.ite (fun c30 => ?_) (fun c30 => ?_)
  · replace h := h.1 c30
    obtain ⟨q2, h⟩ := h
    refine mz_Go.steps (n := 5) (k2 := (61, [some (.ref 77), o1, some (.int x2)], [.int ((M.2 83 (0 : Int32).toNatClampNeg).toInt32)], M)) (P := [vp_in 0 64]) rfl (mz_o1 q2) ?_
    rw [h]
    exact mz_Go.iret (rfl : mz_find 61 (mz_rows mq_X10_factors) = some (61, .ireturn, 1, 0, 0, 0)) rfl
  · replace h := h.2 c30
    refine mz_Go.steps (n := 2) (k2 := (35, [some (.ref 77), o1, some (.int x2)], [.int x2, .ref 77], M)) (P := []) rfl mz_o0 ?_
    obtain ⟨r3, k3, h⟩ := h
    refine mz_Go.callS (As := [.int x2]) (rest := [.ref 77]) (rfl : mz_find 35 (mz_rows mq_X10_factors) = some (35, .invokestatic 77, 3, 143, 0, 150)) (rfl : mz_nth mq_tab 143 = some mq_X10_leastFactor) (by decide) rfl rfl rfl (Nat.le_of_ble_eq_true rfl) (Nat.le_of_ble_eq_true rfl) k3 ?_
    show mq_G mq_X10_factors (38, [some (.ref 77), o1, some (.int x2)], [.int r3, .ref 77], M) res
    refine mz_Go.steps (n := 1) (k2 := (39, [some (.ref 77), o1, some (.int x2)], [.long (r3.toInt64), .ref 77], M)) (P := []) rfl mz_o0 ?_
    obtain ⟨M4, k4, h⟩ := h
    refine mz_Go.callV (As := [.long (r3.toInt64)]) (rest := []) (rfl : mz_find 39 (mz_rows mq_X10_factors) = some (39, .invokevirtual 194, 3, 135, 0, 198)) (rfl : mz_nth mq_tab 135 = some mq_X10_tell) rfl rfl rfl rfl (Nat.le_of_ble_eq_true rfl) (Nat.le_of_ble_eq_true rfl) k4 ?_
    show mq_G mq_X10_factors (42, [some (.ref 77), o1, some (.int x2)], [], M4) res
    refine mz_Go.steps (n := 2) (k2 := (44, [some (.ref 77), o1, some (.int x2)], [.int x2, .int x2], M4)) (P := []) rfl mz_o0 ?_
    obtain ⟨r5, k5, h⟩ := h
    refine mz_Go.callS (As := [.int x2]) (rest := [.int x2]) (rfl : mz_find 44 (mz_rows mq_X10_factors) = some (44, .invokestatic 77, 3, 143, 0, 150)) (rfl : mz_nth mq_tab 143 = some mq_X10_leastFactor) (by decide) rfl rfl rfl (Nat.le_of_ble_eq_true rfl) (Nat.le_of_ble_eq_true rfl) k5 ?_
    show mq_G mq_X10_factors (47, [some (.ref 77), o1, some (.int x2)], [.int r5, .int x2], M4) res
    obtain ⟨r6, k6, h⟩ := h
    refine mz_Go.callS (As := [.int x2, .int r5]) (rest := []) (rfl : mz_find 47 (mz_rows mq_X10_factors) = some (47, .invokestatic 219, 3, 142, 0, 207)) (rfl : mz_nth mq_tab 142 = some mq_X10_quotient) (by decide) rfl rfl rfl (Nat.le_of_ble_eq_true rfl) (Nat.le_of_ble_eq_true rfl) k6 ?_
    show mq_G mq_X10_factors (50, [some (.ref 77), o1, some (.int x2)], [.int r6], M4) res
    refine mz_Go.steps (n := 2) (k2 := (28, [some (.ref 77), (mz_nw o1), some (.int r6)], [], M4)) (P := []) rfl mz_o0 ?_
    exact h
set_option maxRecDepth 100000 in
set_option maxHeartbeats 4000000 in
theorem t_X10_classes_0 (M : mz_M) {res : mz_O} (h :
    (∀ M1 : mz_M, M1 = mz_wr M 77 (upd (M.1 77) 10 0) →
    (∀ M2 : mz_M, M2 = mz_wr M1 77 (upd (M1.1 77) 9 (M1.1 77 11)) →
    mq_G mq_X10_classes (17, [some (.ref 77), some (.int 0), some (.int 0), none, none, none], [], M2) res))) :
    mq_G mq_X10_classes (0, [some (.ref 77), none, none, none, none, none], [], M) res := by
  obtain ⟨M1, e1⟩ : ∃ y, y = mz_wr M 77 (upd (M.1 77) 10 0) := ⟨_, rfl⟩
  replace h := h M1 e1
  refine mz_Go.steps (n := 3) (k2 := (5, [some (.ref 77), none, none, none, none, none], [], (mz_wr M 77 (upd (M.1 77) 10 0)))) (P := []) rfl mz_o0 ?_
  rw [← e1]
  obtain ⟨M2, e2⟩ : ∃ y, y = mz_wr M1 77 (upd (M1.1 77) 9 (M1.1 77 11)) := ⟨_, rfl⟩
  replace h := h M2 e2
  refine mz_Go.steps (n := 6) (k2 := (15, [some (.ref 77), some (.int 0), none, none, none, none], [], (mz_wr M1 77 (upd (M1.1 77) 9 (M1.1 77 11))))) (P := []) rfl mz_o0 ?_
  rw [← e2]
  refine mz_Go.steps (n := 2) (k2 := (17, [some (.ref 77), some (.int 0), some (.int 0), none, none, none], [], M2)) (P := []) rfl mz_o0 ?_
  exact h
set_option maxRecDepth 100000 in
set_option maxHeartbeats 4000000 in
theorem t_X10_classes_17 (x1 : Int32) (x2 : Int32) (o3 : Option Value) (o4 : Option Value) (o5 : Option Value) (M : mz_M) {res : mz_O} (h :
    (((M.1 77 11) ≤ x2 →
      mq_G mq_X10_classes (40, [some (.ref 77), some (.int x1), some (.int 0), o3, o4, o5], [], M) res) ∧
    (¬ ((M.1 77 11) ≤ x2) →
      (vp_in x2 64) ∧
      (∀ M2 : mz_M, M2 = mz_wrl M 83 (vp_updL (M.2 83) x2.toNatClampNeg ((0 : Int32).toInt64)) →
      mq_G mq_X10_classes (17, [some (.ref 77), some (.int x1), some (.int (x2 + 1)), o3, o4, o5], [], M2) res)))) :
    mq_G mq_X10_classes (17, [some (.ref 77), some (.int x1), some (.int x2), o3, o4, o5], [], M) res := by
  refine mz_Go.steps (n := 4) (k2 := (if (M.1 77 11) ≤ x2 then 38 else 25, [some (.ref 77), some (.int x1), some (.int x2), o3, o4, o5], [], M)) (P := []) rfl mz_o0 ?_
  refine mz_Go.ite (fun c22 => ?_) (fun c22 => ?_)
  · replace h := h.1 c22
    refine mz_Go.steps (n := 2) (k2 := (40, [some (.ref 77), some (.int x1), some (.int 0), o3, o4, o5], [], M)) (P := []) rfl mz_o0 ?_
    exact h
  · replace h := h.2 c22
    obtain ⟨q3, h⟩ := h
    obtain ⟨M2, e2⟩ : ∃ y, y = mz_wrl M 83 (vp_updL (M.2 83) x2.toNatClampNeg ((0 : Int32).toInt64)) := ⟨_, rfl⟩
    replace h := h M2 e2
    refine mz_Go.steps (n := 5) (k2 := (32, [some (.ref 77), some (.int x1), some (.int x2), o3, o4, o5], [], (mz_wrl M 83 (vp_updL (M.2 83) x2.toNatClampNeg ((0 : Int32).toInt64))))) (P := [vp_in x2 64]) rfl (mz_o1 q3) ?_
    rw [← e2]
    refine mz_Go.steps (n := 2) (k2 := (17, [some (.ref 77), some (.int x1), some (.int (x2 + 1)), o3, o4, o5], [], M2)) (P := []) rfl mz_o0 ?_
    exact h
set_option maxRecDepth 100000 in
set_option maxHeartbeats 4000000 in
theorem t_X10_classes_40 (x1 : Int32) (x2 : Int32) (o3 : Option Value) (o4 : Option Value) (o5 : Option Value) (M : mz_M) {res : mz_O} (h :
    (((M.1 77 12) ≤ x2 →
      res = (some (.int x1), M)) ∧
    (¬ ((M.1 77 12) ≤ x2) →
      (∃ (r2 : Int32), (mq_C mq_X10_sizeOf [.ref 77, .int x2] M (some (.int r2), M)) ∧
      (vp_in (r2 - 1) 64) ∧
      (vp_in (r2 - 1) 64) ∧
      (∀ M3 : mz_M, M3 = mz_wrl M 83 (vp_updL (M.2 83) (r2 - 1).toNatClampNeg ((M.2 83 (r2 - 1).toNatClampNeg) + ((1 : Int32).toInt64))) →
      mq_G mq_X10_classes (72, [some (.ref 77), some (.int x1), some (.int x2), some (.int r2), some (.int 1), some (.int 1)], [], M3) res))))) :
    mq_G mq_X10_classes (40, [some (.ref 77), some (.int x1), some (.int x2), o3, o4, o5], [], M) res := by
  refine mz_Go.steps (n := 4) (k2 := (if (M.1 77 12) ≤ x2 then 126 else 48, [some (.ref 77), some (.int x1), some (.int x2), o3, o4, o5], [], M)) (P := []) rfl mz_o0 ?_
  refine mz_Go.ite (fun c45 => ?_) (fun c45 => ?_)
  · replace h := h.1 c45
    refine mz_Go.steps (n := 1) (k2 := (127, [some (.ref 77), some (.int x1), some (.int x2), o3, o4, o5], [.int x1], M)) (P := []) rfl mz_o0 ?_
    rw [h]
    exact mz_Go.iret (rfl : mz_find 127 (mz_rows mq_X10_classes) = some (127, .ireturn, 1, 0, 0, 0)) rfl
  · replace h := h.2 c45
    refine mz_Go.steps (n := 2) (k2 := (50, [some (.ref 77), some (.int x1), some (.int x2), o3, o4, o5], [.int x2, .ref 77], M)) (P := []) rfl mz_o0 ?_
    obtain ⟨r2, k2, h⟩ := h
    refine mz_Go.callV (As := [.int x2]) (rest := []) (rfl : mz_find 50 (mz_rows mq_X10_classes) = some (50, .invokevirtual 200, 3, 151, 0, 200)) (rfl : mz_nth mq_tab 151 = some mq_X10_sizeOf) rfl rfl rfl rfl (Nat.le_of_ble_eq_true rfl) (Nat.le_of_ble_eq_true rfl) k2 ?_
    show mq_G mq_X10_classes (53, [some (.ref 77), some (.int x1), some (.int x2), o3, o4, o5], [.int r2], M) res
    obtain ⟨q4, q5, h⟩ := h
    obtain ⟨M3, e3⟩ : ∃ y, y = mz_wrl M 83 (vp_updL (M.2 83) (r2 - 1).toNatClampNeg ((M.2 83 (r2 - 1).toNatClampNeg) + ((1 : Int32).toInt64))) := ⟨_, rfl⟩
    replace h := h M3 e3
    refine mz_Go.steps (n := 11) (k2 := (66, [some (.ref 77), some (.int x1), some (.int x2), some (.int r2), o4, o5], [], (mz_wrl M 83 (vp_updL (M.2 83) (r2 - 1).toNatClampNeg ((M.2 83 (r2 - 1).toNatClampNeg) + ((1 : Int32).toInt64)))))) (P := [vp_in (r2 - 1) 64, vp_in (r2 - 1) 64]) rfl (mz_o2 q4 q5) ?_
    rw [← e3]
    refine mz_Go.steps (n := 4) (k2 := (72, [some (.ref 77), some (.int x1), some (.int x2), some (.int r2), some (.int 1), some (.int 1)], [], M3)) (P := []) rfl mz_o0 ?_
    exact h
set_option maxRecDepth 100000 in
set_option maxHeartbeats 4000000 in
theorem t_X10_classes_72 (x1 : Int32) (x2 : Int32) (x3 : Int32) (x4 : Int32) (x5 : Int32) (M : mz_M) {res : mz_O} (h :
    ((x3 ≤ x5 →
      ((x4 = 0 →
        mq_G mq_X10_classes (40, [some (.ref 77), some (.int (x1 + 0)), some (.int (x2 + 1)), some (.int x3), some (.int x4), some (.int x5)], [], M) res) ∧
      (¬ (x4 = 0) →
        mq_G mq_X10_classes (40, [some (.ref 77), some (.int (x1 + 1)), some (.int (x2 + 1)), some (.int x3), some (.int x4), some (.int x5)], [], M) res))) ∧
    (¬ (x3 ≤ x5) →
      ((x4 = 0 →
        mq_G mq_X10_classes (72, [some (.ref 77), some (.int x1), some (.int x2), some (.int x3), some (.int 0), some (.int (x5 + 1))], [], M) res) ∧
      (¬ (x4 = 0) →
        (∃ (r4 : Int32), (mq_C mq_X10_conj [.ref 77, .int x2, .int x5] M (some (.int r4), M)) ∧
        ((r4 ≤ x2 →
          mq_G mq_X10_classes (72, [some (.ref 77), some (.int x1), some (.int x2), some (.int x3), some (.int 0), some (.int (x5 + 1))], [], M) res) ∧
        (¬ (r4 ≤ x2) →
          mq_G mq_X10_classes (72, [some (.ref 77), some (.int x1), some (.int x2), some (.int x3), some (.int 1), some (.int (x5 + 1))], [], M) res)))))))) :
    mq_G mq_X10_classes (72, [some (.ref 77), some (.int x1), some (.int x2), some (.int x3), some (.int x4), some (.int x5)], [], M) res := by
  refine mz_Go.steps (n := 3) (k2 := (if x3 ≤ x5 then 107 else 78, [some (.ref 77), some (.int x1), some (.int x2), some (.int x3), some (.int x4), some (.int x5)], [], M)) (P := []) rfl mz_o0 ?_
  refine mz_Go.ite (fun c75 => ?_) (fun c75 => ?_)
  · replace h := h.1 c75
    refine mz_Go.steps (n := 3) (k2 := (if x4 = 0 then 117 else 113, [some (.ref 77), some (.int x1), some (.int x2), some (.int x3), some (.int x4), some (.int x5)], [.int x1], M)) (P := []) rfl mz_o0 ?_
    refine mz_Go.ite (fun c110 => ?_) (fun c110 => ?_)
    · replace h := h.1 c110
      refine mz_Go.steps (n := 5) (k2 := (40, [some (.ref 77), some (.int (x1 + 0)), some (.int (x2 + 1)), some (.int x3), some (.int x4), some (.int x5)], [], M)) (P := []) rfl mz_o0 ?_
      exact h
    · replace h := h.2 c110
      refine mz_Go.steps (n := 6) (k2 := (40, [some (.ref 77), some (.int (x1 + 1)), some (.int (x2 + 1)), some (.int x3), some (.int x4), some (.int x5)], [], M)) (P := []) rfl mz_o0 ?_
      exact h
  · replace h := h.2 c75
    refine mz_Go.steps (n := 2) (k2 := (if x4 = 0 then 98 else 83, [some (.ref 77), some (.int x1), some (.int x2), some (.int x3), some (.int x4), some (.int x5)], [], M)) (P := []) rfl mz_o0 ?_
    refine mz_Go.ite (fun c80 => ?_) (fun c80 => ?_)
    · replace h := h.1 c80
      refine mz_Go.steps (n := 4) (k2 := (72, [some (.ref 77), some (.int x1), some (.int x2), some (.int x3), some (.int 0), some (.int (x5 + 1))], [], M)) (P := []) rfl mz_o0 ?_
      exact h
    · replace h := h.2 c80
      refine mz_Go.steps (n := 3) (k2 := (87, [some (.ref 77), some (.int x1), some (.int x2), some (.int x3), some (.int x4), some (.int x5)], [.int x5, .int x2, .ref 77], M)) (P := []) rfl mz_o0 ?_
      obtain ⟨r4, k4, h⟩ := h
      refine mz_Go.callV (As := [.int x2, .int x5]) (rest := []) (rfl : mz_find 87 (mz_rows mq_X10_classes) = some (87, .invokevirtual 98, 3, 148, 0, 158)) (rfl : mz_nth mq_tab 148 = some mq_X10_conj) rfl rfl rfl rfl (Nat.le_of_ble_eq_true rfl) (Nat.le_of_ble_eq_true rfl) k4 ?_
      show mq_G mq_X10_classes (90, [some (.ref 77), some (.int x1), some (.int x2), some (.int x3), some (.int x4), some (.int x5)], [.int r4], M) res
      refine mz_Go.steps (n := 2) (k2 := (if r4 ≤ x2 then 98 else 94, [some (.ref 77), some (.int x1), some (.int x2), some (.int x3), some (.int x4), some (.int x5)], [], M)) (P := []) rfl mz_o0 ?_
      refine mz_Go.ite (fun c91 => ?_) (fun c91 => ?_)
      · replace h := h.1 c91
        refine mz_Go.steps (n := 4) (k2 := (72, [some (.ref 77), some (.int x1), some (.int x2), some (.int x3), some (.int 0), some (.int (x5 + 1))], [], M)) (P := []) rfl mz_o0 ?_
        exact h
      · replace h := h.2 c91
        refine mz_Go.steps (n := 5) (k2 := (72, [some (.ref 77), some (.int x1), some (.int x2), some (.int x3), some (.int 1), some (.int (x5 + 1))], [], M)) (P := []) rfl mz_o0 ?_
        exact h
set_option maxRecDepth 100000 in
set_option maxHeartbeats 4000000 in
theorem t_X10_generators_0 (M : mz_M) {res : mz_O} (h :
    (∀ M1 : mz_M, M1 = mz_wr M 77 (upd (M.1 77) 10 0) →
    mq_G mq_X10_generators (16, [some (.ref 77), some (.int 0), some (.int 0), some (.int ((M1.1 77 12) - 1))], [], M1) res)) :
    mq_G mq_X10_generators (0, [some (.ref 77), none, none, none], [], M) res := by
  obtain ⟨M1, e1⟩ : ∃ y, y = mz_wr M 77 (upd (M.1 77) 10 0) := ⟨_, rfl⟩
  replace h := h M1 e1
  refine mz_Go.steps (n := 3) (k2 := (5, [some (.ref 77), none, none, none], [], (mz_wr M 77 (upd (M.1 77) 10 0)))) (P := []) rfl mz_o0 ?_
  rw [← e1]
  refine mz_Go.steps (n := 9) (k2 := (16, [some (.ref 77), some (.int 0), some (.int 0), some (.int ((M1.1 77 12) - 1))], [], M1)) (P := []) rfl mz_o0 ?_
  exact h
set_option maxRecDepth 100000 in
set_option maxHeartbeats 4000000 in
theorem t_X10_generators_16 (x1 : Int32) (x2 : Int32) (x3 : Int32) (M : mz_M) {res : mz_O} (h :
    ((x3 ≤ 0 →
      (∀ M2 : mz_M, M2 = mz_wr M 77 (upd (M.1 77) 9 0) →
      (∃ (M3 : mz_M), (mq_C mq_X10_tell [.ref 77, .long (x2.toInt64)] M2 (none, M3)) ∧
      res = (some (.int x1), M3)))) ∧
    (¬ (x3 ≤ 0) →
      (∃ (r4 : Int32), (mq_C mq_X10_isGenerator [.ref 77, .int x3] M (some (.int r4), M)) ∧
      ((¬ r4 = 0 →
        mq_G mq_X10_generators (16, [some (.ref 77), some (.int (x1 + 1)), some (.int x3), some (.int (x3 + (-1)))], [], M) res) ∧
      (¬ (¬ r4 = 0) →
        mq_G mq_X10_generators (16, [some (.ref 77), some (.int x1), some (.int x2), some (.int (x3 + (-1)))], [], M) res)))))) :
    mq_G mq_X10_generators (16, [some (.ref 77), some (.int x1), some (.int x2), some (.int x3)], [], M) res := by
  refine mz_Go.steps (n := 2) (k2 := (if x3 ≤ 0 then 42 else 20, [some (.ref 77), some (.int x1), some (.int x2), some (.int x3)], [], M)) (P := []) rfl mz_o0 ?_
  refine mz_Go.ite (fun c17 => ?_) (fun c17 => ?_)
  · replace h := h.1 c17
    obtain ⟨M2, e2⟩ : ∃ y, y = mz_wr M 77 (upd (M.1 77) 9 0) := ⟨_, rfl⟩
    replace h := h M2 e2
    refine mz_Go.steps (n := 3) (k2 := (47, [some (.ref 77), some (.int x1), some (.int x2), some (.int x3)], [], (mz_wr M 77 (upd (M.1 77) 9 0)))) (P := []) rfl mz_o0 ?_
    rw [← e2]
    refine mz_Go.steps (n := 3) (k2 := (50, [some (.ref 77), some (.int x1), some (.int x2), some (.int x3)], [.long (x2.toInt64), .ref 77], M2)) (P := []) rfl mz_o0 ?_
    obtain ⟨M3, k3, h⟩ := h
    refine mz_Go.callV (As := [.long (x2.toInt64)]) (rest := []) (rfl : mz_find 50 (mz_rows mq_X10_generators) = some (50, .invokevirtual 194, 3, 135, 0, 198)) (rfl : mz_nth mq_tab 135 = some mq_X10_tell) rfl rfl rfl rfl (Nat.le_of_ble_eq_true rfl) (Nat.le_of_ble_eq_true rfl) k3 ?_
    show mq_G mq_X10_generators (53, [some (.ref 77), some (.int x1), some (.int x2), some (.int x3)], [], M3) res
    refine mz_Go.steps (n := 1) (k2 := (54, [some (.ref 77), some (.int x1), some (.int x2), some (.int x3)], [.int x1], M3)) (P := []) rfl mz_o0 ?_
    rw [h]
    exact mz_Go.iret (rfl : mz_find 54 (mz_rows mq_X10_generators) = some (54, .ireturn, 1, 0, 0, 0)) rfl
  · replace h := h.2 c17
    refine mz_Go.steps (n := 2) (k2 := (22, [some (.ref 77), some (.int x1), some (.int x2), some (.int x3)], [.int x3, .ref 77], M)) (P := []) rfl mz_o0 ?_
    obtain ⟨r4, k4, h⟩ := h
    refine mz_Go.callV (As := [.int x3]) (rest := []) (rfl : mz_find 22 (mz_rows mq_X10_generators) = some (22, .invokevirtual 191, 3, 153, 0, 197)) (rfl : mz_nth mq_tab 153 = some mq_X10_isGenerator) rfl rfl rfl rfl (Nat.le_of_ble_eq_true rfl) (Nat.le_of_ble_eq_true rfl) k4 ?_
    show mq_G mq_X10_generators (25, [some (.ref 77), some (.int x1), some (.int x2), some (.int x3)], [.int r4], M) res
    refine mz_Go.steps (n := 1) (k2 := (if ¬ r4 = 0 then 31 else 28, [some (.ref 77), some (.int x1), some (.int x2), some (.int x3)], [], M)) (P := []) rfl mz_o0 ?_
    refine mz_Go.ite (fun c25 => ?_) (fun c25 => ?_)
    · replace h := h.1 c25
      refine mz_Go.steps (n := 5) (k2 := (16, [some (.ref 77), some (.int (x1 + 1)), some (.int x3), some (.int (x3 + (-1)))], [], M)) (P := []) rfl mz_o0 ?_
      exact h
    · replace h := h.2 c25
      refine mz_Go.steps (n := 3) (k2 := (16, [some (.ref 77), some (.int x1), some (.int x2), some (.int (x3 + (-1)))], [], M)) (P := []) rfl mz_o0 ?_
      exact h
set_option maxRecDepth 100000 in
set_option maxHeartbeats 4000000 in
theorem t_X10_orders_0 (M : mz_M) {res : mz_O} (h :
    (∀ M1 : mz_M, M1 = mz_wr M 77 (upd (M.1 77) 10 0) →
    (∀ M2 : mz_M, M2 = mz_wr M1 77 (upd (M1.1 77) 9 0) →
    mq_G mq_X10_orders (14, [some (.ref 77), some (.int 0), some (.int 1), none, none], [], M2) res))) :
    mq_G mq_X10_orders (0, [some (.ref 77), none, none, none, none], [], M) res := by
  obtain ⟨M1, e1⟩ : ∃ y, y = mz_wr M 77 (upd (M.1 77) 10 0) := ⟨_, rfl⟩
  replace h := h M1 e1
  refine mz_Go.steps (n := 3) (k2 := (5, [some (.ref 77), none, none, none, none], [], (mz_wr M 77 (upd (M.1 77) 10 0)))) (P := []) rfl mz_o0 ?_
  rw [← e1]
  obtain ⟨M2, e2⟩ : ∃ y, y = mz_wr M1 77 (upd (M1.1 77) 9 0) := ⟨_, rfl⟩
  replace h := h M2 e2
  refine mz_Go.steps (n := 3) (k2 := (10, [some (.ref 77), none, none, none, none], [], (mz_wr M1 77 (upd (M1.1 77) 9 0)))) (P := []) rfl mz_o0 ?_
  rw [← e2]
  refine mz_Go.steps (n := 4) (k2 := (14, [some (.ref 77), some (.int 0), some (.int 1), none, none], [], M2)) (P := []) rfl mz_o0 ?_
  exact h
set_option maxRecDepth 100000 in
set_option maxHeartbeats 4000000 in
theorem t_X10_orders_14 (x1 : Int32) (x2 : Int32) (o3 : Option Value) (o4 : Option Value) (M : mz_M) {res : mz_O} (h :
    (((M.1 77 12) ≤ x2 →
      res = (some (.int x1), M)) ∧
    (¬ ((M.1 77 12) ≤ x2) →
      mq_G mq_X10_orders (27, [some (.ref 77), some (.int x1), some (.int x2), some (.int 0), some (.int 1)], [], M) res))) :
    mq_G mq_X10_orders (14, [some (.ref 77), some (.int x1), some (.int x2), o3, o4], [], M) res := by
  refine mz_Go.steps (n := 4) (k2 := (if (M.1 77 12) ≤ x2 then 88 else 22, [some (.ref 77), some (.int x1), some (.int x2), o3, o4], [], M)) (P := []) rfl mz_o0 ?_
  refine mz_Go.ite (fun c19 => ?_) (fun c19 => ?_)
  · replace h := h.1 c19
    refine mz_Go.steps (n := 1) (k2 := (89, [some (.ref 77), some (.int x1), some (.int x2), o3, o4], [.int x1], M)) (P := []) rfl mz_o0 ?_
    rw [h]
    exact mz_Go.iret (rfl : mz_find 89 (mz_rows mq_X10_orders) = some (89, .ireturn, 1, 0, 0, 0)) rfl
  · replace h := h.2 c19
    refine mz_Go.steps (n := 4) (k2 := (27, [some (.ref 77), some (.int x1), some (.int x2), some (.int 0), some (.int 1)], [], M)) (P := []) rfl mz_o0 ?_
    exact h
set_option maxRecDepth 100000 in
set_option maxHeartbeats 4000000 in
theorem t_X10_orders_27 (x1 : Int32) (x2 : Int32) (x3 : Int32) (x4 : Int32) (M : mz_M) {res : mz_O} (h :
    (((M.1 77 12) ≤ x4 →
      ((¬ x3 = 0 →
        (∃ (M3 : mz_M), (mq_C mq_X10_tell [.ref 77, .long (x2.toInt64)] M (none, M3)) ∧
        (∃ (M4 : mz_M), (mq_C mq_X10_tell [.ref 77, .long (x3.toInt64)] M3 (none, M4)) ∧
        mq_G mq_X10_orders (14, [some (.ref 77), some (.int (x1 + 1)), some (.int (x2 + 1)), some (.int x3), some (.int x4)], [], M4) res))) ∧
      (¬ (¬ x3 = 0) →
        mq_G mq_X10_orders (14, [some (.ref 77), some (.int x1), some (.int (x2 + 1)), some (.int x3), some (.int x4)], [], M) res))) ∧
    (¬ ((M.1 77 12) ≤ x4) →
      (∃ (r5 : Int32), (mq_C mq_X10_orderOf [.ref 77, .int x4] M (some (.int r5), M)) ∧
      ((¬ r5 = x2 →
        mq_G mq_X10_orders (27, [some (.ref 77), some (.int x1), some (.int x2), some (.int (x3 + 0)), some (.int (x4 + 1))], [], M) res) ∧
      (¬ (¬ r5 = x2) →
        mq_G mq_X10_orders (27, [some (.ref 77), some (.int x1), some (.int x2), some (.int (x3 + 1)), some (.int (x4 + 1))], [], M) res)))))) :
    mq_G mq_X10_orders (27, [some (.ref 77), some (.int x1), some (.int x2), some (.int x3), some (.int x4)], [], M) res := by
  refine mz_Go.steps (n := 4) (k2 := (if (M.1 77 12) ≤ x4 then 60 else 36, [some (.ref 77), some (.int x1), some (.int x2), some (.int x3), some (.int x4)], [], M)) (P := []) rfl mz_o0 ?_
  refine mz_Go.ite (fun c33 => ?_) (fun c33 => ?_)
  · replace h := h.1 c33
    refine mz_Go.steps (n := 2) (k2 := (if ¬ x3 = 0 then 67 else 64, [some (.ref 77), some (.int x1), some (.int x2), some (.int x3), some (.int x4)], [], M)) (P := []) rfl mz_o0 ?_
    refine mz_Go.ite (fun c61 => ?_) (fun c61 => ?_)
    · replace h := h.1 c61
      refine mz_Go.steps (n := 3) (k2 := (70, [some (.ref 77), some (.int x1), some (.int x2), some (.int x3), some (.int x4)], [.long (x2.toInt64), .ref 77], M)) (P := []) rfl mz_o0 ?_
      obtain ⟨M3, k3, h⟩ := h
      refine mz_Go.callV (As := [.long (x2.toInt64)]) (rest := []) (rfl : mz_find 70 (mz_rows mq_X10_orders) = some (70, .invokevirtual 194, 3, 135, 0, 198)) (rfl : mz_nth mq_tab 135 = some mq_X10_tell) rfl rfl rfl rfl (Nat.le_of_ble_eq_true rfl) (Nat.le_of_ble_eq_true rfl) k3 ?_
      show mq_G mq_X10_orders (73, [some (.ref 77), some (.int x1), some (.int x2), some (.int x3), some (.int x4)], [], M3) res
      refine mz_Go.steps (n := 3) (k2 := (76, [some (.ref 77), some (.int x1), some (.int x2), some (.int x3), some (.int x4)], [.long (x3.toInt64), .ref 77], M3)) (P := []) rfl mz_o0 ?_
      obtain ⟨M4, k4, h⟩ := h
      refine mz_Go.callV (As := [.long (x3.toInt64)]) (rest := []) (rfl : mz_find 76 (mz_rows mq_X10_orders) = some (76, .invokevirtual 194, 3, 135, 0, 198)) (rfl : mz_nth mq_tab 135 = some mq_X10_tell) rfl rfl rfl rfl (Nat.le_of_ble_eq_true rfl) (Nat.le_of_ble_eq_true rfl) k4 ?_
      show mq_G mq_X10_orders (79, [some (.ref 77), some (.int x1), some (.int x2), some (.int x3), some (.int x4)], [], M4) res
      refine mz_Go.steps (n := 3) (k2 := (14, [some (.ref 77), some (.int (x1 + 1)), some (.int (x2 + 1)), some (.int x3), some (.int x4)], [], M4)) (P := []) rfl mz_o0 ?_
      exact h
    · replace h := h.2 c61
      refine mz_Go.steps (n := 3) (k2 := (14, [some (.ref 77), some (.int x1), some (.int (x2 + 1)), some (.int x3), some (.int x4)], [], M)) (P := []) rfl mz_o0 ?_
      exact h
  · replace h := h.2 c33
    refine mz_Go.steps (n := 3) (k2 := (40, [some (.ref 77), some (.int x1), some (.int x2), some (.int x3), some (.int x4)], [.int x4, .ref 77, .int x3], M)) (P := []) rfl mz_o0 ?_
    obtain ⟨r5, k5, h⟩ := h
    refine mz_Go.callV (As := [.int x4]) (rest := [.int x3]) (rfl : mz_find 40 (mz_rows mq_X10_orders) = some (40, .invokevirtual 101, 3, 152, 0, 159)) (rfl : mz_nth mq_tab 152 = some mq_X10_orderOf) rfl rfl rfl rfl (Nat.le_of_ble_eq_true rfl) (Nat.le_of_ble_eq_true rfl) k5 ?_
    show mq_G mq_X10_orders (43, [some (.ref 77), some (.int x1), some (.int x2), some (.int x3), some (.int x4)], [.int r5, .int x3], M) res
    refine mz_Go.steps (n := 2) (k2 := (if ¬ r5 = x2 then 51 else 47, [some (.ref 77), some (.int x1), some (.int x2), some (.int x3), some (.int x4)], [.int x3], M)) (P := []) rfl mz_o0 ?_
    refine mz_Go.ite (fun c44 => ?_) (fun c44 => ?_)
    · replace h := h.1 c44
      refine mz_Go.steps (n := 5) (k2 := (27, [some (.ref 77), some (.int x1), some (.int x2), some (.int (x3 + 0)), some (.int (x4 + 1))], [], M)) (P := []) rfl mz_o0 ?_
      exact h
    · replace h := h.2 c44
      refine mz_Go.steps (n := 6) (k2 := (27, [some (.ref 77), some (.int x1), some (.int x2), some (.int (x3 + 1)), some (.int (x4 + 1))], [], M)) (P := []) rfl mz_o0 ?_
      exact h
set_option maxRecDepth 100000 in
set_option maxHeartbeats 4000000 in
theorem t_X10_quadratic_0 (x1 : Int32) (x2 : Int32) (x3 : Int32) (M : mz_M) {res : mz_O} (h :
    (∀ M1 : mz_M, M1 = mz_wr M 77 (upd (M.1 77) 10 0) →
    (∃ (r2 : Int32), (mq_C mq_X10_isElement [.ref 77, .int x1] M1 (some (.int r2), M1)) ∧
    ((r2 = 0 →
      res = (some (.int (-1)), M1)) ∧
    (¬ (r2 = 0) →
      (∃ (r4 : Int32), (mq_C mq_X10_isElement [.ref 77, .int x2] M1 (some (.int r4), M1)) ∧
      ((r4 = 0 →
        res = (some (.int (-1)), M1)) ∧
      (¬ (r4 = 0) →
        (∃ (r6 : Int32), (mq_C mq_X10_isElement [.ref 77, .int x3] M1 (some (.int r6), M1)) ∧
        ((¬ r6 = 0 →
          (∀ M8 : mz_M, M8 = mz_wr M1 77 (upd (M1.1 77) 9 0) →
          mq_G mq_X10_quadratic (42, [some (.ref 77), some (.int x1), some (.int x2), some (.int x3), some (.int 0), some (.int 0)], [], M8) res)) ∧
        (¬ (¬ r6 = 0) →
          res = (some (.int (-1)), M1)))))))))))) :
    mq_G mq_X10_quadratic (0, [some (.ref 77), some (.int x1), some (.int x2), some (.int x3), none, none], [], M) res := by
  obtain ⟨M1, e1⟩ : ∃ y, y = mz_wr M 77 (upd (M.1 77) 10 0) := ⟨_, rfl⟩
  replace h := h M1 e1
  refine mz_Go.steps (n := 3) (k2 := (5, [some (.ref 77), some (.int x1), some (.int x2), some (.int x3), none, none], [], (mz_wr M 77 (upd (M.1 77) 10 0)))) (P := []) rfl mz_o0 ?_
  rw [← e1]
  refine mz_Go.steps (n := 2) (k2 := (7, [some (.ref 77), some (.int x1), some (.int x2), some (.int x3), none, none], [.int x1, .ref 77], M1)) (P := []) rfl mz_o0 ?_
  obtain ⟨r2, k2, h⟩ := h
  refine mz_Go.callV (As := [.int x1]) (rest := []) (rfl : mz_find 7 (mz_rows mq_X10_quadratic) = some (7, .invokevirtual 183, 3, 156, 0, 194)) (rfl : mz_nth mq_tab 156 = some mq_X10_isElement) rfl rfl rfl rfl (Nat.le_of_ble_eq_true rfl) (Nat.le_of_ble_eq_true rfl) k2 ?_
  show mq_G mq_X10_quadratic (10, [some (.ref 77), some (.int x1), some (.int x2), some (.int x3), none, none], [.int r2], M1) res
  refine mz_Go.steps (n := 1) (k2 := (if r2 = 0 then 29 else 13, [some (.ref 77), some (.int x1), some (.int x2), some (.int x3), none, none], [], M1)) (P := []) rfl mz_o0 ?_
  refine mz_Go.ite (fun c10 => ?_) (fun c10 => ?_)
  · replace h := h.1 c10
    refine mz_Go.steps (n := 1) (k2 := (30, [some (.ref 77), some (.int x1), some (.int x2), some (.int x3), none, none], [.int (-1)], M1)) (P := []) rfl mz_o0 ?_
    rw [h]
    exact mz_Go.iret (rfl : mz_find 30 (mz_rows mq_X10_quadratic) = some (30, .ireturn, 1, 0, 0, 0)) rfl
  · replace h := h.2 c10
    refine mz_Go.steps (n := 2) (k2 := (15, [some (.ref 77), some (.int x1), some (.int x2), some (.int x3), none, none], [.int x2, .ref 77], M1)) (P := []) rfl mz_o0 ?_
    obtain ⟨r4, k4, h⟩ := h
    refine mz_Go.callV (As := [.int x2]) (rest := []) (rfl : mz_find 15 (mz_rows mq_X10_quadratic) = some (15, .invokevirtual 183, 3, 156, 0, 194)) (rfl : mz_nth mq_tab 156 = some mq_X10_isElement) rfl rfl rfl rfl (Nat.le_of_ble_eq_true rfl) (Nat.le_of_ble_eq_true rfl) k4 ?_
    show mq_G mq_X10_quadratic (18, [some (.ref 77), some (.int x1), some (.int x2), some (.int x3), none, none], [.int r4], M1) res
    refine mz_Go.steps (n := 1) (k2 := (if r4 = 0 then 29 else 21, [some (.ref 77), some (.int x1), some (.int x2), some (.int x3), none, none], [], M1)) (P := []) rfl mz_o0 ?_
    refine mz_Go.ite (fun c18 => ?_) (fun c18 => ?_)
    · replace h := h.1 c18
      refine mz_Go.steps (n := 1) (k2 := (30, [some (.ref 77), some (.int x1), some (.int x2), some (.int x3), none, none], [.int (-1)], M1)) (P := []) rfl mz_o0 ?_
      rw [h]
      exact mz_Go.iret (rfl : mz_find 30 (mz_rows mq_X10_quadratic) = some (30, .ireturn, 1, 0, 0, 0)) rfl
    · replace h := h.2 c18
      refine mz_Go.steps (n := 2) (k2 := (23, [some (.ref 77), some (.int x1), some (.int x2), some (.int x3), none, none], [.int x3, .ref 77], M1)) (P := []) rfl mz_o0 ?_
      obtain ⟨r6, k6, h⟩ := h
      refine mz_Go.callV (As := [.int x3]) (rest := []) (rfl : mz_find 23 (mz_rows mq_X10_quadratic) = some (23, .invokevirtual 183, 3, 156, 0, 194)) (rfl : mz_nth mq_tab 156 = some mq_X10_isElement) rfl rfl rfl rfl (Nat.le_of_ble_eq_true rfl) (Nat.le_of_ble_eq_true rfl) k6 ?_
      show mq_G mq_X10_quadratic (26, [some (.ref 77), some (.int x1), some (.int x2), some (.int x3), none, none], [.int r6], M1) res
      refine mz_Go.steps (n := 1) (k2 := (if ¬ r6 = 0 then 31 else 29, [some (.ref 77), some (.int x1), some (.int x2), some (.int x3), none, none], [], M1)) (P := []) rfl mz_o0 ?_
      refine mz_Go.ite (fun c26 => ?_) (fun c26 => ?_)
      · replace h := h.1 c26
        obtain ⟨M8, e8⟩ : ∃ y, y = mz_wr M1 77 (upd (M1.1 77) 9 0) := ⟨_, rfl⟩
        replace h := h M8 e8
        refine mz_Go.steps (n := 5) (k2 := (39, [some (.ref 77), some (.int x1), some (.int x2), some (.int x3), some (.int 0), none], [], (mz_wr M1 77 (upd (M1.1 77) 9 0)))) (P := []) rfl mz_o0 ?_
        rw [← e8]
        refine mz_Go.steps (n := 2) (k2 := (42, [some (.ref 77), some (.int x1), some (.int x2), some (.int x3), some (.int 0), some (.int 0)], [], M8)) (P := []) rfl mz_o0 ?_
        exact h
      · replace h := h.2 c26
        refine mz_Go.steps (n := 1) (k2 := (30, [some (.ref 77), some (.int x1), some (.int x2), some (.int x3), none, none], [.int (-1)], M1)) (P := []) rfl mz_o0 ?_
        rw [h]
        exact mz_Go.iret (rfl : mz_find 30 (mz_rows mq_X10_quadratic) = some (30, .ireturn, 1, 0, 0, 0)) rfl
set_option maxRecDepth 100000 in
set_option maxHeartbeats 4000000 in
theorem t_X10_quadratic_42 (x1 : Int32) (x2 : Int32) (x3 : Int32) (x4 : Int32) (x5 : Int32) (M : mz_M) {res : mz_O} (h :
    (((M.1 77 12) ≤ x5 →
      res = (some (.int x4), M)) ∧
    (¬ ((M.1 77 12) ≤ x5) →
      (∃ (r2 : Int32), (mq_C mq_X10_times [.ref 77, .int x5, .int x5] M (some (.int r2), M)) ∧
      (∃ (r3 : Int32), (mq_C mq_X10_times [.ref 77, .int x1, .int r2] M (some (.int r3), M)) ∧
      (∃ (r4 : Int32), (mq_C mq_X10_times [.ref 77, .int x2, .int x5] M (some (.int r4), M)) ∧
      (((r3 ^^^ r4) = x3 →
        ((8 ≤ x4 →
          mq_G mq_X10_quadratic (42, [some (.ref 77), some (.int x1), some (.int x2), some (.int x3), some (.int (x4 + 1)), some (.int (x5 + 1))], [], M) res) ∧
        (¬ (8 ≤ x4) →
          (∃ (M7 : mz_M), (mq_C mq_X10_tell [.ref 77, .long (x5.toInt64)] M (none, M7)) ∧
          mq_G mq_X10_quadratic (42, [some (.ref 77), some (.int x1), some (.int x2), some (.int x3), some (.int (x4 + 1)), some (.int (x5 + 1))], [], M7) res)))) ∧
      (¬ ((r3 ^^^ r4) = x3) →
        mq_G mq_X10_quadratic (42, [some (.ref 77), some (.int x1), some (.int x2), some (.int x3), some (.int x4), some (.int (x5 + 1))], [], M) res)))))))) :
    mq_G mq_X10_quadratic (42, [some (.ref 77), some (.int x1), some (.int x2), some (.int x3), some (.int x4), some (.int x5)], [], M) res := by
  refine mz_Go.steps (n := 4) (k2 := (if (M.1 77 12) ≤ x5 then 102 else 51, [some (.ref 77), some (.int x1), some (.int x2), some (.int x3), some (.int x4), some (.int x5)], [], M)) (P := []) rfl mz_o0 ?_
  refine mz_Go.ite (fun c48 => ?_) (fun c48 => ?_)
  · replace h := h.1 c48
    refine mz_Go.steps (n := 1) (k2 := (104, [some (.ref 77), some (.int x1), some (.int x2), some (.int x3), some (.int x4), some (.int x5)], [.int x4], M)) (P := []) rfl mz_o0 ?_
    rw [h]
    exact mz_Go.iret (rfl : mz_find 104 (mz_rows mq_X10_quadratic) = some (104, .ireturn, 1, 0, 0, 0)) rfl
  · replace h := h.2 c48
    refine mz_Go.steps (n := 5) (k2 := (58, [some (.ref 77), some (.int x1), some (.int x2), some (.int x3), some (.int x4), some (.int x5)], [.int x5, .int x5, .ref 77, .int x1, .ref 77], M)) (P := []) rfl mz_o0 ?_
    obtain ⟨r2, k2, h⟩ := h
    refine mz_Go.callV (As := [.int x5, .int x5]) (rest := [.int x1, .ref 77]) (rfl : mz_find 58 (mz_rows mq_X10_quadratic) = some (58, .invokevirtual 92, 3, 147, 0, 156)) (rfl : mz_nth mq_tab 147 = some mq_X10_times) rfl rfl rfl rfl (Nat.le_of_ble_eq_true rfl) (Nat.le_of_ble_eq_true rfl) k2 ?_
    show mq_G mq_X10_quadratic (61, [some (.ref 77), some (.int x1), some (.int x2), some (.int x3), some (.int x4), some (.int x5)], [.int r2, .int x1, .ref 77], M) res
    obtain ⟨r3, k3, h⟩ := h
    refine mz_Go.callV (As := [.int x1, .int r2]) (rest := []) (rfl : mz_find 61 (mz_rows mq_X10_quadratic) = some (61, .invokevirtual 92, 3, 147, 0, 156)) (rfl : mz_nth mq_tab 147 = some mq_X10_times) rfl rfl rfl rfl (Nat.le_of_ble_eq_true rfl) (Nat.le_of_ble_eq_true rfl) k3 ?_
    show mq_G mq_X10_quadratic (64, [some (.ref 77), some (.int x1), some (.int x2), some (.int x3), some (.int x4), some (.int x5)], [.int r3], M) res
    refine mz_Go.steps (n := 3) (k2 := (68, [some (.ref 77), some (.int x1), some (.int x2), some (.int x3), some (.int x4), some (.int x5)], [.int x5, .int x2, .ref 77, .int r3], M)) (P := []) rfl mz_o0 ?_
    obtain ⟨r4, k4, h⟩ := h
    refine mz_Go.callV (As := [.int x2, .int x5]) (rest := [.int r3]) (rfl : mz_find 68 (mz_rows mq_X10_quadratic) = some (68, .invokevirtual 92, 3, 147, 0, 156)) (rfl : mz_nth mq_tab 147 = some mq_X10_times) rfl rfl rfl rfl (Nat.le_of_ble_eq_true rfl) (Nat.le_of_ble_eq_true rfl) k4 ?_
    show mq_G mq_X10_quadratic (71, [some (.ref 77), some (.int x1), some (.int x2), some (.int x3), some (.int x4), some (.int x5)], [.int r4, .int r3], M) res
    refine mz_Go.steps (n := 3) (k2 := (if (r3 ^^^ r4) = x3 then 79 else 76, [some (.ref 77), some (.int x1), some (.int x2), some (.int x3), some (.int x4), some (.int x5)], [], M)) (P := []) rfl mz_o0 ?_
    refine mz_Go.ite (fun c73 => ?_) (fun c73 => ?_)
    · replace h := h.1 c73
      refine mz_Go.steps (n := 3) (k2 := (if 8 ≤ x4 then 93 else 86, [some (.ref 77), some (.int x1), some (.int x2), some (.int x3), some (.int x4), some (.int x5)], [], M)) (P := []) rfl mz_o0 ?_
      refine mz_Go.ite (fun c83 => ?_) (fun c83 => ?_)
      · replace h := h.1 c83
        refine mz_Go.steps (n := 3) (k2 := (42, [some (.ref 77), some (.int x1), some (.int x2), some (.int x3), some (.int (x4 + 1)), some (.int (x5 + 1))], [], M)) (P := []) rfl mz_o0 ?_
        exact h
      · replace h := h.2 c83
        refine mz_Go.steps (n := 3) (k2 := (90, [some (.ref 77), some (.int x1), some (.int x2), some (.int x3), some (.int x4), some (.int x5)], [.long (x5.toInt64), .ref 77], M)) (P := []) rfl mz_o0 ?_
        obtain ⟨M7, k7, h⟩ := h
        refine mz_Go.callV (As := [.long (x5.toInt64)]) (rest := []) (rfl : mz_find 90 (mz_rows mq_X10_quadratic) = some (90, .invokevirtual 194, 3, 135, 0, 198)) (rfl : mz_nth mq_tab 135 = some mq_X10_tell) rfl rfl rfl rfl (Nat.le_of_ble_eq_true rfl) (Nat.le_of_ble_eq_true rfl) k7 ?_
        show mq_G mq_X10_quadratic (93, [some (.ref 77), some (.int x1), some (.int x2), some (.int x3), some (.int x4), some (.int x5)], [], M7) res
        refine mz_Go.steps (n := 3) (k2 := (42, [some (.ref 77), some (.int x1), some (.int x2), some (.int x3), some (.int (x4 + 1)), some (.int (x5 + 1))], [], M7)) (P := []) rfl mz_o0 ?_
        exact h
    · replace h := h.2 c73
      refine mz_Go.steps (n := 3) (k2 := (42, [some (.ref 77), some (.int x1), some (.int x2), some (.int x3), some (.int x4), some (.int (x5 + 1))], [], M)) (P := []) rfl mz_o0 ?_
      exact h
set_option maxRecDepth 100000 in
set_option maxHeartbeats 4000000 in
theorem t_X10_subfield_0 (x1 : Int32) (M : mz_M) {res : mz_O} (h :
    (∀ M1 : mz_M, M1 = mz_wr M 77 (upd (M.1 77) 10 0) →
    (∃ (r2 : Int32), (mq_C mq_X10_isPart [.ref 77, .int x1] M1 (some (.int r2), M1)) ∧
    ((¬ r2 = 0 →
      (∃ (M4 : mz_M), (mq_C mq_X10_takesSubbase [.ref 77, .int x1] M1 (none, M4)) ∧
      (∀ M5 : mz_M, M5 = mz_wr M4 77 (upd (M4.1 77) 9 0) →
      mq_G mq_X10_subfield (27, [some (.ref 77), some (.int x1), some (.int 0)], [], M5) res))) ∧
    (¬ (¬ r2 = 0) →
      res = (some (.int (-1)), M1)))))) :
    mq_G mq_X10_subfield (0, [some (.ref 77), some (.int x1), none], [], M) res := by
  obtain ⟨M1, e1⟩ : ∃ y, y = mz_wr M 77 (upd (M.1 77) 10 0) := ⟨_, rfl⟩
  replace h := h M1 e1
  refine mz_Go.steps (n := 3) (k2 := (5, [some (.ref 77), some (.int x1), none], [], (mz_wr M 77 (upd (M.1 77) 10 0)))) (P := []) rfl mz_o0 ?_
  rw [← e1]
  refine mz_Go.steps (n := 2) (k2 := (7, [some (.ref 77), some (.int x1), none], [.int x1, .ref 77], M1)) (P := []) rfl mz_o0 ?_
  obtain ⟨r2, k2, h⟩ := h
  refine mz_Go.callV (As := [.int x1]) (rest := []) (rfl : mz_find 7 (mz_rows mq_X10_subfield) = some (7, .invokevirtual 206, 3, 157, 0, 202)) (rfl : mz_nth mq_tab 157 = some mq_X10_isPart) rfl rfl rfl rfl (Nat.le_of_ble_eq_true rfl) (Nat.le_of_ble_eq_true rfl) k2 ?_
  show mq_G mq_X10_subfield (10, [some (.ref 77), some (.int x1), none], [.int r2], M1) res
  refine mz_Go.steps (n := 1) (k2 := (if ¬ r2 = 0 then 15 else 13, [some (.ref 77), some (.int x1), none], [], M1)) (P := []) rfl mz_o0 ?_
  refine mz_Go.ite (fun c10 => ?_) (fun c10 => ?_)
  · replace h := h.1 c10
    refine mz_Go.steps (n := 2) (k2 := (17, [some (.ref 77), some (.int x1), none], [.int x1, .ref 77], M1)) (P := []) rfl mz_o0 ?_
    obtain ⟨M4, k4, h⟩ := h
    refine mz_Go.callV (As := [.int x1]) (rest := []) (rfl : mz_find 17 (mz_rows mq_X10_subfield) = some (17, .invokevirtual 117, 3, 163, 0, 167)) (rfl : mz_nth mq_tab 163 = some mq_X10_takesSubbase) rfl rfl rfl rfl (Nat.le_of_ble_eq_true rfl) (Nat.le_of_ble_eq_true rfl) k4 ?_
    show mq_G mq_X10_subfield (20, [some (.ref 77), some (.int x1), none], [], M4) res
    obtain ⟨M5, e5⟩ : ∃ y, y = mz_wr M4 77 (upd (M4.1 77) 9 0) := ⟨_, rfl⟩
    replace h := h M5 e5
    refine mz_Go.steps (n := 3) (k2 := (25, [some (.ref 77), some (.int x1), none], [], (mz_wr M4 77 (upd (M4.1 77) 9 0)))) (P := []) rfl mz_o0 ?_
    rw [← e5]
    refine mz_Go.steps (n := 2) (k2 := (27, [some (.ref 77), some (.int x1), some (.int 0)], [], M5)) (P := []) rfl mz_o0 ?_
    exact h
  · replace h := h.2 c10
    refine mz_Go.steps (n := 1) (k2 := (14, [some (.ref 77), some (.int x1), none], [.int (-1)], M1)) (P := []) rfl mz_o0 ?_
    rw [h]
    exact mz_Go.iret (rfl : mz_find 14 (mz_rows mq_X10_subfield) = some (14, .ireturn, 1, 0, 0, 0)) rfl
set_option maxRecDepth 100000 in
set_option maxHeartbeats 4000000 in
theorem t_X10_subfield_27 (x1 : Int32) (x2 : Int32) (M : mz_M) {res : mz_O} (h :
    ((x1 ≤ x2 →
      res = (some (.int ((1 : Int32) <<< (x1 &&& 31))), M)) ∧
    (¬ (x1 ≤ x2) →
      (vp_in x2 8) ∧
      (∃ (M3 : mz_M), (mq_C mq_X10_tell [.ref 77, .long ((M.1 86 x2.toNatClampNeg).toInt64)] M (none, M3)) ∧
      mq_G mq_X10_subfield (27, [some (.ref 77), some (.int x1), some (.int (x2 + 1))], [], M3) res)))) :
    mq_G mq_X10_subfield (27, [some (.ref 77), some (.int x1), some (.int x2)], [], M) res := by
  refine mz_Go.steps (n := 3) (k2 := (if x1 ≤ x2 then 49 else 32, [some (.ref 77), some (.int x1), some (.int x2)], [], M)) (P := []) rfl mz_o0 ?_
  refine mz_Go.ite (fun c29 => ?_) (fun c29 => ?_)
  · replace h := h.1 c29
    refine mz_Go.steps (n := 3) (k2 := (52, [some (.ref 77), some (.int x1), some (.int x2)], [.int ((1 : Int32) <<< (x1 &&& 31))], M)) (P := []) rfl mz_o0 ?_
    rw [h]
    exact mz_Go.iret (rfl : mz_find 52 (mz_rows mq_X10_subfield) = some (52, .ireturn, 1, 0, 0, 0)) rfl
  · replace h := h.2 c29
    obtain ⟨q2, h⟩ := h
    refine mz_Go.steps (n := 6) (k2 := (40, [some (.ref 77), some (.int x1), some (.int x2)], [.long ((M.1 86 x2.toNatClampNeg).toInt64), .ref 77], M)) (P := [vp_in x2 8]) rfl (mz_o1 q2) ?_
    obtain ⟨M3, k3, h⟩ := h
    refine mz_Go.callV (As := [.long ((M.1 86 x2.toNatClampNeg).toInt64)]) (rest := []) (rfl : mz_find 40 (mz_rows mq_X10_subfield) = some (40, .invokevirtual 194, 3, 135, 0, 198)) (rfl : mz_nth mq_tab 135 = some mq_X10_tell) rfl rfl rfl rfl (Nat.le_of_ble_eq_true rfl) (Nat.le_of_ble_eq_true rfl) k3 ?_
    show mq_G mq_X10_subfield (43, [some (.ref 77), some (.int x1), some (.int x2)], [], M3) res
    refine mz_Go.steps (n := 2) (k2 := (27, [some (.ref 77), some (.int x1), some (.int (x2 + 1))], [], M3)) (P := []) rfl mz_o0 ?_
    exact h
set_option maxRecDepth 100000 in
set_option maxHeartbeats 4000000 in
theorem t_X10_normal_0 (x1 : Int32) (M : mz_M) {res : mz_O} (h :
    (∀ M1 : mz_M, M1 = mz_wr M 77 (upd (M.1 77) 10 0) →
    (∃ (r2 : Int32), (mq_C mq_X10_isElement [.ref 77, .int x1] M1 (some (.int r2), M1)) ∧
    ((¬ r2 = 0 →
      (∃ (M4 : mz_M), (mq_C mq_X10_takesConjugates [.ref 77, .int x1] M1 (none, M4)) ∧
      (∃ (r5 : Int32) (M5 : mz_M), (mq_C mq_X10_rank [.ref 77, .int (M4.1 77 11)] M4 (some (.int r5), M5)) ∧
      (∀ M6 : mz_M, M6 = mz_wr M5 77 (upd (M5.1 77) 9 0) →
      (∃ (M7 : mz_M), (mq_C mq_X10_tell [.ref 77, .long (r5.toInt64)] M6 (none, M7)) ∧
      ((¬ r5 = (M7.1 77 11) →
        res = (some (.int 0), M7)) ∧
      (¬ (¬ r5 = (M7.1 77 11)) →
        res = (some (.int 1), M7)))))))) ∧
    (¬ (¬ r2 = 0) →
      res = (some (.int (-1)), M1)))))) :
    mq_G mq_X10_normal (0, [some (.ref 77), some (.int x1), none], [], M) res := by
  obtain ⟨M1, e1⟩ : ∃ y, y = mz_wr M 77 (upd (M.1 77) 10 0) := ⟨_, rfl⟩
  replace h := h M1 e1
  refine mz_Go.steps (n := 3) (k2 := (5, [some (.ref 77), some (.int x1), none], [], (mz_wr M 77 (upd (M.1 77) 10 0)))) (P := []) rfl mz_o0 ?_
  rw [← e1]
  refine mz_Go.steps (n := 2) (k2 := (7, [some (.ref 77), some (.int x1), none], [.int x1, .ref 77], M1)) (P := []) rfl mz_o0 ?_
  obtain ⟨r2, k2, h⟩ := h
  refine mz_Go.callV (As := [.int x1]) (rest := []) (rfl : mz_find 7 (mz_rows mq_X10_normal) = some (7, .invokevirtual 183, 3, 156, 0, 194)) (rfl : mz_nth mq_tab 156 = some mq_X10_isElement) rfl rfl rfl rfl (Nat.le_of_ble_eq_true rfl) (Nat.le_of_ble_eq_true rfl) k2 ?_
  show mq_G mq_X10_normal (10, [some (.ref 77), some (.int x1), none], [.int r2], M1) res
  refine mz_Go.steps (n := 1) (k2 := (if ¬ r2 = 0 then 15 else 13, [some (.ref 77), some (.int x1), none], [], M1)) (P := []) rfl mz_o0 ?_
  refine mz_Go.ite (fun c10 => ?_) (fun c10 => ?_)
  · replace h := h.1 c10
    refine mz_Go.steps (n := 2) (k2 := (17, [some (.ref 77), some (.int x1), none], [.int x1, .ref 77], M1)) (P := []) rfl mz_o0 ?_
    obtain ⟨M4, k4, h⟩ := h
    refine mz_Go.callV (As := [.int x1]) (rest := []) (rfl : mz_find 17 (mz_rows mq_X10_normal) = some (17, .invokevirtual 111, 3, 161, 0, 164)) (rfl : mz_nth mq_tab 161 = some mq_X10_takesConjugates) rfl rfl rfl rfl (Nat.le_of_ble_eq_true rfl) (Nat.le_of_ble_eq_true rfl) k4 ?_
    show mq_G mq_X10_normal (20, [some (.ref 77), some (.int x1), none], [], M4) res
    refine mz_Go.steps (n := 3) (k2 := (25, [some (.ref 77), some (.int x1), none], [.int (M4.1 77 11), .ref 77], M4)) (P := []) rfl mz_o0 ?_
    obtain ⟨r5, M5, k5, h⟩ := h
    refine mz_Go.callV (As := [.int (M4.1 77 11)]) (rest := []) (rfl : mz_find 25 (mz_rows mq_X10_normal) = some (25, .invokevirtual 114, 3, 160, 0, 165)) (rfl : mz_nth mq_tab 160 = some mq_X10_rank) rfl rfl rfl rfl (Nat.le_of_ble_eq_true rfl) (Nat.le_of_ble_eq_true rfl) k5 ?_
    show mq_G mq_X10_normal (28, [some (.ref 77), some (.int x1), none], [.int r5], M5) res
    obtain ⟨M6, e6⟩ : ∃ y, y = mz_wr M5 77 (upd (M5.1 77) 9 0) := ⟨_, rfl⟩
    replace h := h M6 e6
    refine mz_Go.steps (n := 4) (k2 := (34, [some (.ref 77), some (.int x1), some (.int r5)], [], (mz_wr M5 77 (upd (M5.1 77) 9 0)))) (P := []) rfl mz_o0 ?_
    rw [← e6]
    refine mz_Go.steps (n := 3) (k2 := (37, [some (.ref 77), some (.int x1), some (.int r5)], [.long (r5.toInt64), .ref 77], M6)) (P := []) rfl mz_o0 ?_
    obtain ⟨M7, k7, h⟩ := h
    refine mz_Go.callV (As := [.long (r5.toInt64)]) (rest := []) (rfl : mz_find 37 (mz_rows mq_X10_normal) = some (37, .invokevirtual 194, 3, 135, 0, 198)) (rfl : mz_nth mq_tab 135 = some mq_X10_tell) rfl rfl rfl rfl (Nat.le_of_ble_eq_true rfl) (Nat.le_of_ble_eq_true rfl) k7 ?_
    show mq_G mq_X10_normal (40, [some (.ref 77), some (.int x1), some (.int r5)], [], M7) res
    refine mz_Go.steps (n := 4) (k2 := (if ¬ r5 = (M7.1 77 11) then 52 else 48, [some (.ref 77), some (.int x1), some (.int r5)], [], M7)) (P := []) rfl mz_o0 ?_
    refine mz_Go.ite (fun c45 => ?_) (fun c45 => ?_)
    · replace h := h.1 c45
      refine mz_Go.steps (n := 1) (k2 := (53, [some (.ref 77), some (.int x1), some (.int r5)], [.int 0], M7)) (P := []) rfl mz_o0 ?_
      rw [h]
      exact mz_Go.iret (rfl : mz_find 53 (mz_rows mq_X10_normal) = some (53, .ireturn, 1, 0, 0, 0)) rfl
    · replace h := h.2 c45
      refine mz_Go.steps (n := 2) (k2 := (53, [some (.ref 77), some (.int x1), some (.int r5)], [.int 1], M7)) (P := []) rfl mz_o0 ?_
      rw [h]
      exact mz_Go.iret (rfl : mz_find 53 (mz_rows mq_X10_normal) = some (53, .ireturn, 1, 0, 0, 0)) rfl
  · replace h := h.2 c10
    refine mz_Go.steps (n := 1) (k2 := (14, [some (.ref 77), some (.int x1), none], [.int (-1)], M1)) (P := []) rfl mz_o0 ?_
    rw [h]
    exact mz_Go.iret (rfl : mz_find 14 (mz_rows mq_X10_normal) = some (14, .ireturn, 1, 0, 0, 0)) rfl
set_option maxRecDepth 100000 in
set_option maxHeartbeats 4000000 in
theorem t_X10_normals_0 (M : mz_M) {res : mz_O} (h :
    (∀ M1 : mz_M, M1 = mz_wr M 77 (upd (M.1 77) 10 0) →
    mq_G mq_X10_normals (19, [some (.ref 77), some (.int 0), some (.int (-1)), some (.int (-1)), some (.int ((M1.1 77 12) - 1))], [], M1) res)) :
    mq_G mq_X10_normals (0, [some (.ref 77), none, none, none, none], [], M) res := by
  obtain ⟨M1, e1⟩ : ∃ y, y = mz_wr M 77 (upd (M.1 77) 10 0) := ⟨_, rfl⟩
  replace h := h M1 e1
  refine mz_Go.steps (n := 3) (k2 := (5, [some (.ref 77), none, none, none, none], [], (mz_wr M 77 (upd (M.1 77) 10 0)))) (P := []) rfl mz_o0 ?_
  rw [← e1]
  refine mz_Go.steps (n := 11) (k2 := (19, [some (.ref 77), some (.int 0), some (.int (-1)), some (.int (-1)), some (.int ((M1.1 77 12) - 1))], [], M1)) (P := []) rfl mz_o0 ?_
  exact h
set_option maxRecDepth 100000 in
set_option maxHeartbeats 4000000 in
theorem t_X10_normals_19 (x1 : Int32) (x2 : Int32) (x3 : Int32) (x4 : Int32) (M : mz_M) {res : mz_O} (h :
    ((x4 ≤ 0 →
      (∀ M2 : mz_M, M2 = mz_wr M 77 (upd (M.1 77) 9 0) →
      (∃ (M3 : mz_M), (mq_C mq_X10_tell [.ref 77, .long (x2.toInt64)] M2 (none, M3)) ∧
      (∃ (M4 : mz_M), (mq_C mq_X10_tell [.ref 77, .long (x3.toInt64)] M3 (none, M4)) ∧
      res = (some (.int x1), M4))))) ∧
    (¬ (x4 ≤ 0) →
      (∃ (r5 : Int32) (M5 : mz_M), (mq_C mq_X10_isNormal [.ref 77, .int x4] M (some (.int r5), M5)) ∧
      ((¬ r5 = 0 →
        (∃ (r7 : Int32), (mq_C mq_X10_isGenerator [.ref 77, .int x4] M5 (some (.int r7), M5)) ∧
        ((r7 = 0 →
          mq_G mq_X10_normals (19, [some (.ref 77), some (.int (x1 + 1)), some (.int x4), some (.int x3), some (.int (x4 + (-1)))], [], M5) res) ∧
        (¬ (r7 = 0) →
          mq_G mq_X10_normals (19, [some (.ref 77), some (.int (x1 + 1)), some (.int x4), some (.int x4), some (.int (x4 + (-1)))], [], M5) res)))) ∧
      (¬ (¬ r5 = 0) →
        mq_G mq_X10_normals (19, [some (.ref 77), some (.int x1), some (.int x2), some (.int x3), some (.int (x4 + (-1)))], [], M5) res)))))) :
    mq_G mq_X10_normals (19, [some (.ref 77), some (.int x1), some (.int x2), some (.int x3), some (.int x4)], [], M) res := by
  refine mz_Go.steps (n := 2) (k2 := (if x4 ≤ 0 then 64 else 24, [some (.ref 77), some (.int x1), some (.int x2), some (.int x3), some (.int x4)], [], M)) (P := []) rfl mz_o0 ?_
  refine mz_Go.ite (fun c21 => ?_) (fun c21 => ?_)
  · replace h := h.1 c21
    obtain ⟨M2, e2⟩ : ∃ y, y = mz_wr M 77 (upd (M.1 77) 9 0) := ⟨_, rfl⟩
    replace h := h M2 e2
    refine mz_Go.steps (n := 3) (k2 := (69, [some (.ref 77), some (.int x1), some (.int x2), some (.int x3), some (.int x4)], [], (mz_wr M 77 (upd (M.1 77) 9 0)))) (P := []) rfl mz_o0 ?_
    rw [← e2]
    refine mz_Go.steps (n := 3) (k2 := (72, [some (.ref 77), some (.int x1), some (.int x2), some (.int x3), some (.int x4)], [.long (x2.toInt64), .ref 77], M2)) (P := []) rfl mz_o0 ?_
    obtain ⟨M3, k3, h⟩ := h
    refine mz_Go.callV (As := [.long (x2.toInt64)]) (rest := []) (rfl : mz_find 72 (mz_rows mq_X10_normals) = some (72, .invokevirtual 194, 3, 135, 0, 198)) (rfl : mz_nth mq_tab 135 = some mq_X10_tell) rfl rfl rfl rfl (Nat.le_of_ble_eq_true rfl) (Nat.le_of_ble_eq_true rfl) k3 ?_
    show mq_G mq_X10_normals (75, [some (.ref 77), some (.int x1), some (.int x2), some (.int x3), some (.int x4)], [], M3) res
    refine mz_Go.steps (n := 3) (k2 := (78, [some (.ref 77), some (.int x1), some (.int x2), some (.int x3), some (.int x4)], [.long (x3.toInt64), .ref 77], M3)) (P := []) rfl mz_o0 ?_
    obtain ⟨M4, k4, h⟩ := h
    refine mz_Go.callV (As := [.long (x3.toInt64)]) (rest := []) (rfl : mz_find 78 (mz_rows mq_X10_normals) = some (78, .invokevirtual 194, 3, 135, 0, 198)) (rfl : mz_nth mq_tab 135 = some mq_X10_tell) rfl rfl rfl rfl (Nat.le_of_ble_eq_true rfl) (Nat.le_of_ble_eq_true rfl) k4 ?_
    show mq_G mq_X10_normals (81, [some (.ref 77), some (.int x1), some (.int x2), some (.int x3), some (.int x4)], [], M4) res
    refine mz_Go.steps (n := 1) (k2 := (82, [some (.ref 77), some (.int x1), some (.int x2), some (.int x3), some (.int x4)], [.int x1], M4)) (P := []) rfl mz_o0 ?_
    rw [h]
    exact mz_Go.iret (rfl : mz_find 82 (mz_rows mq_X10_normals) = some (82, .ireturn, 1, 0, 0, 0)) rfl
  · replace h := h.2 c21
    refine mz_Go.steps (n := 2) (k2 := (27, [some (.ref 77), some (.int x1), some (.int x2), some (.int x3), some (.int x4)], [.int x4, .ref 77], M)) (P := []) rfl mz_o0 ?_
    obtain ⟨r5, M5, k5, h⟩ := h
    refine mz_Go.callV (As := [.int x4]) (rest := []) (rfl : mz_find 27 (mz_rows mq_X10_normals) = some (27, .invokevirtual 132, 3, 162, 0, 174)) (rfl : mz_nth mq_tab 162 = some mq_X10_isNormal) rfl rfl rfl rfl (Nat.le_of_ble_eq_true rfl) (Nat.le_of_ble_eq_true rfl) k5 ?_
    show mq_G mq_X10_normals (30, [some (.ref 77), some (.int x1), some (.int x2), some (.int x3), some (.int x4)], [.int r5], M5) res
    refine mz_Go.steps (n := 1) (k2 := (if ¬ r5 = 0 then 36 else 33, [some (.ref 77), some (.int x1), some (.int x2), some (.int x3), some (.int x4)], [], M5)) (P := []) rfl mz_o0 ?_
    refine mz_Go.ite (fun c30 => ?_) (fun c30 => ?_)
    · replace h := h.1 c30
      refine mz_Go.steps (n := 5) (k2 := (45, [some (.ref 77), some (.int (x1 + 1)), some (.int x4), some (.int x3), some (.int x4)], [.int x4, .ref 77], M5)) (P := []) rfl mz_o0 ?_
      obtain ⟨r7, k7, h⟩ := h
      refine mz_Go.callV (As := [.int x4]) (rest := []) (rfl : mz_find 45 (mz_rows mq_X10_normals) = some (45, .invokevirtual 191, 3, 153, 0, 197)) (rfl : mz_nth mq_tab 153 = some mq_X10_isGenerator) rfl rfl rfl rfl (Nat.le_of_ble_eq_true rfl) (Nat.le_of_ble_eq_true rfl) k7 ?_
      show mq_G mq_X10_normals (48, [some (.ref 77), some (.int (x1 + 1)), some (.int x4), some (.int x3), some (.int x4)], [.int r7], M5) res
      refine mz_Go.steps (n := 1) (k2 := (if r7 = 0 then 56 else 51, [some (.ref 77), some (.int (x1 + 1)), some (.int x4), some (.int x3), some (.int x4)], [], M5)) (P := []) rfl mz_o0 ?_
      refine mz_Go.ite (fun c48 => ?_) (fun c48 => ?_)
      · replace h := h.1 c48
        refine mz_Go.steps (n := 4) (k2 := (19, [some (.ref 77), some (.int (x1 + 1)), some (.int x4), some (.int x3), some (.int (x4 + (-1)))], [], M5)) (P := []) rfl mz_o0 ?_
        exact h
      · replace h := h.2 c48
        refine mz_Go.steps (n := 5) (k2 := (19, [some (.ref 77), some (.int (x1 + 1)), some (.int x4), some (.int x4), some (.int (x4 + (-1)))], [], M5)) (P := []) rfl mz_o0 ?_
        exact h
    · replace h := h.2 c30
      refine mz_Go.steps (n := 3) (k2 := (19, [some (.ref 77), some (.int x1), some (.int x2), some (.int x3), some (.int (x4 + (-1)))], [], M5)) (P := []) rfl mz_o0 ?_
      exact h
set_option maxRecDepth 100000 in
set_option maxHeartbeats 4000000 in
theorem t_X10_complete_0 (x1 : Int32) (M : mz_M) {res : mz_O} (h :
    (∀ M1 : mz_M, M1 = mz_wr M 77 (upd (M.1 77) 10 0) →
    (∃ (r2 : Int32), (mq_C mq_X10_isElement [.ref 77, .int x1] M1 (some (.int r2), M1)) ∧
    ((¬ r2 = 0 →
      mq_G mq_X10_complete (19, [some (.ref 77), some (.int x1), some (.int 0), some (.int 1)], [], M1) res) ∧
    (¬ (¬ r2 = 0) →
      res = (some (.int (-1)), M1)))))) :
    mq_G mq_X10_complete (0, [some (.ref 77), some (.int x1), none, none], [], M) res := by
  obtain ⟨M1, e1⟩ : ∃ y, y = mz_wr M 77 (upd (M.1 77) 10 0) := ⟨_, rfl⟩
  replace h := h M1 e1
  refine mz_Go.steps (n := 3) (k2 := (5, [some (.ref 77), some (.int x1), none, none], [], (mz_wr M 77 (upd (M.1 77) 10 0)))) (P := []) rfl mz_o0 ?_
  rw [← e1]
  refine mz_Go.steps (n := 2) (k2 := (7, [some (.ref 77), some (.int x1), none, none], [.int x1, .ref 77], M1)) (P := []) rfl mz_o0 ?_
  obtain ⟨r2, k2, h⟩ := h
  refine mz_Go.callV (As := [.int x1]) (rest := []) (rfl : mz_find 7 (mz_rows mq_X10_complete) = some (7, .invokevirtual 183, 3, 156, 0, 194)) (rfl : mz_nth mq_tab 156 = some mq_X10_isElement) rfl rfl rfl rfl (Nat.le_of_ble_eq_true rfl) (Nat.le_of_ble_eq_true rfl) k2 ?_
  show mq_G mq_X10_complete (10, [some (.ref 77), some (.int x1), none, none], [.int r2], M1) res
  refine mz_Go.steps (n := 1) (k2 := (if ¬ r2 = 0 then 15 else 13, [some (.ref 77), some (.int x1), none, none], [], M1)) (P := []) rfl mz_o0 ?_
  refine mz_Go.ite (fun c10 => ?_) (fun c10 => ?_)
  · replace h := h.1 c10
    refine mz_Go.steps (n := 4) (k2 := (19, [some (.ref 77), some (.int x1), some (.int 0), some (.int 1)], [], M1)) (P := []) rfl mz_o0 ?_
    exact h
  · replace h := h.2 c10
    refine mz_Go.steps (n := 1) (k2 := (14, [some (.ref 77), some (.int x1), none, none], [.int (-1)], M1)) (P := []) rfl mz_o0 ?_
    rw [h]
    exact mz_Go.iret (rfl : mz_find 14 (mz_rows mq_X10_complete) = some (14, .ireturn, 1, 0, 0, 0)) rfl
set_option maxRecDepth 100000 in
set_option maxHeartbeats 4000000 in
theorem t_X10_complete_19 (x1 : Int32) (x2 : Int32) (x3 : Int32) (M : mz_M) {res : mz_O} (h :
    (((M.1 77 11) ≤ x3 →
      res = (some (.int x2), M)) ∧
    (¬ ((M.1 77 11) ≤ x3) →
      (∃ (r2 : Int32), (mq_C mq_X10_isPart [.ref 77, .int x3] M (some (.int r2), M)) ∧
      ((r2 = 0 →
        mq_G mq_X10_complete (19, [some (.ref 77), some (.int x1), some (.int (x2 ||| 0)), some (.int (x3 + 1))], [], M) res) ∧
      (¬ (r2 = 0) →
        (∃ (r4 : Int32) (M4 : mz_M), (mq_C mq_X10_isNormalOver [.ref 77, .int x1, .int x3] M (some (.int r4), M4)) ∧
        ((r4 = 0 →
          mq_G mq_X10_complete (19, [some (.ref 77), some (.int x1), some (.int (x2 ||| 0)), some (.int (x3 + 1))], [], M4) res) ∧
        (¬ (r4 = 0) →
          mq_G mq_X10_complete (19, [some (.ref 77), some (.int x1), some (.int (x2 ||| ((1 : Int32) <<< (x3 &&& 31)))), some (.int (x3 + 1))], [], M4) res))))))))) :
    mq_G mq_X10_complete (19, [some (.ref 77), some (.int x1), some (.int x2), some (.int x3)], [], M) res := by
  refine mz_Go.steps (n := 4) (k2 := (if (M.1 77 11) ≤ x3 then 60 else 27, [some (.ref 77), some (.int x1), some (.int x2), some (.int x3)], [], M)) (P := []) rfl mz_o0 ?_
  refine mz_Go.ite (fun c24 => ?_) (fun c24 => ?_)
  · replace h := h.1 c24
    refine mz_Go.steps (n := 1) (k2 := (61, [some (.ref 77), some (.int x1), some (.int x2), some (.int x3)], [.int x2], M)) (P := []) rfl mz_o0 ?_
    rw [h]
    exact mz_Go.iret (rfl : mz_find 61 (mz_rows mq_X10_complete) = some (61, .ireturn, 1, 0, 0, 0)) rfl
  · replace h := h.2 c24
    refine mz_Go.steps (n := 3) (k2 := (30, [some (.ref 77), some (.int x1), some (.int x2), some (.int x3)], [.int x3, .ref 77, .int x2], M)) (P := []) rfl mz_o0 ?_
    obtain ⟨r2, k2, h⟩ := h
    refine mz_Go.callV (As := [.int x3]) (rest := [.int x2]) (rfl : mz_find 30 (mz_rows mq_X10_complete) = some (30, .invokevirtual 206, 3, 157, 0, 202)) (rfl : mz_nth mq_tab 157 = some mq_X10_isPart) rfl rfl rfl rfl (Nat.le_of_ble_eq_true rfl) (Nat.le_of_ble_eq_true rfl) k2 ?_
    show mq_G mq_X10_complete (33, [some (.ref 77), some (.int x1), some (.int x2), some (.int x3)], [.int r2, .int x2], M) res
    refine mz_Go.steps (n := 1) (k2 := (if r2 = 0 then 51 else 36, [some (.ref 77), some (.int x1), some (.int x2), some (.int x3)], [.int x2], M)) (P := []) rfl mz_o0 ?_
    refine mz_Go.ite (fun c33 => ?_) (fun c33 => ?_)
    · replace h := h.1 c33
      refine mz_Go.steps (n := 5) (k2 := (19, [some (.ref 77), some (.int x1), some (.int (x2 ||| 0)), some (.int (x3 + 1))], [], M)) (P := []) rfl mz_o0 ?_
      exact h
    · replace h := h.2 c33
      refine mz_Go.steps (n := 3) (k2 := (39, [some (.ref 77), some (.int x1), some (.int x2), some (.int x3)], [.int x3, .int x1, .ref 77, .int x2], M)) (P := []) rfl mz_o0 ?_
      obtain ⟨r4, M4, k4, h⟩ := h
      refine mz_Go.callV (As := [.int x1, .int x3]) (rest := [.int x2]) (rfl : mz_find 39 (mz_rows mq_X10_complete) = some (39, .invokevirtual 222, 3, 164, 0, 208)) (rfl : mz_nth mq_tab 164 = some mq_X10_isNormalOver) rfl rfl rfl rfl (Nat.le_of_ble_eq_true rfl) (Nat.le_of_ble_eq_true rfl) k4 ?_
      show mq_G mq_X10_complete (42, [some (.ref 77), some (.int x1), some (.int x2), some (.int x3)], [.int r4, .int x2], M4) res
      refine mz_Go.steps (n := 1) (k2 := (if r4 = 0 then 51 else 45, [some (.ref 77), some (.int x1), some (.int x2), some (.int x3)], [.int x2], M4)) (P := []) rfl mz_o0 ?_
      refine mz_Go.ite (fun c42 => ?_) (fun c42 => ?_)
      · replace h := h.1 c42
        refine mz_Go.steps (n := 5) (k2 := (19, [some (.ref 77), some (.int x1), some (.int (x2 ||| 0)), some (.int (x3 + 1))], [], M4)) (P := []) rfl mz_o0 ?_
        exact h
      · replace h := h.2 c42
        refine mz_Go.steps (n := 8) (k2 := (19, [some (.ref 77), some (.int x1), some (.int (x2 ||| ((1 : Int32) <<< (x3 &&& 31)))), some (.int (x3 + 1))], [], M4)) (P := []) rfl mz_o0 ?_
        exact h
set_option maxRecDepth 100000 in
set_option maxHeartbeats 4000000 in
theorem t_X10_leastNormal_0 (M : mz_M) {res : mz_O} (h :
    (∀ M1 : mz_M, M1 = mz_wr M 77 (upd (M.1 77) 10 0) →
    mq_G mq_X10_leastNormal (14, [some (.ref 77), some (.int 0), some (.int (-1)), some (.int 0), some (.int 1), none], [], M1) res)) :
    mq_G mq_X10_leastNormal (0, [some (.ref 77), none, none, none, none, none], [], M) res := by
  obtain ⟨M1, e1⟩ : ∃ y, y = mz_wr M 77 (upd (M.1 77) 10 0) := ⟨_, rfl⟩
  replace h := h M1 e1
  refine mz_Go.steps (n := 3) (k2 := (5, [some (.ref 77), none, none, none, none, none], [], (mz_wr M 77 (upd (M.1 77) 10 0)))) (P := []) rfl mz_o0 ?_
  rw [← e1]
  refine mz_Go.steps (n := 8) (k2 := (14, [some (.ref 77), some (.int 0), some (.int (-1)), some (.int 0), some (.int 1), none], [], M1)) (P := []) rfl mz_o0 ?_
  exact h
set_option maxRecDepth 100000 in
set_option maxHeartbeats 4000000 in
theorem t_X10_leastNormal_14 (x1 : Int32) (x2 : Int32) (x3 : Int32) (x4 : Int32) (o5 : Option Value) (M : mz_M) {res : mz_O} (h :
    (((M.1 77 12) ≤ x4 →
      (∀ M2 : mz_M, M2 = mz_wr M 77 (upd (M.1 77) 9 0) →
      (∃ (M3 : mz_M), (mq_C mq_X10_tell [.ref 77, .long (x2.toInt64)] M2 (none, M3)) ∧
      (∃ (M4 : mz_M), (mq_C mq_X10_tell [.ref 77, .long (x3.toInt64)] M3 (none, M4)) ∧
      res = (some (.int x1), M4))))) ∧
    (¬ ((M.1 77 12) ≤ x4) →
      (∃ (r5 : Int32) (M5 : mz_M), (mq_C mq_X10_isNormal [.ref 77, .int x4] M (some (.int r5), M5)) ∧
      ((¬ r5 = 0 →
        (∃ (M7 : mz_M), (mq_C mq_X10_someIsBase [.ref 77] M5 (none, M7)) ∧
        (∃ (r8 : Int32), (mq_C mq_X10_complexityNow [.ref 77] M7 (some (.int r8), M7)) ∧
        ((x2 = (-1) →
          ((¬ r8 = r8 →
            mq_G mq_X10_leastNormal (14, [some (.ref 77), some (.int r8), some (.int x4), some (.int (0 + 0 : Int32)), some (.int (x4 + 1)), some (.int r8)], [], M7) res) ∧
          (¬ (¬ r8 = r8) →
            mq_G mq_X10_leastNormal (14, [some (.ref 77), some (.int r8), some (.int x4), some (.int (0 + 1 : Int32)), some (.int (x4 + 1)), some (.int r8)], [], M7) res))) ∧
        (¬ (x2 = (-1)) →
          ((x1 ≤ r8 →
            ((¬ r8 = x1 →
              mq_G mq_X10_leastNormal (14, [some (.ref 77), some (.int x1), some (.int x2), some (.int (x3 + 0)), some (.int (x4 + 1)), some (.int r8)], [], M7) res) ∧
            (¬ (¬ r8 = x1) →
              mq_G mq_X10_leastNormal (14, [some (.ref 77), some (.int x1), some (.int x2), some (.int (x3 + 1)), some (.int (x4 + 1)), some (.int r8)], [], M7) res))) ∧
          (¬ (x1 ≤ r8) →
            ((¬ r8 = r8 →
              mq_G mq_X10_leastNormal (14, [some (.ref 77), some (.int r8), some (.int x4), some (.int (0 + 0 : Int32)), some (.int (x4 + 1)), some (.int r8)], [], M7) res) ∧
            (¬ (¬ r8 = r8) →
              mq_G mq_X10_leastNormal (14, [some (.ref 77), some (.int r8), some (.int x4), some (.int (0 + 1 : Int32)), some (.int (x4 + 1)), some (.int r8)], [], M7) res))))))))) ∧
      (¬ (¬ r5 = 0) →
        mq_G mq_X10_leastNormal (14, [some (.ref 77), some (.int x1), some (.int x2), some (.int x3), some (.int (x4 + 1)), o5], [], M5) res)))))) :
    mq_G mq_X10_leastNormal (14, [some (.ref 77), some (.int x1), some (.int x2), some (.int x3), some (.int x4), o5], [], M) res := by
  refine mz_Go.steps (n := 4) (k2 := (if (M.1 77 12) ≤ x4 then 84 else 23, [some (.ref 77), some (.int x1), some (.int x2), some (.int x3), some (.int x4), o5], [], M)) (P := []) rfl mz_o0 ?_
  refine mz_Go.ite (fun c20 => ?_) (fun c20 => ?_)
  · replace h := h.1 c20
    obtain ⟨M2, e2⟩ : ∃ y, y = mz_wr M 77 (upd (M.1 77) 9 0) := ⟨_, rfl⟩
    replace h := h M2 e2
    refine mz_Go.steps (n := 3) (k2 := (89, [some (.ref 77), some (.int x1), some (.int x2), some (.int x3), some (.int x4), o5], [], (mz_wr M 77 (upd (M.1 77) 9 0)))) (P := []) rfl mz_o0 ?_
    rw [← e2]
    refine mz_Go.steps (n := 3) (k2 := (92, [some (.ref 77), some (.int x1), some (.int x2), some (.int x3), some (.int x4), o5], [.long (x2.toInt64), .ref 77], M2)) (P := []) rfl mz_o0 ?_
    obtain ⟨M3, k3, h⟩ := h
    refine mz_Go.callV (As := [.long (x2.toInt64)]) (rest := []) (rfl : mz_find 92 (mz_rows mq_X10_leastNormal) = some (92, .invokevirtual 194, 3, 135, 0, 198)) (rfl : mz_nth mq_tab 135 = some mq_X10_tell) rfl rfl rfl rfl (Nat.le_of_ble_eq_true rfl) (Nat.le_of_ble_eq_true rfl) k3 ?_
    show mq_G mq_X10_leastNormal (95, [some (.ref 77), some (.int x1), some (.int x2), some (.int x3), some (.int x4), o5], [], M3) res
    refine mz_Go.steps (n := 3) (k2 := (98, [some (.ref 77), some (.int x1), some (.int x2), some (.int x3), some (.int x4), o5], [.long (x3.toInt64), .ref 77], M3)) (P := []) rfl mz_o0 ?_
    obtain ⟨M4, k4, h⟩ := h
    refine mz_Go.callV (As := [.long (x3.toInt64)]) (rest := []) (rfl : mz_find 98 (mz_rows mq_X10_leastNormal) = some (98, .invokevirtual 194, 3, 135, 0, 198)) (rfl : mz_nth mq_tab 135 = some mq_X10_tell) rfl rfl rfl rfl (Nat.le_of_ble_eq_true rfl) (Nat.le_of_ble_eq_true rfl) k4 ?_
    show mq_G mq_X10_leastNormal (101, [some (.ref 77), some (.int x1), some (.int x2), some (.int x3), some (.int x4), o5], [], M4) res
    refine mz_Go.steps (n := 1) (k2 := (102, [some (.ref 77), some (.int x1), some (.int x2), some (.int x3), some (.int x4), o5], [.int x1], M4)) (P := []) rfl mz_o0 ?_
    rw [h]
    exact mz_Go.iret (rfl : mz_find 102 (mz_rows mq_X10_leastNormal) = some (102, .ireturn, 1, 0, 0, 0)) rfl
  · replace h := h.2 c20
    refine mz_Go.steps (n := 2) (k2 := (26, [some (.ref 77), some (.int x1), some (.int x2), some (.int x3), some (.int x4), o5], [.int x4, .ref 77], M)) (P := []) rfl mz_o0 ?_
    obtain ⟨r5, M5, k5, h⟩ := h
    refine mz_Go.callV (As := [.int x4]) (rest := []) (rfl : mz_find 26 (mz_rows mq_X10_leastNormal) = some (26, .invokevirtual 132, 3, 162, 0, 174)) (rfl : mz_nth mq_tab 162 = some mq_X10_isNormal) rfl rfl rfl rfl (Nat.le_of_ble_eq_true rfl) (Nat.le_of_ble_eq_true rfl) k5 ?_
    show mq_G mq_X10_leastNormal (29, [some (.ref 77), some (.int x1), some (.int x2), some (.int x3), some (.int x4), o5], [.int r5], M5) res
    refine mz_Go.steps (n := 1) (k2 := (if ¬ r5 = 0 then 35 else 32, [some (.ref 77), some (.int x1), some (.int x2), some (.int x3), some (.int x4), o5], [], M5)) (P := []) rfl mz_o0 ?_
    refine mz_Go.ite (fun c29 => ?_) (fun c29 => ?_)
    · replace h := h.1 c29
      refine mz_Go.steps (n := 1) (k2 := (36, [some (.ref 77), some (.int x1), some (.int x2), some (.int x3), some (.int x4), o5], [.ref 77], M5)) (P := []) rfl mz_o0 ?_
      obtain ⟨M7, k7, h⟩ := h
      refine mz_Go.callV (As := []) (rest := []) (rfl : mz_find 36 (mz_rows mq_X10_leastNormal) = some (36, .invokevirtual 226, 3, 172, 0, 209)) (rfl : mz_nth mq_tab 172 = some mq_X10_someIsBase) rfl rfl rfl rfl (Nat.le_of_ble_eq_true rfl) (Nat.le_of_ble_eq_true rfl) k7 ?_
      show mq_G mq_X10_leastNormal (39, [some (.ref 77), some (.int x1), some (.int x2), some (.int x3), some (.int x4), o5], [], M7) res
      refine mz_Go.steps (n := 1) (k2 := (40, [some (.ref 77), some (.int x1), some (.int x2), some (.int x3), some (.int x4), o5], [.ref 77], M7)) (P := []) rfl mz_o0 ?_
      obtain ⟨r8, k8, h⟩ := h
      refine mz_Go.callV (As := []) (rest := []) (rfl : mz_find 40 (mz_rows mq_X10_leastNormal) = some (40, .invokevirtual 142, 3, 169, 0, 178)) (rfl : mz_nth mq_tab 169 = some mq_X10_complexityNow) rfl rfl rfl rfl (Nat.le_of_ble_eq_true rfl) (Nat.le_of_ble_eq_true rfl) k8 ?_
      show mq_G mq_X10_leastNormal (43, [some (.ref 77), some (.int x1), some (.int x2), some (.int x3), some (.int x4), o5], [.int r8], M7) res
      refine mz_Go.steps (n := 4) (k2 := (if x2 = (-1) then 56 else 50, [some (.ref 77), some (.int x1), some (.int x2), some (.int x3), some (.int x4), some (.int r8)], [], M7)) (P := []) rfl mz_o0 ?_
      refine mz_Go.ite (fun c47 => ?_) (fun c47 => ?_)
      · replace h := h.1 c47
        refine mz_Go.steps (n := 10) (k2 := (if ¬ r8 = r8 then 75 else 71, [some (.ref 77), some (.int r8), some (.int x4), some (.int 0), some (.int x4), some (.int r8)], [.int 0], M7)) (P := []) rfl mz_o0 ?_
        refine mz_Go.ite (fun c68 => ?_) (fun c68 => ?_)
        · replace h := h.1 c68
          refine mz_Go.steps (n := 5) (k2 := (14, [some (.ref 77), some (.int r8), some (.int x4), some (.int (0 + 0 : Int32)), some (.int (x4 + 1)), some (.int r8)], [], M7)) (P := []) rfl mz_o0 ?_
          exact h
        · replace h := h.2 c68
          refine mz_Go.steps (n := 6) (k2 := (14, [some (.ref 77), some (.int r8), some (.int x4), some (.int (0 + 1 : Int32)), some (.int (x4 + 1)), some (.int r8)], [], M7)) (P := []) rfl mz_o0 ?_
          exact h
      · replace h := h.2 c47
        refine mz_Go.steps (n := 3) (k2 := (if x1 ≤ r8 then 64 else 56, [some (.ref 77), some (.int x1), some (.int x2), some (.int x3), some (.int x4), some (.int r8)], [], M7)) (P := []) rfl mz_o0 ?_
        refine mz_Go.ite (fun c53 => ?_) (fun c53 => ?_)
        · replace h := h.1 c53
          refine mz_Go.steps (n := 4) (k2 := (if ¬ r8 = x1 then 75 else 71, [some (.ref 77), some (.int x1), some (.int x2), some (.int x3), some (.int x4), some (.int r8)], [.int x3], M7)) (P := []) rfl mz_o0 ?_
          refine mz_Go.ite (fun c68 => ?_) (fun c68 => ?_)
          · replace h := h.1 c68
            refine mz_Go.steps (n := 5) (k2 := (14, [some (.ref 77), some (.int x1), some (.int x2), some (.int (x3 + 0)), some (.int (x4 + 1)), some (.int r8)], [], M7)) (P := []) rfl mz_o0 ?_
            exact h
          · replace h := h.2 c68
            refine mz_Go.steps (n := 6) (k2 := (14, [some (.ref 77), some (.int x1), some (.int x2), some (.int (x3 + 1)), some (.int (x4 + 1)), some (.int r8)], [], M7)) (P := []) rfl mz_o0 ?_
            exact h
        · replace h := h.2 c53
          refine mz_Go.steps (n := 10) (k2 := (if ¬ r8 = r8 then 75 else 71, [some (.ref 77), some (.int r8), some (.int x4), some (.int 0), some (.int x4), some (.int r8)], [.int 0], M7)) (P := []) rfl mz_o0 ?_
          refine mz_Go.ite (fun c68 => ?_) (fun c68 => ?_)
          · replace h := h.1 c68
            refine mz_Go.steps (n := 5) (k2 := (14, [some (.ref 77), some (.int r8), some (.int x4), some (.int (0 + 0 : Int32)), some (.int (x4 + 1)), some (.int r8)], [], M7)) (P := []) rfl mz_o0 ?_
            exact h
          · replace h := h.2 c68
            refine mz_Go.steps (n := 6) (k2 := (14, [some (.ref 77), some (.int r8), some (.int x4), some (.int (0 + 1 : Int32)), some (.int (x4 + 1)), some (.int r8)], [], M7)) (P := []) rfl mz_o0 ?_
            exact h
    · replace h := h.2 c29
      refine mz_Go.steps (n := 3) (k2 := (14, [some (.ref 77), some (.int x1), some (.int x2), some (.int x3), some (.int (x4 + 1)), o5], [], M5)) (P := []) rfl mz_o0 ?_
      exact h
set_option maxRecDepth 100000 in
set_option maxHeartbeats 4000000 in
theorem t_X10_takesPowers_0 (x1 : Int32) (M : mz_M) {res : mz_O} (h :
    mq_G mq_X10_takesPowers (2, [some (.ref 77), some (.int x1), some (.int 0)], [], M) res) :
    mq_G mq_X10_takesPowers (0, [some (.ref 77), some (.int x1), none], [], M) res := by
  refine mz_Go.steps (n := 2) (k2 := (2, [some (.ref 77), some (.int x1), some (.int 0)], [], M)) (P := []) rfl mz_o0 ?_
  exact h
set_option maxRecDepth 100000 in
set_option maxHeartbeats 4000000 in
theorem t_X10_takesPowers_2 (x1 : Int32) (x2 : Int32) (M : mz_M) {res : mz_O} (h :
    (((M.1 77 11) ≤ x2 →
      (∃ (r2 : Int32) (M2 : mz_M), (mq_C mq_X10_rank [.ref 77, .int (M.1 77 11)] M (some (.int r2), M2)) ∧
      ((¬ r2 = (M2.1 77 11) →
        res = (some (.int 0), M2)) ∧
      (¬ (¬ r2 = (M2.1 77 11)) →
        res = (some (.int 1), M2))))) ∧
    (¬ ((M.1 77 11) ≤ x2) →
      (∃ (r4 : Int32), (mq_C mq_X10_powered [.ref 77, .int x1, .int x2] M (some (.int r4), M)) ∧
      (vp_in x2 8) ∧
      (∀ M5 : mz_M, M5 = mz_wr M 84 (upd (M.1 84) x2.toNatClampNeg r4) →
      mq_G mq_X10_takesPowers (2, [some (.ref 77), some (.int x1), some (.int (x2 + 1))], [], M5) res))))) :
    mq_G mq_X10_takesPowers (2, [some (.ref 77), some (.int x1), some (.int x2)], [], M) res := by
  refine mz_Go.steps (n := 4) (k2 := (if (M.1 77 11) ≤ x2 then 28 else 10, [some (.ref 77), some (.int x1), some (.int x2)], [], M)) (P := []) rfl mz_o0 ?_
  refine mz_Go.ite (fun c7 => ?_) (fun c7 => ?_)
  · replace h := h.1 c7
    refine mz_Go.steps (n := 3) (k2 := (33, [some (.ref 77), some (.int x1), some (.int x2)], [.int (M.1 77 11), .ref 77], M)) (P := []) rfl mz_o0 ?_
    obtain ⟨r2, M2, k2, h⟩ := h
    refine mz_Go.callV (As := [.int (M.1 77 11)]) (rest := []) (rfl : mz_find 33 (mz_rows mq_X10_takesPowers) = some (33, .invokevirtual 114, 3, 160, 0, 165)) (rfl : mz_nth mq_tab 160 = some mq_X10_rank) rfl rfl rfl rfl (Nat.le_of_ble_eq_true rfl) (Nat.le_of_ble_eq_true rfl) k2 ?_
    show mq_G mq_X10_takesPowers (36, [some (.ref 77), some (.int x1), some (.int x2)], [.int r2], M2) res
    refine mz_Go.steps (n := 3) (k2 := (if ¬ r2 = (M2.1 77 11) then 47 else 43, [some (.ref 77), some (.int x1), some (.int x2)], [], M2)) (P := []) rfl mz_o0 ?_
    refine mz_Go.ite (fun c40 => ?_) (fun c40 => ?_)
    · replace h := h.1 c40
      refine mz_Go.steps (n := 1) (k2 := (48, [some (.ref 77), some (.int x1), some (.int x2)], [.int 0], M2)) (P := []) rfl mz_o0 ?_
      rw [h]
      exact mz_Go.zret (rfl : mz_find 48 (mz_rows mq_X10_takesPowers) = some (48, .ireturn, 1, 0, 0, 0)) rfl (Or.inl rfl)
    · replace h := h.2 c40
      refine mz_Go.steps (n := 2) (k2 := (48, [some (.ref 77), some (.int x1), some (.int x2)], [.int 1], M2)) (P := []) rfl mz_o0 ?_
      rw [h]
      exact mz_Go.zret (rfl : mz_find 48 (mz_rows mq_X10_takesPowers) = some (48, .ireturn, 1, 0, 0, 0)) rfl (Or.inr rfl)
  · replace h := h.2 c7
    refine mz_Go.steps (n := 6) (k2 := (18, [some (.ref 77), some (.int x1), some (.int x2)], [.int x2, .int x1, .ref 77, .int x2, .ref 84], M)) (P := []) rfl mz_o0 ?_
    obtain ⟨r4, k4, h⟩ := h
    refine mz_Go.callV (As := [.int x1, .int x2]) (rest := [.int x2, .ref 84]) (rfl : mz_find 18 (mz_rows mq_X10_takesPowers) = some (18, .invokevirtual 95, 3, 149, 0, 157)) (rfl : mz_nth mq_tab 149 = some mq_X10_powered) rfl rfl rfl rfl (Nat.le_of_ble_eq_true rfl) (Nat.le_of_ble_eq_true rfl) k4 ?_
    show mq_G mq_X10_takesPowers (21, [some (.ref 77), some (.int x1), some (.int x2)], [.int r4, .int x2, .ref 84], M) res
    obtain ⟨q6, h⟩ := h
    obtain ⟨M5, e5⟩ : ∃ y, y = mz_wr M 84 (upd (M.1 84) x2.toNatClampNeg r4) := ⟨_, rfl⟩
    replace h := h M5 e5
    refine mz_Go.steps (n := 1) (k2 := (22, [some (.ref 77), some (.int x1), some (.int x2)], [], (mz_wr M 84 (upd (M.1 84) x2.toNatClampNeg r4)))) (P := [vp_in x2 8]) rfl (mz_o1 q6) ?_
    rw [← e5]
    refine mz_Go.steps (n := 2) (k2 := (2, [some (.ref 77), some (.int x1), some (.int (x2 + 1))], [], M5)) (P := []) rfl mz_o0 ?_
    exact h
set_option maxRecDepth 100000 in
set_option maxHeartbeats 4000000 in
theorem t_X10_leastPowers_0 (M : mz_M) {res : mz_O} (h :
    (∀ M1 : mz_M, M1 = mz_wr M 77 (upd (M.1 77) 10 0) →
    mq_G mq_X10_leastPowers (14, [some (.ref 77), some (.int 0), some (.int (-1)), some (.int 0), some (.int 1), none], [], M1) res)) :
    mq_G mq_X10_leastPowers (0, [some (.ref 77), none, none, none, none, none], [], M) res := by
  obtain ⟨M1, e1⟩ : ∃ y, y = mz_wr M 77 (upd (M.1 77) 10 0) := ⟨_, rfl⟩
  replace h := h M1 e1
  refine mz_Go.steps (n := 3) (k2 := (5, [some (.ref 77), none, none, none, none, none], [], (mz_wr M 77 (upd (M.1 77) 10 0)))) (P := []) rfl mz_o0 ?_
  rw [← e1]
  refine mz_Go.steps (n := 8) (k2 := (14, [some (.ref 77), some (.int 0), some (.int (-1)), some (.int 0), some (.int 1), none], [], M1)) (P := []) rfl mz_o0 ?_
  exact h
set_option maxRecDepth 100000 in
set_option maxHeartbeats 4000000 in
theorem t_X10_leastPowers_14 (x1 : Int32) (x2 : Int32) (x3 : Int32) (x4 : Int32) (o5 : Option Value) (M : mz_M) {res : mz_O} (h :
    (((M.1 77 12) ≤ x4 →
      (∀ M2 : mz_M, M2 = mz_wr M 77 (upd (M.1 77) 9 0) →
      (∃ (M3 : mz_M), (mq_C mq_X10_tell [.ref 77, .long (x2.toInt64)] M2 (none, M3)) ∧
      (∃ (M4 : mz_M), (mq_C mq_X10_tell [.ref 77, .long (x3.toInt64)] M3 (none, M4)) ∧
      res = (some (.int x1), M4))))) ∧
    (¬ ((M.1 77 12) ≤ x4) →
      (∃ (r5 : Int32) (M5 : mz_M), (mq_C mq_X10_takesPowers [.ref 77, .int x4] M (some (.int r5), M5)) ∧
      ((¬ r5 = 0 →
        (∃ (M7 : mz_M), (mq_C mq_X10_someIsBase [.ref 77] M5 (none, M7)) ∧
        (∃ (r8 : Int32), (mq_C mq_X10_weightNow [.ref 77] M7 (some (.int r8), M7)) ∧
        ((x2 = (-1) →
          ((¬ r8 = r8 →
            mq_G mq_X10_leastPowers (14, [some (.ref 77), some (.int r8), some (.int x4), some (.int (0 + 0 : Int32)), some (.int (x4 + 1)), some (.int r8)], [], M7) res) ∧
          (¬ (¬ r8 = r8) →
            mq_G mq_X10_leastPowers (14, [some (.ref 77), some (.int r8), some (.int x4), some (.int (0 + 1 : Int32)), some (.int (x4 + 1)), some (.int r8)], [], M7) res))) ∧
        (¬ (x2 = (-1)) →
          ((x1 ≤ r8 →
            ((¬ r8 = x1 →
              mq_G mq_X10_leastPowers (14, [some (.ref 77), some (.int x1), some (.int x2), some (.int (x3 + 0)), some (.int (x4 + 1)), some (.int r8)], [], M7) res) ∧
            (¬ (¬ r8 = x1) →
              mq_G mq_X10_leastPowers (14, [some (.ref 77), some (.int x1), some (.int x2), some (.int (x3 + 1)), some (.int (x4 + 1)), some (.int r8)], [], M7) res))) ∧
          (¬ (x1 ≤ r8) →
            ((¬ r8 = r8 →
              mq_G mq_X10_leastPowers (14, [some (.ref 77), some (.int r8), some (.int x4), some (.int (0 + 0 : Int32)), some (.int (x4 + 1)), some (.int r8)], [], M7) res) ∧
            (¬ (¬ r8 = r8) →
              mq_G mq_X10_leastPowers (14, [some (.ref 77), some (.int r8), some (.int x4), some (.int (0 + 1 : Int32)), some (.int (x4 + 1)), some (.int r8)], [], M7) res))))))))) ∧
      (¬ (¬ r5 = 0) →
        mq_G mq_X10_leastPowers (14, [some (.ref 77), some (.int x1), some (.int x2), some (.int x3), some (.int (x4 + 1)), o5], [], M5) res)))))) :
    mq_G mq_X10_leastPowers (14, [some (.ref 77), some (.int x1), some (.int x2), some (.int x3), some (.int x4), o5], [], M) res := by
  refine mz_Go.steps (n := 4) (k2 := (if (M.1 77 12) ≤ x4 then 84 else 23, [some (.ref 77), some (.int x1), some (.int x2), some (.int x3), some (.int x4), o5], [], M)) (P := []) rfl mz_o0 ?_
  refine mz_Go.ite (fun c20 => ?_) (fun c20 => ?_)
  · replace h := h.1 c20
    obtain ⟨M2, e2⟩ : ∃ y, y = mz_wr M 77 (upd (M.1 77) 9 0) := ⟨_, rfl⟩
    replace h := h M2 e2
    refine mz_Go.steps (n := 3) (k2 := (89, [some (.ref 77), some (.int x1), some (.int x2), some (.int x3), some (.int x4), o5], [], (mz_wr M 77 (upd (M.1 77) 9 0)))) (P := []) rfl mz_o0 ?_
    rw [← e2]
    refine mz_Go.steps (n := 3) (k2 := (92, [some (.ref 77), some (.int x1), some (.int x2), some (.int x3), some (.int x4), o5], [.long (x2.toInt64), .ref 77], M2)) (P := []) rfl mz_o0 ?_
    obtain ⟨M3, k3, h⟩ := h
    refine mz_Go.callV (As := [.long (x2.toInt64)]) (rest := []) (rfl : mz_find 92 (mz_rows mq_X10_leastPowers) = some (92, .invokevirtual 194, 3, 135, 0, 198)) (rfl : mz_nth mq_tab 135 = some mq_X10_tell) rfl rfl rfl rfl (Nat.le_of_ble_eq_true rfl) (Nat.le_of_ble_eq_true rfl) k3 ?_
    show mq_G mq_X10_leastPowers (95, [some (.ref 77), some (.int x1), some (.int x2), some (.int x3), some (.int x4), o5], [], M3) res
    refine mz_Go.steps (n := 3) (k2 := (98, [some (.ref 77), some (.int x1), some (.int x2), some (.int x3), some (.int x4), o5], [.long (x3.toInt64), .ref 77], M3)) (P := []) rfl mz_o0 ?_
    obtain ⟨M4, k4, h⟩ := h
    refine mz_Go.callV (As := [.long (x3.toInt64)]) (rest := []) (rfl : mz_find 98 (mz_rows mq_X10_leastPowers) = some (98, .invokevirtual 194, 3, 135, 0, 198)) (rfl : mz_nth mq_tab 135 = some mq_X10_tell) rfl rfl rfl rfl (Nat.le_of_ble_eq_true rfl) (Nat.le_of_ble_eq_true rfl) k4 ?_
    show mq_G mq_X10_leastPowers (101, [some (.ref 77), some (.int x1), some (.int x2), some (.int x3), some (.int x4), o5], [], M4) res
    refine mz_Go.steps (n := 1) (k2 := (102, [some (.ref 77), some (.int x1), some (.int x2), some (.int x3), some (.int x4), o5], [.int x1], M4)) (P := []) rfl mz_o0 ?_
    rw [h]
    exact mz_Go.iret (rfl : mz_find 102 (mz_rows mq_X10_leastPowers) = some (102, .ireturn, 1, 0, 0, 0)) rfl
  · replace h := h.2 c20
    refine mz_Go.steps (n := 2) (k2 := (26, [some (.ref 77), some (.int x1), some (.int x2), some (.int x3), some (.int x4), o5], [.int x4, .ref 77], M)) (P := []) rfl mz_o0 ?_
    obtain ⟨r5, M5, k5, h⟩ := h
    refine mz_Go.callV (As := [.int x4]) (rest := []) (rfl : mz_find 26 (mz_rows mq_X10_leastPowers) = some (26, .invokevirtual 229, 3, 206, 0, 210)) (rfl : mz_nth mq_tab 206 = some mq_X10_takesPowers) rfl rfl rfl rfl (Nat.le_of_ble_eq_true rfl) (Nat.le_of_ble_eq_true rfl) k5 ?_
    show mq_G mq_X10_leastPowers (29, [some (.ref 77), some (.int x1), some (.int x2), some (.int x3), some (.int x4), o5], [.int r5], M5) res
    refine mz_Go.steps (n := 1) (k2 := (if ¬ r5 = 0 then 35 else 32, [some (.ref 77), some (.int x1), some (.int x2), some (.int x3), some (.int x4), o5], [], M5)) (P := []) rfl mz_o0 ?_
    refine mz_Go.ite (fun c29 => ?_) (fun c29 => ?_)
    · replace h := h.1 c29
      refine mz_Go.steps (n := 1) (k2 := (36, [some (.ref 77), some (.int x1), some (.int x2), some (.int x3), some (.int x4), o5], [.ref 77], M5)) (P := []) rfl mz_o0 ?_
      obtain ⟨M7, k7, h⟩ := h
      refine mz_Go.callV (As := []) (rest := []) (rfl : mz_find 36 (mz_rows mq_X10_leastPowers) = some (36, .invokevirtual 226, 3, 172, 0, 209)) (rfl : mz_nth mq_tab 172 = some mq_X10_someIsBase) rfl rfl rfl rfl (Nat.le_of_ble_eq_true rfl) (Nat.le_of_ble_eq_true rfl) k7 ?_
      show mq_G mq_X10_leastPowers (39, [some (.ref 77), some (.int x1), some (.int x2), some (.int x3), some (.int x4), o5], [], M7) res
      refine mz_Go.steps (n := 1) (k2 := (40, [some (.ref 77), some (.int x1), some (.int x2), some (.int x3), some (.int x4), o5], [.ref 77], M7)) (P := []) rfl mz_o0 ?_
      obtain ⟨r8, k8, h⟩ := h
      refine mz_Go.callV (As := []) (rest := []) (rfl : mz_find 40 (mz_rows mq_X10_leastPowers) = some (40, .invokevirtual 232, 3, 170, 0, 211)) (rfl : mz_nth mq_tab 170 = some mq_X10_weightNow) rfl rfl rfl rfl (Nat.le_of_ble_eq_true rfl) (Nat.le_of_ble_eq_true rfl) k8 ?_
      show mq_G mq_X10_leastPowers (43, [some (.ref 77), some (.int x1), some (.int x2), some (.int x3), some (.int x4), o5], [.int r8], M7) res
      refine mz_Go.steps (n := 4) (k2 := (if x2 = (-1) then 56 else 50, [some (.ref 77), some (.int x1), some (.int x2), some (.int x3), some (.int x4), some (.int r8)], [], M7)) (P := []) rfl mz_o0 ?_
      refine mz_Go.ite (fun c47 => ?_) (fun c47 => ?_)
      · replace h := h.1 c47
        refine mz_Go.steps (n := 10) (k2 := (if ¬ r8 = r8 then 75 else 71, [some (.ref 77), some (.int r8), some (.int x4), some (.int 0), some (.int x4), some (.int r8)], [.int 0], M7)) (P := []) rfl mz_o0 ?_
        refine mz_Go.ite (fun c68 => ?_) (fun c68 => ?_)
        · replace h := h.1 c68
          refine mz_Go.steps (n := 5) (k2 := (14, [some (.ref 77), some (.int r8), some (.int x4), some (.int (0 + 0 : Int32)), some (.int (x4 + 1)), some (.int r8)], [], M7)) (P := []) rfl mz_o0 ?_
          exact h
        · replace h := h.2 c68
          refine mz_Go.steps (n := 6) (k2 := (14, [some (.ref 77), some (.int r8), some (.int x4), some (.int (0 + 1 : Int32)), some (.int (x4 + 1)), some (.int r8)], [], M7)) (P := []) rfl mz_o0 ?_
          exact h
      · replace h := h.2 c47
        refine mz_Go.steps (n := 3) (k2 := (if x1 ≤ r8 then 64 else 56, [some (.ref 77), some (.int x1), some (.int x2), some (.int x3), some (.int x4), some (.int r8)], [], M7)) (P := []) rfl mz_o0 ?_
        refine mz_Go.ite (fun c53 => ?_) (fun c53 => ?_)
        · replace h := h.1 c53
          refine mz_Go.steps (n := 4) (k2 := (if ¬ r8 = x1 then 75 else 71, [some (.ref 77), some (.int x1), some (.int x2), some (.int x3), some (.int x4), some (.int r8)], [.int x3], M7)) (P := []) rfl mz_o0 ?_
          refine mz_Go.ite (fun c68 => ?_) (fun c68 => ?_)
          · replace h := h.1 c68
            refine mz_Go.steps (n := 5) (k2 := (14, [some (.ref 77), some (.int x1), some (.int x2), some (.int (x3 + 0)), some (.int (x4 + 1)), some (.int r8)], [], M7)) (P := []) rfl mz_o0 ?_
            exact h
          · replace h := h.2 c68
            refine mz_Go.steps (n := 6) (k2 := (14, [some (.ref 77), some (.int x1), some (.int x2), some (.int (x3 + 1)), some (.int (x4 + 1)), some (.int r8)], [], M7)) (P := []) rfl mz_o0 ?_
            exact h
        · replace h := h.2 c53
          refine mz_Go.steps (n := 10) (k2 := (if ¬ r8 = r8 then 75 else 71, [some (.ref 77), some (.int r8), some (.int x4), some (.int 0), some (.int x4), some (.int r8)], [.int 0], M7)) (P := []) rfl mz_o0 ?_
          refine mz_Go.ite (fun c68 => ?_) (fun c68 => ?_)
          · replace h := h.1 c68
            refine mz_Go.steps (n := 5) (k2 := (14, [some (.ref 77), some (.int r8), some (.int x4), some (.int (0 + 0 : Int32)), some (.int (x4 + 1)), some (.int r8)], [], M7)) (P := []) rfl mz_o0 ?_
            exact h
          · replace h := h.2 c68
            refine mz_Go.steps (n := 6) (k2 := (14, [some (.ref 77), some (.int r8), some (.int x4), some (.int (0 + 1 : Int32)), some (.int (x4 + 1)), some (.int r8)], [], M7)) (P := []) rfl mz_o0 ?_
            exact h
    · replace h := h.2 c29
      refine mz_Go.steps (n := 3) (k2 := (14, [some (.ref 77), some (.int x1), some (.int x2), some (.int x3), some (.int (x4 + 1)), o5], [], M5)) (P := []) rfl mz_o0 ?_
      exact h
set_option maxRecDepth 100000 in
set_option maxHeartbeats 4000000 in
theorem t_X10_isPrime_0 (x0 : Int32) (M : mz_M) {res : mz_O} (h :
    mq_G mq_X10_isPrime (2, [some (.int x0), some (.int 2)], [], M) res) :
    mq_G mq_X10_isPrime (0, [some (.int x0), none], [], M) res := by
  refine mz_Go.steps (n := 2) (k2 := (2, [some (.int x0), some (.int 2)], [], M)) (P := []) rfl mz_o0 ?_
  exact h
set_option maxRecDepth 100000 in
set_option maxHeartbeats 4000000 in
theorem t_X10_isPrime_2 (x0 : Int32) (x1 : Int32) (M : mz_M) {res : mz_O} (h :
    ((x0 < (x1 * x1) →
      ((x0 ≤ 1 →
        res = (some (.int 0), M)) ∧
      (¬ (x0 ≤ 1) →
        res = (some (.int 1), M)))) ∧
    (¬ (x0 < (x1 * x1)) →
      (¬ x1 = 0) ∧
      ((¬ (x0 - x0 / x1 * x1) = 0 →
        mq_G mq_X10_isPrime (2, [some (.int x0), some (.int (x1 + 1))], [], M) res) ∧
      (¬ (¬ (x0 - x0 / x1 * x1) = 0) →
        res = (some (.int 0), M)))))) :
    mq_G mq_X10_isPrime (2, [some (.int x0), some (.int x1)], [], M) res := by
  refine mz_Go.steps (n := 5) (k2 := (if x0 < (x1 * x1) then 23 else 9, [some (.int x0), some (.int x1)], [], M)) (P := []) rfl mz_o0 ?_
  refine mz_Go.ite (fun c6 => ?_) (fun c6 => ?_)
  · replace h := h.1 c6
    refine mz_Go.steps (n := 3) (k2 := (if x0 ≤ 1 then 32 else 28, [some (.int x0), some (.int x1)], [], M)) (P := []) rfl mz_o0 ?_
    refine mz_Go.ite (fun c25 => ?_) (fun c25 => ?_)
    · replace h := h.1 c25
      refine mz_Go.steps (n := 1) (k2 := (33, [some (.int x0), some (.int x1)], [.int 0], M)) (P := []) rfl mz_o0 ?_
      rw [h]
      exact mz_Go.zret (rfl : mz_find 33 (mz_rows mq_X10_isPrime) = some (33, .ireturn, 1, 0, 0, 0)) rfl (Or.inl rfl)
    · replace h := h.2 c25
      refine mz_Go.steps (n := 2) (k2 := (33, [some (.int x0), some (.int x1)], [.int 1], M)) (P := []) rfl mz_o0 ?_
      rw [h]
      exact mz_Go.zret (rfl : mz_find 33 (mz_rows mq_X10_isPrime) = some (33, .ireturn, 1, 0, 0, 0)) rfl (Or.inr rfl)
  · replace h := h.2 c6
    obtain ⟨q4, h⟩ := h
    refine mz_Go.steps (n := 4) (k2 := (if ¬ (x0 - x0 / x1 * x1) = 0 then 17 else 15, [some (.int x0), some (.int x1)], [], M)) (P := [¬ x1 = 0]) rfl (mz_o1 q4) ?_
    refine mz_Go.ite (fun c12 => ?_) (fun c12 => ?_)
    · replace h := h.1 c12
      refine mz_Go.steps (n := 2) (k2 := (2, [some (.int x0), some (.int (x1 + 1))], [], M)) (P := []) rfl mz_o0 ?_
      exact h
    · replace h := h.2 c12
      refine mz_Go.steps (n := 1) (k2 := (16, [some (.int x0), some (.int x1)], [.int 0], M)) (P := []) rfl mz_o0 ?_
      rw [h]
      exact mz_Go.zret (rfl : mz_find 16 (mz_rows mq_X10_isPrime) = some (16, .ireturn, 1, 0, 0, 0)) rfl (Or.inl rfl)
set_option maxRecDepth 100000 in
set_option maxHeartbeats 4000000 in
theorem t_X10_powersOfTwo_0 (x0 : Int32) (M : mz_M) {res : mz_O} (h :
    (∃ (r1 : Int32), (mq_C mq_X10_isPrime [.int x0] M (some (.int r1), M)) ∧
    ((¬ r1 = 0 →
      (¬ x0 = 0) ∧
      mq_G mq_X10_powersOfTwo (15, [some (.int x0), some (.int 1), some (.int (2 - 2 / x0 * x0))], [], M) res) ∧
    (¬ (¬ r1 = 0) →
      res = (some (.int 0), M))))) :
    mq_G mq_X10_powersOfTwo (0, [some (.int x0), none, none], [], M) res := by
  refine mz_Go.steps (n := 1) (k2 := (1, [some (.int x0), none, none], [.int x0], M)) (P := []) rfl mz_o0 ?_
  obtain ⟨r1, k1, h⟩ := h
  refine mz_Go.callS (As := [.int x0]) (rest := []) (rfl : mz_find 1 (mz_rows mq_X10_powersOfTwo) = some (1, .invokestatic 235, 3, 208, 0, 212)) (rfl : mz_nth mq_tab 208 = some mq_X10_isPrime) (by decide) rfl rfl rfl (Nat.le_of_ble_eq_true rfl) (Nat.le_of_ble_eq_true rfl) k1 ?_
  show mq_G mq_X10_powersOfTwo (4, [some (.int x0), none, none], [.int r1], M) res
  refine mz_Go.steps (n := 1) (k2 := (if ¬ r1 = 0 then 9 else 7, [some (.int x0), none, none], [], M)) (P := []) rfl mz_o0 ?_
  refine mz_Go.ite (fun c4 => ?_) (fun c4 => ?_)
  · replace h := h.1 c4
    obtain ⟨q3, h⟩ := h
    refine mz_Go.steps (n := 6) (k2 := (15, [some (.int x0), some (.int 1), some (.int (2 - 2 / x0 * x0))], [], M)) (P := [¬ x0 = 0]) rfl (mz_o1 q3) ?_
    exact h
  · replace h := h.2 c4
    refine mz_Go.steps (n := 1) (k2 := (8, [some (.int x0), none, none], [.int 0], M)) (P := []) rfl mz_o0 ?_
    rw [h]
    exact mz_Go.iret (rfl : mz_find 8 (mz_rows mq_X10_powersOfTwo) = some (8, .ireturn, 1, 0, 0, 0)) rfl
set_option maxRecDepth 100000 in
set_option maxHeartbeats 4000000 in
theorem t_X10_powersOfTwo_15 (x0 : Int32) (x1 : Int32) (x2 : Int32) (M : mz_M) {res : mz_O} (h :
    ((x2 = 1 →
      res = (some (.int x1), M)) ∧
    (¬ (x2 = 1) →
      (¬ x0 = 0) ∧
      mq_G mq_X10_powersOfTwo (15, [some (.int x0), some (.int (x1 + 1)), some (.int ((2 * x2) - (2 * x2) / x0 * x0))], [], M) res))) :
    mq_G mq_X10_powersOfTwo (15, [some (.int x0), some (.int x1), some (.int x2)], [], M) res := by
  refine mz_Go.steps (n := 3) (k2 := (if x2 = 1 then 32 else 20, [some (.int x0), some (.int x1), some (.int x2)], [], M)) (P := []) rfl mz_o0 ?_
  refine mz_Go.ite (fun c17 => ?_) (fun c17 => ?_)
  · replace h := h.1 c17
    refine mz_Go.steps (n := 1) (k2 := (33, [some (.int x0), some (.int x1), some (.int x2)], [.int x1], M)) (P := []) rfl mz_o0 ?_
    rw [h]
    exact mz_Go.iret (rfl : mz_find 33 (mz_rows mq_X10_powersOfTwo) = some (33, .ireturn, 1, 0, 0, 0)) rfl
  · replace h := h.2 c17
    obtain ⟨q2, h⟩ := h
    refine mz_Go.steps (n := 8) (k2 := (15, [some (.int x0), some (.int (x1 + 1)), some (.int ((2 * x2) - (2 * x2) / x0 * x0))], [], M)) (P := [¬ x0 = 0]) rfl (mz_o1 q2) ?_
    exact h
set_option maxRecDepth 100000 in
set_option maxHeartbeats 4000000 in
theorem t_X10_types_0 (x1 : Int32) (M : mz_M) {res : mz_O} (h :
    (∀ M1 : mz_M, M1 = mz_wr M 77 (upd (M.1 77) 10 0) →
    (∃ (r2 : Int32), (mq_C mq_X10_in [.long (x1.toInt64), .long ((2 : Int32).toInt64), .long ((100 : Int32).toInt64)] M1 (some (.int r2), M1)) ∧
    ((¬ r2 = 0 →
      (∃ (r4 : Int32), (mq_C mq_X10_powersOfTwo [.int (x1 + 1)] M1 (some (.int r4), M1)) ∧
      (∃ (r5 : Int32), (mq_C mq_X10_powersOfTwo [.int ((2 * x1) + 1)] M1 (some (.int r5), M1)) ∧
      (∀ M6 : mz_M, M6 = mz_wr M1 77 (upd (M1.1 77) 9 0) →
      (∃ (M7 : mz_M), (mq_C mq_X10_tell [.ref 77, .long (r4.toInt64)] M6 (none, M7)) ∧
      (∃ (M8 : mz_M), (mq_C mq_X10_tell [.ref 77, .long (r5.toInt64)] M7 (none, M8)) ∧
      ((¬ r4 = x1 →
        ((r5 = (2 * x1) →
          res = (some (.int (0 ||| 2 : Int32)), M8)) ∧
        (¬ (r5 = (2 * x1)) →
          ((¬ r5 = x1 →
            res = (some (.int (0 ||| 0 : Int32)), M8)) ∧
          (¬ (¬ r5 = x1) →
            (¬ (4 : Int32) = 0) ∧
            ((¬ (((2 * x1) + 1) - ((2 * x1) + 1) / 4 * 4) = 3 →
              res = (some (.int (0 ||| 0 : Int32)), M8)) ∧
            (¬ (¬ (((2 * x1) + 1) - ((2 * x1) + 1) / 4 * 4) = 3) →
              res = (some (.int (0 ||| 2 : Int32)), M8)))))))) ∧
      (¬ (¬ r4 = x1) →
        ((r5 = (2 * x1) →
          res = (some (.int (1 ||| 2 : Int32)), M8)) ∧
        (¬ (r5 = (2 * x1)) →
          ((¬ r5 = x1 →
            res = (some (.int (1 ||| 0 : Int32)), M8)) ∧
          (¬ (¬ r5 = x1) →
            (¬ (4 : Int32) = 0) ∧
            ((¬ (((2 * x1) + 1) - ((2 * x1) + 1) / 4 * 4) = 3 →
              res = (some (.int (1 ||| 0 : Int32)), M8)) ∧
            (¬ (¬ (((2 * x1) + 1) - ((2 * x1) + 1) / 4 * 4) = 3) →
              res = (some (.int (1 ||| 2 : Int32)), M8))))))))))))))) ∧
    (¬ (¬ r2 = 0) →
      res = (some (.int (-1)), M1)))))) :
    mq_G mq_X10_types (0, [some (.ref 77), some (.int x1), none, none], [], M) res := by
  obtain ⟨M1, e1⟩ : ∃ y, y = mz_wr M 77 (upd (M.1 77) 10 0) := ⟨_, rfl⟩
  replace h := h M1 e1
  refine mz_Go.steps (n := 3) (k2 := (5, [some (.ref 77), some (.int x1), none, none], [], (mz_wr M 77 (upd (M.1 77) 10 0)))) (P := []) rfl mz_o0 ?_
  rw [← e1]
  refine mz_Go.steps (n := 4) (k2 := (13, [some (.ref 77), some (.int x1), none, none], [.long ((100 : Int32).toInt64), .long ((2 : Int32).toInt64), .long (x1.toInt64)], M1)) (P := []) rfl mz_o0 ?_
  obtain ⟨r2, k2, h⟩ := h
  refine mz_Go.callS (As := [.long (x1.toInt64), .long ((2 : Int32).toInt64), .long ((100 : Int32).toInt64)]) (rest := []) (rfl : mz_find 13 (mz_rows mq_X10_types) = some (13, .invokestatic 65, 3, 133, 0, 147)) (rfl : mz_nth mq_tab 133 = some mq_X10_in) (by decide) rfl rfl rfl (Nat.le_of_ble_eq_true rfl) (Nat.le_of_ble_eq_true rfl) k2 ?_
  show mq_G mq_X10_types (16, [some (.ref 77), some (.int x1), none, none], [.int r2], M1) res
  refine mz_Go.steps (n := 1) (k2 := (if ¬ r2 = 0 then 21 else 19, [some (.ref 77), some (.int x1), none, none], [], M1)) (P := []) rfl mz_o0 ?_
  refine mz_Go.ite (fun c16 => ?_) (fun c16 => ?_)
  · replace h := h.1 c16
    refine mz_Go.steps (n := 3) (k2 := (24, [some (.ref 77), some (.int x1), none, none], [.int (x1 + 1)], M1)) (P := []) rfl mz_o0 ?_
    obtain ⟨r4, k4, h⟩ := h
    refine mz_Go.callS (As := [.int (x1 + 1)]) (rest := []) (rfl : mz_find 24 (mz_rows mq_X10_types) = some (24, .invokestatic 238, 3, 209, 0, 213)) (rfl : mz_nth mq_tab 209 = some mq_X10_powersOfTwo) (by decide) rfl rfl rfl (Nat.le_of_ble_eq_true rfl) (Nat.le_of_ble_eq_true rfl) k4 ?_
    show mq_G mq_X10_types (27, [some (.ref 77), some (.int x1), none, none], [.int r4], M1) res
    refine mz_Go.steps (n := 6) (k2 := (33, [some (.ref 77), some (.int x1), some (.int r4), none], [.int ((2 * x1) + 1)], M1)) (P := []) rfl mz_o0 ?_
    obtain ⟨r5, k5, h⟩ := h
    refine mz_Go.callS (As := [.int ((2 * x1) + 1)]) (rest := []) (rfl : mz_find 33 (mz_rows mq_X10_types) = some (33, .invokestatic 238, 3, 209, 0, 213)) (rfl : mz_nth mq_tab 209 = some mq_X10_powersOfTwo) (by decide) rfl rfl rfl (Nat.le_of_ble_eq_true rfl) (Nat.le_of_ble_eq_true rfl) k5 ?_
    show mq_G mq_X10_types (36, [some (.ref 77), some (.int x1), some (.int r4), none], [.int r5], M1) res
    obtain ⟨M6, e6⟩ : ∃ y, y = mz_wr M1 77 (upd (M1.1 77) 9 0) := ⟨_, rfl⟩
    replace h := h M6 e6
    refine mz_Go.steps (n := 4) (k2 := (42, [some (.ref 77), some (.int x1), some (.int r4), some (.int r5)], [], (mz_wr M1 77 (upd (M1.1 77) 9 0)))) (P := []) rfl mz_o0 ?_
    rw [← e6]
    refine mz_Go.steps (n := 3) (k2 := (45, [some (.ref 77), some (.int x1), some (.int r4), some (.int r5)], [.long (r4.toInt64), .ref 77], M6)) (P := []) rfl mz_o0 ?_
    obtain ⟨M7, k7, h⟩ := h
    refine mz_Go.callV (As := [.long (r4.toInt64)]) (rest := []) (rfl : mz_find 45 (mz_rows mq_X10_types) = some (45, .invokevirtual 194, 3, 135, 0, 198)) (rfl : mz_nth mq_tab 135 = some mq_X10_tell) rfl rfl rfl rfl (Nat.le_of_ble_eq_true rfl) (Nat.le_of_ble_eq_true rfl) k7 ?_
    show mq_G mq_X10_types (48, [some (.ref 77), some (.int x1), some (.int r4), some (.int r5)], [], M7) res
    refine mz_Go.steps (n := 3) (k2 := (51, [some (.ref 77), some (.int x1), some (.int r4), some (.int r5)], [.long (r5.toInt64), .ref 77], M7)) (P := []) rfl mz_o0 ?_
    obtain ⟨M8, k8, h⟩ := h
    refine mz_Go.callV (As := [.long (r5.toInt64)]) (rest := []) (rfl : mz_find 51 (mz_rows mq_X10_types) = some (51, .invokevirtual 194, 3, 135, 0, 198)) (rfl : mz_nth mq_tab 135 = some mq_X10_tell) rfl rfl rfl rfl (Nat.le_of_ble_eq_true rfl) (Nat.le_of_ble_eq_true rfl) k8 ?_
    show mq_G mq_X10_types (54, [some (.ref 77), some (.int x1), some (.int r4), some (.int r5)], [], M8) res
    refine mz_Go.steps (n := 3) (k2 := (if ¬ r4 = x1 then 63 else 59, [some (.ref 77), some (.int x1), some (.int r4), some (.int r5)], [], M8)) (P := []) rfl mz_o0 ?_
    refine mz_Go.ite (fun c56 => ?_) (fun c56 => ?_)
    · replace h := h.1 c56
      refine mz_Go.steps (n := 6) (k2 := (if r5 = (2 * x1) then 87 else 71, [some (.ref 77), some (.int x1), some (.int r4), some (.int r5)], [.int 0], M8)) (P := []) rfl mz_o0 ?_
      refine mz_Go.ite (fun c68 => ?_) (fun c68 => ?_)
      · replace h := h.1 c68
        refine mz_Go.steps (n := 3) (k2 := (93, [some (.ref 77), some (.int x1), some (.int r4), some (.int r5)], [.int (0 ||| 2 : Int32)], M8)) (P := []) rfl mz_o0 ?_
        rw [h]
        exact mz_Go.iret (rfl : mz_find 93 (mz_rows mq_X10_types) = some (93, .ireturn, 1, 0, 0, 0)) rfl
      · replace h := h.2 c68
        refine mz_Go.steps (n := 3) (k2 := (if ¬ r5 = x1 then 91 else 76, [some (.ref 77), some (.int x1), some (.int r4), some (.int r5)], [.int 0], M8)) (P := []) rfl mz_o0 ?_
        refine mz_Go.ite (fun c73 => ?_) (fun c73 => ?_)
        · replace h := h.1 c73
          refine mz_Go.steps (n := 2) (k2 := (93, [some (.ref 77), some (.int x1), some (.int r4), some (.int r5)], [.int (0 ||| 0 : Int32)], M8)) (P := []) rfl mz_o0 ?_
          rw [h]
          exact mz_Go.iret (rfl : mz_find 93 (mz_rows mq_X10_types) = some (93, .ireturn, 1, 0, 0, 0)) rfl
        · replace h := h.2 c73
          obtain ⟨q13, h⟩ := h
          refine mz_Go.steps (n := 9) (k2 := (if ¬ (((2 * x1) + 1) - ((2 * x1) + 1) / 4 * 4) = 3 then 91 else 87, [some (.ref 77), some (.int x1), some (.int r4), some (.int r5)], [.int 0], M8)) (P := [¬ (4 : Int32) = 0]) rfl (mz_o1 q13) ?_
          refine mz_Go.ite (fun c84 => ?_) (fun c84 => ?_)
          · replace h := h.1 c84
            refine mz_Go.steps (n := 2) (k2 := (93, [some (.ref 77), some (.int x1), some (.int r4), some (.int r5)], [.int (0 ||| 0 : Int32)], M8)) (P := []) rfl mz_o0 ?_
            rw [h]
            exact mz_Go.iret (rfl : mz_find 93 (mz_rows mq_X10_types) = some (93, .ireturn, 1, 0, 0, 0)) rfl
          · replace h := h.2 c84
            refine mz_Go.steps (n := 3) (k2 := (93, [some (.ref 77), some (.int x1), some (.int r4), some (.int r5)], [.int (0 ||| 2 : Int32)], M8)) (P := []) rfl mz_o0 ?_
            rw [h]
            exact mz_Go.iret (rfl : mz_find 93 (mz_rows mq_X10_types) = some (93, .ireturn, 1, 0, 0, 0)) rfl
    · replace h := h.2 c56
      refine mz_Go.steps (n := 7) (k2 := (if r5 = (2 * x1) then 87 else 71, [some (.ref 77), some (.int x1), some (.int r4), some (.int r5)], [.int 1], M8)) (P := []) rfl mz_o0 ?_
      refine mz_Go.ite (fun c68 => ?_) (fun c68 => ?_)
      · replace h := h.1 c68
        refine mz_Go.steps (n := 3) (k2 := (93, [some (.ref 77), some (.int x1), some (.int r4), some (.int r5)], [.int (1 ||| 2 : Int32)], M8)) (P := []) rfl mz_o0 ?_
        rw [h]
        exact mz_Go.iret (rfl : mz_find 93 (mz_rows mq_X10_types) = some (93, .ireturn, 1, 0, 0, 0)) rfl
      · replace h := h.2 c68
        refine mz_Go.steps (n := 3) (k2 := (if ¬ r5 = x1 then 91 else 76, [some (.ref 77), some (.int x1), some (.int r4), some (.int r5)], [.int 1], M8)) (P := []) rfl mz_o0 ?_
        refine mz_Go.ite (fun c73 => ?_) (fun c73 => ?_)
        · replace h := h.1 c73
          refine mz_Go.steps (n := 2) (k2 := (93, [some (.ref 77), some (.int x1), some (.int r4), some (.int r5)], [.int (1 ||| 0 : Int32)], M8)) (P := []) rfl mz_o0 ?_
          rw [h]
          exact mz_Go.iret (rfl : mz_find 93 (mz_rows mq_X10_types) = some (93, .ireturn, 1, 0, 0, 0)) rfl
        · replace h := h.2 c73
          obtain ⟨q17, h⟩ := h
          refine mz_Go.steps (n := 9) (k2 := (if ¬ (((2 * x1) + 1) - ((2 * x1) + 1) / 4 * 4) = 3 then 91 else 87, [some (.ref 77), some (.int x1), some (.int r4), some (.int r5)], [.int 1], M8)) (P := [¬ (4 : Int32) = 0]) rfl (mz_o1 q17) ?_
          refine mz_Go.ite (fun c84 => ?_) (fun c84 => ?_)
          · replace h := h.1 c84
            refine mz_Go.steps (n := 2) (k2 := (93, [some (.ref 77), some (.int x1), some (.int r4), some (.int r5)], [.int (1 ||| 0 : Int32)], M8)) (P := []) rfl mz_o0 ?_
            rw [h]
            exact mz_Go.iret (rfl : mz_find 93 (mz_rows mq_X10_types) = some (93, .ireturn, 1, 0, 0, 0)) rfl
          · replace h := h.2 c84
            refine mz_Go.steps (n := 3) (k2 := (93, [some (.ref 77), some (.int x1), some (.int r4), some (.int r5)], [.int (1 ||| 2 : Int32)], M8)) (P := []) rfl mz_o0 ?_
            rw [h]
            exact mz_Go.iret (rfl : mz_find 93 (mz_rows mq_X10_types) = some (93, .ireturn, 1, 0, 0, 0)) rfl
  · replace h := h.2 c16
    refine mz_Go.steps (n := 1) (k2 := (20, [some (.ref 77), some (.int x1), none, none], [.int (-1)], M1)) (P := []) rfl mz_o0 ?_
    rw [h]
    exact mz_Go.iret (rfl : mz_find 20 (mz_rows mq_X10_types) = some (20, .ireturn, 1, 0, 0, 0)) rfl
set_option maxRecDepth 100000 in
set_option maxHeartbeats 4000000 in
theorem t_X10_readsElement_0 (M : mz_M) {res : mz_O} (h :
    mq_G mq_X10_readsElement (4, [some (.ref 77), some (.int 0), some (.int 0)], [], M) res) :
    mq_G mq_X10_readsElement (0, [some (.ref 77), none, none], [], M) res := by
  refine mz_Go.steps (n := 4) (k2 := (4, [some (.ref 77), some (.int 0), some (.int 0)], [], M)) (P := []) rfl mz_o0 ?_
  exact h
set_option maxRecDepth 100000 in
set_option maxHeartbeats 4000000 in
theorem t_X10_readsElement_4 (x1 : Int32) (x2 : Int32) (M : mz_M) {res : mz_O} (h :
    ((3 ≤ x2 →
      mq_G mq_X10_readsElement (63, [some (.ref 77), some (.int x1), some (.int x2)], [], M) res) ∧
    (¬ (3 ≤ x2) →
      ((x2 = 0 →
        mq_G mq_X10_readsElement (17, [some (.ref 77), some (.int x1), some (.int x2)], [], M) res) ∧
      (¬ (x2 = 0) →
        ((x1 ≤ 0 →
          mq_G mq_X10_readsElement (63, [some (.ref 77), some (.int x1), some (.int x2)], [], M) res) ∧
        (¬ (x1 ≤ 0) →
          mq_G mq_X10_readsElement (17, [some (.ref 77), some (.int x1), some (.int x2)], [], M) res))))))) :
    mq_G mq_X10_readsElement (4, [some (.ref 77), some (.int x1), some (.int x2)], [], M) res := by
  refine mz_Go.steps (n := 3) (k2 := (if 3 ≤ x2 then 63 else 9, [some (.ref 77), some (.int x1), some (.int x2)], [], M)) (P := []) rfl mz_o0 ?_
  refine mz_Go.ite (fun c6 => ?_) (fun c6 => ?_)
  · replace h := h.1 c6
    exact h
  · replace h := h.2 c6
    refine mz_Go.steps (n := 2) (k2 := (if x2 = 0 then 17 else 13, [some (.ref 77), some (.int x1), some (.int x2)], [], M)) (P := []) rfl mz_o0 ?_
    refine mz_Go.ite (fun c10 => ?_) (fun c10 => ?_)
    · replace h := h.1 c10
      exact h
    · replace h := h.2 c10
      refine mz_Go.steps (n := 2) (k2 := (if x1 ≤ 0 then 63 else 17, [some (.ref 77), some (.int x1), some (.int x2)], [], M)) (P := []) rfl mz_o0 ?_
      refine mz_Go.ite (fun c14 => ?_) (fun c14 => ?_)
      · replace h := h.1 c14
        exact h
      · replace h := h.2 c14
        exact h
set_option maxRecDepth 100000 in
set_option maxHeartbeats 4000000 in
theorem t_X10_readsElement_17 (x1 : Int32) (x2 : Int32) (M : mz_M) {res : mz_O} (h :
    (∃ (r1 : Int32), (mq_C mq_X10_sees [.ref 77] M (some (.int r1), M)) ∧
    (∃ (r2 : Int32), (mq_C mq_X10_in [.long (r1.toInt64), .long ((48 : Int32).toInt64), .long ((57 : Int32).toInt64)] M (some (.int r2), M)) ∧
    ((r2 = 0 →
      mq_G mq_X10_readsElement (63, [some (.ref 77), some (.int x1), some (.int x2)], [], M) res) ∧
    (¬ (r2 = 0) →
      (∃ (r4 : Int32), (mq_C mq_X10_sees [.ref 77] M (some (.int r4), M)) ∧
      (∀ M5 : mz_M, M5 = mz_wr M 77 (upd (M.1 77) 19 ((M.1 77 19) + 1)) →
      mq_G mq_X10_readsElement (4, [some (.ref 77), some (.int (((10 * x1) + r4) - 48)), some (.int (x2 + 1))], [], M5) res))))))) :
    mq_G mq_X10_readsElement (17, [some (.ref 77), some (.int x1), some (.int x2)], [], M) res := by
  refine mz_Go.steps (n := 1) (k2 := (18, [some (.ref 77), some (.int x1), some (.int x2)], [.ref 77], M)) (P := []) rfl mz_o0 ?_
  obtain ⟨r1, k1, h⟩ := h
  refine mz_Go.callV (As := []) (rest := []) (rfl : mz_find 18 (mz_rows mq_X10_readsElement) = some (18, .invokevirtual 155, 3, 176, 0, 182)) (rfl : mz_nth mq_tab 176 = some mq_X10_sees) rfl rfl rfl rfl (Nat.le_of_ble_eq_true rfl) (Nat.le_of_ble_eq_true rfl) k1 ?_
  show mq_G mq_X10_readsElement (21, [some (.ref 77), some (.int x1), some (.int x2)], [.int r1], M) res
  refine mz_Go.steps (n := 3) (k2 := (28, [some (.ref 77), some (.int x1), some (.int x2)], [.long ((57 : Int32).toInt64), .long ((48 : Int32).toInt64), .long (r1.toInt64)], M)) (P := []) rfl mz_o0 ?_
  obtain ⟨r2, k2, h⟩ := h
  refine mz_Go.callS (As := [.long (r1.toInt64), .long ((48 : Int32).toInt64), .long ((57 : Int32).toInt64)]) (rest := []) (rfl : mz_find 28 (mz_rows mq_X10_readsElement) = some (28, .invokestatic 65, 3, 133, 0, 147)) (rfl : mz_nth mq_tab 133 = some mq_X10_in) (by decide) rfl rfl rfl (Nat.le_of_ble_eq_true rfl) (Nat.le_of_ble_eq_true rfl) k2 ?_
  show mq_G mq_X10_readsElement (31, [some (.ref 77), some (.int x1), some (.int x2)], [.int r2], M) res
  refine mz_Go.steps (n := 1) (k2 := (if r2 = 0 then 63 else 34, [some (.ref 77), some (.int x1), some (.int x2)], [], M)) (P := []) rfl mz_o0 ?_
  refine mz_Go.ite (fun c31 => ?_) (fun c31 => ?_)
  · replace h := h.1 c31
    exact h
  · replace h := h.2 c31
    refine mz_Go.steps (n := 4) (k2 := (39, [some (.ref 77), some (.int x1), some (.int x2)], [.ref 77, .int (10 * x1)], M)) (P := []) rfl mz_o0 ?_
    obtain ⟨r4, k4, h⟩ := h
    refine mz_Go.callV (As := []) (rest := [.int (10 * x1)]) (rfl : mz_find 39 (mz_rows mq_X10_readsElement) = some (39, .invokevirtual 155, 3, 176, 0, 182)) (rfl : mz_nth mq_tab 176 = some mq_X10_sees) rfl rfl rfl rfl (Nat.le_of_ble_eq_true rfl) (Nat.le_of_ble_eq_true rfl) k4 ?_
    show mq_G mq_X10_readsElement (42, [some (.ref 77), some (.int x1), some (.int x2)], [.int r4, .int (10 * x1)], M) res
    obtain ⟨M5, e5⟩ : ∃ y, y = mz_wr M 77 (upd (M.1 77) 19 ((M.1 77 19) + 1)) := ⟨_, rfl⟩
    replace h := h M5 e5
    refine mz_Go.steps (n := 10) (k2 := (57, [some (.ref 77), some (.int (((10 * x1) + r4) - 48)), some (.int x2)], [], (mz_wr M 77 (upd (M.1 77) 19 ((M.1 77 19) + 1))))) (P := []) rfl mz_o0 ?_
    rw [← e5]
    refine mz_Go.steps (n := 2) (k2 := (4, [some (.ref 77), some (.int (((10 * x1) + r4) - 48)), some (.int (x2 + 1))], [], M5)) (P := []) rfl mz_o0 ?_
    exact h
set_option maxRecDepth 100000 in
set_option maxHeartbeats 4000000 in
theorem t_X10_readsElement_63 (x1 : Int32) (x2 : Int32) (M : mz_M) {res : mz_O} (h :
    ((¬ x2 = 0 →
      (∃ (r2 : Int32), (mq_C mq_X10_isElement [.ref 77, .int x1] M (some (.int r2), M)) ∧
      ((¬ r2 = 0 →
        mq_G mq_X10_readsElement (96, [some (.ref 77), some (.int x1), some (.int x2)], [], M) res) ∧
      (¬ (¬ r2 = 0) →
        (∃ (M4 : mz_M), (mq_C mq_X10_fault [.ref 77, .int ((M.1 77 19) - 1)] M (none, M4)) ∧
        mq_G mq_X10_readsElement (96, [some (.ref 77), some (.int x1), some (.int x2)], [], M4) res))))) ∧
    (¬ (¬ x2 = 0) →
      (∃ (M5 : mz_M), (mq_C mq_X10_fault [.ref 77, .int (M.1 77 19)] M (none, M5)) ∧
      mq_G mq_X10_readsElement (96, [some (.ref 77), some (.int x1), some (.int x2)], [], M5) res)))) :
    mq_G mq_X10_readsElement (63, [some (.ref 77), some (.int x1), some (.int x2)], [], M) res := by
  refine mz_Go.steps (n := 2) (k2 := (if ¬ x2 = 0 then 78 else 67, [some (.ref 77), some (.int x1), some (.int x2)], [], M)) (P := []) rfl mz_o0 ?_
  refine mz_Go.ite (fun c64 => ?_) (fun c64 => ?_)
  · replace h := h.1 c64
    refine mz_Go.steps (n := 2) (k2 := (80, [some (.ref 77), some (.int x1), some (.int x2)], [.int x1, .ref 77], M)) (P := []) rfl mz_o0 ?_
    obtain ⟨r2, k2, h⟩ := h
    refine mz_Go.callV (As := [.int x1]) (rest := []) (rfl : mz_find 80 (mz_rows mq_X10_readsElement) = some (80, .invokevirtual 183, 3, 156, 0, 194)) (rfl : mz_nth mq_tab 156 = some mq_X10_isElement) rfl rfl rfl rfl (Nat.le_of_ble_eq_true rfl) (Nat.le_of_ble_eq_true rfl) k2 ?_
    show mq_G mq_X10_readsElement (83, [some (.ref 77), some (.int x1), some (.int x2)], [.int r2], M) res
    refine mz_Go.steps (n := 1) (k2 := (if ¬ r2 = 0 then 96 else 86, [some (.ref 77), some (.int x1), some (.int x2)], [], M)) (P := []) rfl mz_o0 ?_
    refine mz_Go.ite (fun c83 => ?_) (fun c83 => ?_)
    · replace h := h.1 c83
      exact h
    · replace h := h.2 c83
      refine mz_Go.steps (n := 5) (k2 := (93, [some (.ref 77), some (.int x1), some (.int x2)], [.int ((M.1 77 19) - 1), .ref 77], M)) (P := []) rfl mz_o0 ?_
      obtain ⟨M4, k4, h⟩ := h
      refine mz_Go.callV (As := [.int ((M.1 77 19) - 1)]) (rest := []) (rfl : mz_find 93 (mz_rows mq_X10_readsElement) = some (93, .invokevirtual 158, 3, 177, 0, 183)) (rfl : mz_nth mq_tab 177 = some mq_X10_fault) rfl rfl rfl rfl (Nat.le_of_ble_eq_true rfl) (Nat.le_of_ble_eq_true rfl) k4 ?_
      show mq_G mq_X10_readsElement (96, [some (.ref 77), some (.int x1), some (.int x2)], [], M4) res
      exact h
  · replace h := h.2 c64
    refine mz_Go.steps (n := 3) (k2 := (72, [some (.ref 77), some (.int x1), some (.int x2)], [.int (M.1 77 19), .ref 77], M)) (P := []) rfl mz_o0 ?_
    obtain ⟨M5, k5, h⟩ := h
    refine mz_Go.callV (As := [.int (M.1 77 19)]) (rest := []) (rfl : mz_find 72 (mz_rows mq_X10_readsElement) = some (72, .invokevirtual 158, 3, 177, 0, 183)) (rfl : mz_nth mq_tab 177 = some mq_X10_fault) rfl rfl rfl rfl (Nat.le_of_ble_eq_true rfl) (Nat.le_of_ble_eq_true rfl) k5 ?_
    show mq_G mq_X10_readsElement (75, [some (.ref 77), some (.int x1), some (.int x2)], [], M5) res
    refine mz_Go.steps (n := 1) (k2 := (96, [some (.ref 77), some (.int x1), some (.int x2)], [], M5)) (P := []) rfl mz_o0 ?_
    exact h
set_option maxRecDepth 100000 in
set_option maxHeartbeats 4000000 in
theorem t_X10_readsElement_96 (o0 : Option Value) (x1 : Int32) (o2 : Option Value) (M : mz_M) {res : mz_O} (h :
    res = (some (.int x1), M)) :
    mq_G mq_X10_readsElement (96, [o0, some (.int x1), o2], [], M) res := by
  refine mz_Go.steps (n := 1) (k2 := (97, [o0, some (.int x1), o2], [.int x1], M)) (P := []) rfl mz_o0 ?_
  rw [h]
  exact mz_Go.iret (rfl : mz_find 97 (mz_rows mq_X10_readsElement) = some (97, .ireturn, 1, 0, 0, 0)) rfl
set_option maxRecDepth 100000 in
set_option maxHeartbeats 4000000 in
theorem t_X10_base_0 (x1 : Int32) (M : mz_M) {res : mz_O} (h :
    (∀ M1 : mz_M, M1 = mz_wr M 77 (upd (M.1 77) 10 0) →
    (∃ (M2 : mz_M), (mq_C mq_X10_begin [.ref 77] M1 (none, M2)) ∧
    mq_G mq_X10_base (13, [some (.ref 77), some (.int x1), some (.int 0), some (.int 0)], [], M2) res))) :
    mq_G mq_X10_base (0, [some (.ref 77), some (.int x1), none, none], [], M) res := by
  obtain ⟨M1, e1⟩ : ∃ y, y = mz_wr M 77 (upd (M.1 77) 10 0) := ⟨_, rfl⟩
  replace h := h M1 e1
  refine mz_Go.steps (n := 3) (k2 := (5, [some (.ref 77), some (.int x1), none, none], [], (mz_wr M 77 (upd (M.1 77) 10 0)))) (P := []) rfl mz_o0 ?_
  rw [← e1]
  refine mz_Go.steps (n := 1) (k2 := (6, [some (.ref 77), some (.int x1), none, none], [.ref 77], M1)) (P := []) rfl mz_o0 ?_
  obtain ⟨M2, k2, h⟩ := h
  refine mz_Go.callV (As := []) (rest := []) (rfl : mz_find 6 (mz_rows mq_X10_base) = some (6, .invokevirtual 170, 3, 175, 0, 188)) (rfl : mz_nth mq_tab 175 = some mq_X10_begin) rfl rfl rfl rfl (Nat.le_of_ble_eq_true rfl) (Nat.le_of_ble_eq_true rfl) k2 ?_
  show mq_G mq_X10_base (9, [some (.ref 77), some (.int x1), none, none], [], M2) res
  refine mz_Go.steps (n := 4) (k2 := (13, [some (.ref 77), some (.int x1), some (.int 0), some (.int 0)], [], M2)) (P := []) rfl mz_o0 ?_
  exact h
set_option maxRecDepth 100000 in
set_option maxHeartbeats 4000000 in
theorem t_X10_base_13 (x1 : Int32) (x2 : Int32) (x3 : Int32) (M : mz_M) {res : mz_O} (h :
    (((M.1 77 11) ≤ x3 →
      mq_G mq_X10_base (103, [some (.ref 77), some (.int x1), some (.int x2), some (.int x3)], [], M) res) ∧
    (¬ ((M.1 77 11) ≤ x3) →
      ((¬ (M.1 77 20) = (-1) →
        mq_G mq_X10_base (103, [some (.ref 77), some (.int x1), some (.int x2), some (.int x3)], [], M) res) ∧
      (¬ (¬ (M.1 77 20) = (-1)) →
        ((x3 ≤ 0 →
          mq_G mq_X10_base (50, [some (.ref 77), some (.int x1), some (.int x2), some (.int x3)], [], M) res) ∧
        (¬ (x3 ≤ 0) →
          (∃ (r4 : Int32), (mq_C mq_X10_sees [.ref 77] M (some (.int r4), M)) ∧
          ((r4 = 44 →
            mq_G mq_X10_base (50, [some (.ref 77), some (.int x1), some (.int x2), some (.int x3)], [], M) res) ∧
          (¬ (r4 = 44) →
            (∃ (M6 : mz_M), (mq_C mq_X10_fault [.ref 77, .int (M.1 77 19)] M (none, M6)) ∧
            mq_G mq_X10_base (50, [some (.ref 77), some (.int x1), some (.int x2), some (.int x3)], [], M6) res))))))))))) :
    mq_G mq_X10_base (13, [some (.ref 77), some (.int x1), some (.int x2), some (.int x3)], [], M) res := by
  refine mz_Go.steps (n := 4) (k2 := (if (M.1 77 11) ≤ x3 then 103 else 21, [some (.ref 77), some (.int x1), some (.int x2), some (.int x3)], [], M)) (P := []) rfl mz_o0 ?_
  refine mz_Go.ite (fun c18 => ?_) (fun c18 => ?_)
  · replace h := h.1 c18
    exact h
  · replace h := h.2 c18
    refine mz_Go.steps (n := 4) (k2 := (if ¬ (M.1 77 20) = (-1) then 103 else 29, [some (.ref 77), some (.int x1), some (.int x2), some (.int x3)], [], M)) (P := []) rfl mz_o0 ?_
    refine mz_Go.ite (fun c26 => ?_) (fun c26 => ?_)
    · replace h := h.1 c26
      exact h
    · replace h := h.2 c26
      refine mz_Go.steps (n := 2) (k2 := (if x3 ≤ 0 then 50 else 33, [some (.ref 77), some (.int x1), some (.int x2), some (.int x3)], [], M)) (P := []) rfl mz_o0 ?_
      refine mz_Go.ite (fun c30 => ?_) (fun c30 => ?_)
      · replace h := h.1 c30
        exact h
      · replace h := h.2 c30
        refine mz_Go.steps (n := 1) (k2 := (34, [some (.ref 77), some (.int x1), some (.int x2), some (.int x3)], [.ref 77], M)) (P := []) rfl mz_o0 ?_
        obtain ⟨r4, k4, h⟩ := h
        refine mz_Go.callV (As := []) (rest := []) (rfl : mz_find 34 (mz_rows mq_X10_base) = some (34, .invokevirtual 155, 3, 176, 0, 182)) (rfl : mz_nth mq_tab 176 = some mq_X10_sees) rfl rfl rfl rfl (Nat.le_of_ble_eq_true rfl) (Nat.le_of_ble_eq_true rfl) k4 ?_
        show mq_G mq_X10_base (37, [some (.ref 77), some (.int x1), some (.int x2), some (.int x3)], [.int r4], M) res
        refine mz_Go.steps (n := 2) (k2 := (if r4 = 44 then 50 else 42, [some (.ref 77), some (.int x1), some (.int x2), some (.int x3)], [], M)) (P := []) rfl mz_o0 ?_
        refine mz_Go.ite (fun c39 => ?_) (fun c39 => ?_)
        · replace h := h.1 c39
          exact h
        · replace h := h.2 c39
          refine mz_Go.steps (n := 3) (k2 := (47, [some (.ref 77), some (.int x1), some (.int x2), some (.int x3)], [.int (M.1 77 19), .ref 77], M)) (P := []) rfl mz_o0 ?_
          obtain ⟨M6, k6, h⟩ := h
          refine mz_Go.callV (As := [.int (M.1 77 19)]) (rest := []) (rfl : mz_find 47 (mz_rows mq_X10_base) = some (47, .invokevirtual 158, 3, 177, 0, 183)) (rfl : mz_nth mq_tab 177 = some mq_X10_fault) rfl rfl rfl rfl (Nat.le_of_ble_eq_true rfl) (Nat.le_of_ble_eq_true rfl) k6 ?_
          show mq_G mq_X10_base (50, [some (.ref 77), some (.int x1), some (.int x2), some (.int x3)], [], M6) res
          exact h
set_option maxRecDepth 100000 in
set_option maxHeartbeats 4000000 in
theorem t_X10_base_50 (x1 : Int32) (x2 : Int32) (x3 : Int32) (M : mz_M) {res : mz_O} (h :
    (((M.1 77 20) = (-1) →
      ((x3 ≤ 0 →
        mq_G mq_X10_base (75, [some (.ref 77), some (.int x1), some (.int x2), some (.int x3)], [], M) res) ∧
      (¬ (x3 ≤ 0) →
        (∀ M3 : mz_M, M3 = mz_wr M 77 (upd (M.1 77) 19 ((M.1 77 19) + 1)) →
        mq_G mq_X10_base (75, [some (.ref 77), some (.int x1), some (.int x2), some (.int x3)], [], M3) res)))) ∧
    (¬ ((M.1 77 20) = (-1)) →
      mq_G mq_X10_base (103, [some (.ref 77), some (.int x1), some (.int x2), some (.int x3)], [], M) res))) :
    mq_G mq_X10_base (50, [some (.ref 77), some (.int x1), some (.int x2), some (.int x3)], [], M) res := by
  refine mz_Go.steps (n := 4) (k2 := (if (M.1 77 20) = (-1) then 61 else 58, [some (.ref 77), some (.int x1), some (.int x2), some (.int x3)], [], M)) (P := []) rfl mz_o0 ?_
  refine mz_Go.ite (fun c55 => ?_) (fun c55 => ?_)
  · replace h := h.1 c55
    refine mz_Go.steps (n := 2) (k2 := (if x3 ≤ 0 then 75 else 65, [some (.ref 77), some (.int x1), some (.int x2), some (.int x3)], [], M)) (P := []) rfl mz_o0 ?_
    refine mz_Go.ite (fun c62 => ?_) (fun c62 => ?_)
    · replace h := h.1 c62
      exact h
    · replace h := h.2 c62
      obtain ⟨M3, e3⟩ : ∃ y, y = mz_wr M 77 (upd (M.1 77) 19 ((M.1 77 19) + 1)) := ⟨_, rfl⟩
      replace h := h M3 e3
      refine mz_Go.steps (n := 6) (k2 := (75, [some (.ref 77), some (.int x1), some (.int x2), some (.int x3)], [], (mz_wr M 77 (upd (M.1 77) 19 ((M.1 77 19) + 1))))) (P := []) rfl mz_o0 ?_
      rw [← e3]
      exact h
  · replace h := h.2 c55
    refine mz_Go.steps (n := 1) (k2 := (103, [some (.ref 77), some (.int x1), some (.int x2), some (.int x3)], [], M)) (P := []) rfl mz_o0 ?_
    exact h
set_option maxRecDepth 100000 in
set_option maxHeartbeats 4000000 in
theorem t_X10_base_75 (x1 : Int32) (x2 : Int32) (x3 : Int32) (M : mz_M) {res : mz_O} (h :
    (∃ (r1 : Int32) (M1 : mz_M), (mq_C mq_X10_readsElement [.ref 77] M (some (.int r1), M1)) ∧
    (vp_in x3 8) ∧
    (∀ M2 : mz_M, M2 = mz_wr M1 84 (upd (M1.1 84) x3.toNatClampNeg r1) →
    (vp_in x3 8) ∧
    (∃ (r5 : Int32), (mq_C mq_X10_bits [.int (M2.1 84 x3.toNatClampNeg)] M2 (some (.int r5), M2)) ∧
    mq_G mq_X10_base (13, [some (.ref 77), some (.int x1), some (.int (x2 + r5)), some (.int (x3 + 1))], [], M2) res)))) :
    mq_G mq_X10_base (75, [some (.ref 77), some (.int x1), some (.int x2), some (.int x3)], [], M) res := by
  refine mz_Go.steps (n := 4) (k2 := (81, [some (.ref 77), some (.int x1), some (.int x2), some (.int x3)], [.ref 77, .int x3, .ref 84], M)) (P := []) rfl mz_o0 ?_
  obtain ⟨r1, M1, k1, h⟩ := h
  refine mz_Go.callV (As := []) (rest := [.int x3, .ref 84]) (rfl : mz_find 81 (mz_rows mq_X10_base) = some (81, .invokevirtual 241, 3, 211, 0, 214)) (rfl : mz_nth mq_tab 211 = some mq_X10_readsElement) rfl rfl rfl rfl (Nat.le_of_ble_eq_true rfl) (Nat.le_of_ble_eq_true rfl) k1 ?_
  show mq_G mq_X10_base (84, [some (.ref 77), some (.int x1), some (.int x2), some (.int x3)], [.int r1, .int x3, .ref 84], M1) res
  obtain ⟨q3, h⟩ := h
  obtain ⟨M2, e2⟩ : ∃ y, y = mz_wr M1 84 (upd (M1.1 84) x3.toNatClampNeg r1) := ⟨_, rfl⟩
  replace h := h M2 e2
  refine mz_Go.steps (n := 1) (k2 := (85, [some (.ref 77), some (.int x1), some (.int x2), some (.int x3)], [], (mz_wr M1 84 (upd (M1.1 84) x3.toNatClampNeg r1)))) (P := [vp_in x3 8]) rfl (mz_o1 q3) ?_
  rw [← e2]
  obtain ⟨q4, h⟩ := h
  refine mz_Go.steps (n := 5) (k2 := (92, [some (.ref 77), some (.int x1), some (.int x2), some (.int x3)], [.int (M2.1 84 x3.toNatClampNeg), .int x2], M2)) (P := [vp_in x3 8]) rfl (mz_o1 q4) ?_
  obtain ⟨r5, k5, h⟩ := h
  refine mz_Go.callS (As := [.int (M2.1 84 x3.toNatClampNeg)]) (rest := [.int x2]) (rfl : mz_find 92 (mz_rows mq_X10_base) = some (92, .invokestatic 129, 3, 136, 0, 173)) (rfl : mz_nth mq_tab 136 = some mq_X10_bits) (by decide) rfl rfl rfl (Nat.le_of_ble_eq_true rfl) (Nat.le_of_ble_eq_true rfl) k5 ?_
  show mq_G mq_X10_base (95, [some (.ref 77), some (.int x1), some (.int x2), some (.int x3)], [.int r5, .int x2], M2) res
  refine mz_Go.steps (n := 4) (k2 := (13, [some (.ref 77), some (.int x1), some (.int (x2 + r5)), some (.int (x3 + 1))], [], M2)) (P := []) rfl mz_o0 ?_
  exact h
set_option maxRecDepth 100000 in
set_option maxHeartbeats 4000000 in
theorem t_X10_base_103 (x1 : Int32) (x2 : Int32) (o3 : Option Value) (M : mz_M) {res : mz_O} (h :
    ((¬ (M.1 77 20) = (-1) →
      mq_G mq_X10_base (130, [some (.ref 77), some (.int x1), some (.int x2), o3], [], M) res) ∧
    (¬ (¬ (M.1 77 20) = (-1)) →
      (((M.1 77 18) ≤ (M.1 77 19) →
        mq_G mq_X10_base (130, [some (.ref 77), some (.int x1), some (.int x2), o3], [], M) res) ∧
      (¬ ((M.1 77 18) ≤ (M.1 77 19)) →
        (∃ (M3 : mz_M), (mq_C mq_X10_fault [.ref 77, .int (M.1 77 19)] M (none, M3)) ∧
        mq_G mq_X10_base (130, [some (.ref 77), some (.int x1), some (.int x2), o3], [], M3) res)))))) :
    mq_G mq_X10_base (103, [some (.ref 77), some (.int x1), some (.int x2), o3], [], M) res := by
  refine mz_Go.steps (n := 4) (k2 := (if ¬ (M.1 77 20) = (-1) then 130 else 111, [some (.ref 77), some (.int x1), some (.int x2), o3], [], M)) (P := []) rfl mz_o0 ?_
  refine mz_Go.ite (fun c108 => ?_) (fun c108 => ?_)
  · replace h := h.1 c108
    exact h
  · replace h := h.2 c108
    refine mz_Go.steps (n := 5) (k2 := (if (M.1 77 18) ≤ (M.1 77 19) then 130 else 122, [some (.ref 77), some (.int x1), some (.int x2), o3], [], M)) (P := []) rfl mz_o0 ?_
    refine mz_Go.ite (fun c119 => ?_) (fun c119 => ?_)
    · replace h := h.1 c119
      exact h
    · replace h := h.2 c119
      refine mz_Go.steps (n := 3) (k2 := (127, [some (.ref 77), some (.int x1), some (.int x2), o3], [.int (M.1 77 19), .ref 77], M)) (P := []) rfl mz_o0 ?_
      obtain ⟨M3, k3, h⟩ := h
      refine mz_Go.callV (As := [.int (M.1 77 19)]) (rest := []) (rfl : mz_find 127 (mz_rows mq_X10_base) = some (127, .invokevirtual 158, 3, 177, 0, 183)) (rfl : mz_nth mq_tab 177 = some mq_X10_fault) rfl rfl rfl rfl (Nat.le_of_ble_eq_true rfl) (Nat.le_of_ble_eq_true rfl) k3 ?_
      show mq_G mq_X10_base (130, [some (.ref 77), some (.int x1), some (.int x2), o3], [], M3) res
      exact h
set_option maxRecDepth 100000 in
set_option maxHeartbeats 4000000 in
theorem t_X10_base_130 (x1 : Int32) (x2 : Int32) (o3 : Option Value) (M : mz_M) {res : mz_O} (h :
    (((M.1 77 20) = (-1) →
      (∃ (r2 : Int32), (mq_C mq_X10_isSlot [.int x1] M (some (.int r2), M)) ∧
      ((¬ r2 = 0 →
        (∃ (r4 : Int32) (M4 : mz_M), (mq_C mq_X10_rank [.ref 77, .int (M.1 77 11)] M (some (.int r4), M4)) ∧
        (((M4.1 77 11) ≤ r4 →
          (∃ (M6 : mz_M), (mq_C mq_X10_someIsBase [.ref 77] M4 (none, M6)) ∧
          (∃ (r7 : Int32) (M7 : mz_M), (mq_C mq_X10_holds [.ref 77, .int x1] M6 (some (.int r7), M7)) ∧
          ((0 ≤ r7 →
            mq_G mq_X10_base (192, [some (.ref 77), some (.int x1), some (.int x2), some (.int r7)], [.int x2], M7) res) ∧
          (¬ (0 ≤ r7) →
            mq_G mq_X10_base (192, [some (.ref 77), some (.int x1), some (.int x2), some (.int r7)], [.int r7], M7) res))))) ∧
        (¬ ((M4.1 77 11) ≤ r4) →
          res = (some (.int (-2)), M4))))) ∧
      (¬ (¬ r2 = 0) →
        res = (some (.int (-1)), M))))) ∧
    (¬ ((M.1 77 20) = (-1)) →
      res = (some (.int ((-21) - (M.1 77 20))), M)))) :
    mq_G mq_X10_base (130, [some (.ref 77), some (.int x1), some (.int x2), o3], [], M) res := by
  refine mz_Go.steps (n := 4) (k2 := (if (M.1 77 20) = (-1) then 146 else 138, [some (.ref 77), some (.int x1), some (.int x2), o3], [], M)) (P := []) rfl mz_o0 ?_
  refine mz_Go.ite (fun c135 => ?_) (fun c135 => ?_)
  · replace h := h.1 c135
    refine mz_Go.steps (n := 1) (k2 := (147, [some (.ref 77), some (.int x1), some (.int x2), o3], [.int x1], M)) (P := []) rfl mz_o0 ?_
    obtain ⟨r2, k2, h⟩ := h
    refine mz_Go.callS (As := [.int x1]) (rest := []) (rfl : mz_find 147 (mz_rows mq_X10_base) = some (147, .invokestatic 244, 3, 158, 0, 215)) (rfl : mz_nth mq_tab 158 = some mq_X10_isSlot) (by decide) rfl rfl rfl (Nat.le_of_ble_eq_true rfl) (Nat.le_of_ble_eq_true rfl) k2 ?_
    show mq_G mq_X10_base (150, [some (.ref 77), some (.int x1), some (.int x2), o3], [.int r2], M) res
    refine mz_Go.steps (n := 1) (k2 := (if ¬ r2 = 0 then 155 else 153, [some (.ref 77), some (.int x1), some (.int x2), o3], [], M)) (P := []) rfl mz_o0 ?_
    refine mz_Go.ite (fun c150 => ?_) (fun c150 => ?_)
    · replace h := h.1 c150
      refine mz_Go.steps (n := 3) (k2 := (160, [some (.ref 77), some (.int x1), some (.int x2), o3], [.int (M.1 77 11), .ref 77], M)) (P := []) rfl mz_o0 ?_
      obtain ⟨r4, M4, k4, h⟩ := h
      refine mz_Go.callV (As := [.int (M.1 77 11)]) (rest := []) (rfl : mz_find 160 (mz_rows mq_X10_base) = some (160, .invokevirtual 114, 3, 160, 0, 165)) (rfl : mz_nth mq_tab 160 = some mq_X10_rank) rfl rfl rfl rfl (Nat.le_of_ble_eq_true rfl) (Nat.le_of_ble_eq_true rfl) k4 ?_
      show mq_G mq_X10_base (163, [some (.ref 77), some (.int x1), some (.int x2), o3], [.int r4], M4) res
      refine mz_Go.steps (n := 3) (k2 := (if (M4.1 77 11) ≤ r4 then 173 else 170, [some (.ref 77), some (.int x1), some (.int x2), o3], [], M4)) (P := []) rfl mz_o0 ?_
      refine mz_Go.ite (fun c167 => ?_) (fun c167 => ?_)
      · replace h := h.1 c167
        refine mz_Go.steps (n := 1) (k2 := (174, [some (.ref 77), some (.int x1), some (.int x2), o3], [.ref 77], M4)) (P := []) rfl mz_o0 ?_
        obtain ⟨M6, k6, h⟩ := h
        refine mz_Go.callV (As := []) (rest := []) (rfl : mz_find 174 (mz_rows mq_X10_base) = some (174, .invokevirtual 226, 3, 172, 0, 209)) (rfl : mz_nth mq_tab 172 = some mq_X10_someIsBase) rfl rfl rfl rfl (Nat.le_of_ble_eq_true rfl) (Nat.le_of_ble_eq_true rfl) k6 ?_
        show mq_G mq_X10_base (177, [some (.ref 77), some (.int x1), some (.int x2), o3], [], M6) res
        refine mz_Go.steps (n := 2) (k2 := (179, [some (.ref 77), some (.int x1), some (.int x2), o3], [.int x1, .ref 77], M6)) (P := []) rfl mz_o0 ?_
        obtain ⟨r7, M7, k7, h⟩ := h
        refine mz_Go.callV (As := [.int x1]) (rest := []) (rfl : mz_find 179 (mz_rows mq_X10_base) = some (179, .invokevirtual 247, 3, 174, 0, 216)) (rfl : mz_nth mq_tab 174 = some mq_X10_holds) rfl rfl rfl rfl (Nat.le_of_ble_eq_true rfl) (Nat.le_of_ble_eq_true rfl) k7 ?_
        show mq_G mq_X10_base (182, [some (.ref 77), some (.int x1), some (.int x2), o3], [.int r7], M7) res
        refine mz_Go.steps (n := 3) (k2 := (if 0 ≤ r7 then 191 else 187, [some (.ref 77), some (.int x1), some (.int x2), some (.int r7)], [], M7)) (P := []) rfl mz_o0 ?_
        refine mz_Go.ite (fun c184 => ?_) (fun c184 => ?_)
        · replace h := h.1 c184
          refine mz_Go.steps (n := 1) (k2 := (192, [some (.ref 77), some (.int x1), some (.int x2), some (.int r7)], [.int x2], M7)) (P := []) rfl mz_o0 ?_
          exact h
        · replace h := h.2 c184
          refine mz_Go.steps (n := 2) (k2 := (192, [some (.ref 77), some (.int x1), some (.int x2), some (.int r7)], [.int r7], M7)) (P := []) rfl mz_o0 ?_
          exact h
      · replace h := h.2 c167
        refine mz_Go.steps (n := 1) (k2 := (172, [some (.ref 77), some (.int x1), some (.int x2), o3], [.int (-2)], M4)) (P := []) rfl mz_o0 ?_
        rw [h]
        exact mz_Go.iret (rfl : mz_find 172 (mz_rows mq_X10_base) = some (172, .ireturn, 1, 0, 0, 0)) rfl
    · replace h := h.2 c150
      refine mz_Go.steps (n := 1) (k2 := (154, [some (.ref 77), some (.int x1), some (.int x2), o3], [.int (-1)], M)) (P := []) rfl mz_o0 ?_
      rw [h]
      exact mz_Go.iret (rfl : mz_find 154 (mz_rows mq_X10_base) = some (154, .ireturn, 1, 0, 0, 0)) rfl
  · replace h := h.2 c135
    refine mz_Go.steps (n := 4) (k2 := (145, [some (.ref 77), some (.int x1), some (.int x2), o3], [.int ((-21) - (M.1 77 20))], M)) (P := []) rfl mz_o0 ?_
    rw [h]
    exact mz_Go.iret (rfl : mz_find 145 (mz_rows mq_X10_base) = some (145, .ireturn, 1, 0, 0, 0)) rfl
set_option maxRecDepth 100000 in
set_option maxHeartbeats 4000000 in
theorem t_X10_base_192 (o0 : Option Value) (o1 : Option Value) (o2 : Option Value) (o3 : Option Value) (s0 : Int32) (M : mz_M) {res : mz_O} (h :
    res = (some (.int s0), M)) :
    mq_G mq_X10_base (192, [o0, o1, o2, o3], [.int s0], M) res := by
  rw [h]
  exact mz_Go.iret (rfl : mz_find 192 (mz_rows mq_X10_base) = some (192, .ireturn, 1, 0, 0, 0)) rfl
set_option maxRecDepth 100000 in
set_option maxHeartbeats 4000000 in
theorem t_X10_makes_0 (x1 : Int32) (x2 : Int32) (x3 : Int32) (M : mz_M) {res : mz_O} (h :
    (∀ M1 : mz_M, M1 = mz_wr M 77 (upd (M.1 77) 10 0) →
    (∃ (r2 : Int32), (mq_C mq_X10_isSlot [.int x1] M1 (some (.int r2), M1)) ∧
    ((r2 = 0 →
      res = (some (.int (-1)), M1)) ∧
    (¬ (r2 = 0) →
      (∃ (r4 : Int32), (mq_C mq_X10_isElement [.ref 77, .int x2] M1 (some (.int r4), M1)) ∧
      ((r4 = 0 →
        res = (some (.int (-1)), M1)) ∧
      (¬ (r4 = 0) →
        (∃ (r6 : Int32), (mq_C mq_X10_in [.long (x3.toInt64), .long ((0 : Int32).toInt64), .long ((1 : Int32).toInt64)] M1 (some (.int r6), M1)) ∧
        ((¬ r6 = 0 →
          ((¬ x3 = 0 →
            (∃ (r9 : Int32) (M9 : mz_M), (mq_C mq_X10_isNormal [.ref 77, .int x2] M1 (some (.int r9), M9)) ∧
            ((¬ r9 = 0 →
              (∃ (M11 : mz_M), (mq_C mq_X10_someIsBase [.ref 77] M9 (none, M11)) ∧
              (∃ (r12 : Int32) (M12 : mz_M), (mq_C mq_X10_holds [.ref 77, .int x1] M11 (some (.int r12), M12)) ∧
              res = (some (.int r12), M12)))) ∧
            (¬ (¬ r9 = 0) →
              res = (some (.int (-2)), M9))))) ∧
          (¬ (¬ x3 = 0) →
            (∃ (r13 : Int32) (M13 : mz_M), (mq_C mq_X10_takesPowers [.ref 77, .int x2] M1 (some (.int r13), M13)) ∧
            ((r13 = 0 →
              res = (some (.int (-2)), M13)) ∧
            (¬ (r13 = 0) →
              (∃ (M15 : mz_M), (mq_C mq_X10_someIsBase [.ref 77] M13 (none, M15)) ∧
              (∃ (r16 : Int32) (M16 : mz_M), (mq_C mq_X10_holds [.ref 77, .int x1] M15 (some (.int r16), M16)) ∧
              res = (some (.int r16), M16))))))))) ∧
        (¬ (¬ r6 = 0) →
          res = (some (.int (-1)), M1)))))))))))) :
    mq_G mq_X10_makes (0, [some (.ref 77), some (.int x1), some (.int x2), some (.int x3)], [], M) res := by
  obtain ⟨M1, e1⟩ : ∃ y, y = mz_wr M 77 (upd (M.1 77) 10 0) := ⟨_, rfl⟩
  replace h := h M1 e1
  refine mz_Go.steps (n := 3) (k2 := (5, [some (.ref 77), some (.int x1), some (.int x2), some (.int x3)], [], (mz_wr M 77 (upd (M.1 77) 10 0)))) (P := []) rfl mz_o0 ?_
  rw [← e1]
  refine mz_Go.steps (n := 1) (k2 := (6, [some (.ref 77), some (.int x1), some (.int x2), some (.int x3)], [.int x1], M1)) (P := []) rfl mz_o0 ?_
  obtain ⟨r2, k2, h⟩ := h
  refine mz_Go.callS (As := [.int x1]) (rest := []) (rfl : mz_find 6 (mz_rows mq_X10_makes) = some (6, .invokestatic 244, 3, 158, 0, 215)) (rfl : mz_nth mq_tab 158 = some mq_X10_isSlot) (by decide) rfl rfl rfl (Nat.le_of_ble_eq_true rfl) (Nat.le_of_ble_eq_true rfl) k2 ?_
  show mq_G mq_X10_makes (9, [some (.ref 77), some (.int x1), some (.int x2), some (.int x3)], [.int r2], M1) res
  refine mz_Go.steps (n := 1) (k2 := (if r2 = 0 then 30 else 12, [some (.ref 77), some (.int x1), some (.int x2), some (.int x3)], [], M1)) (P := []) rfl mz_o0 ?_
  refine mz_Go.ite (fun c9 => ?_) (fun c9 => ?_)
  · replace h := h.1 c9
    refine mz_Go.steps (n := 1) (k2 := (31, [some (.ref 77), some (.int x1), some (.int x2), some (.int x3)], [.int (-1)], M1)) (P := []) rfl mz_o0 ?_
    rw [h]
    exact mz_Go.iret (rfl : mz_find 31 (mz_rows mq_X10_makes) = some (31, .ireturn, 1, 0, 0, 0)) rfl
  · replace h := h.2 c9
    refine mz_Go.steps (n := 2) (k2 := (14, [some (.ref 77), some (.int x1), some (.int x2), some (.int x3)], [.int x2, .ref 77], M1)) (P := []) rfl mz_o0 ?_
    obtain ⟨r4, k4, h⟩ := h
    refine mz_Go.callV (As := [.int x2]) (rest := []) (rfl : mz_find 14 (mz_rows mq_X10_makes) = some (14, .invokevirtual 183, 3, 156, 0, 194)) (rfl : mz_nth mq_tab 156 = some mq_X10_isElement) rfl rfl rfl rfl (Nat.le_of_ble_eq_true rfl) (Nat.le_of_ble_eq_true rfl) k4 ?_
    show mq_G mq_X10_makes (17, [some (.ref 77), some (.int x1), some (.int x2), some (.int x3)], [.int r4], M1) res
    refine mz_Go.steps (n := 1) (k2 := (if r4 = 0 then 30 else 20, [some (.ref 77), some (.int x1), some (.int x2), some (.int x3)], [], M1)) (P := []) rfl mz_o0 ?_
    refine mz_Go.ite (fun c17 => ?_) (fun c17 => ?_)
    · replace h := h.1 c17
      refine mz_Go.steps (n := 1) (k2 := (31, [some (.ref 77), some (.int x1), some (.int x2), some (.int x3)], [.int (-1)], M1)) (P := []) rfl mz_o0 ?_
      rw [h]
      exact mz_Go.iret (rfl : mz_find 31 (mz_rows mq_X10_makes) = some (31, .ireturn, 1, 0, 0, 0)) rfl
    · replace h := h.2 c17
      refine mz_Go.steps (n := 4) (k2 := (24, [some (.ref 77), some (.int x1), some (.int x2), some (.int x3)], [.long ((1 : Int32).toInt64), .long ((0 : Int32).toInt64), .long (x3.toInt64)], M1)) (P := []) rfl mz_o0 ?_
      obtain ⟨r6, k6, h⟩ := h
      refine mz_Go.callS (As := [.long (x3.toInt64), .long ((0 : Int32).toInt64), .long ((1 : Int32).toInt64)]) (rest := []) (rfl : mz_find 24 (mz_rows mq_X10_makes) = some (24, .invokestatic 65, 3, 133, 0, 147)) (rfl : mz_nth mq_tab 133 = some mq_X10_in) (by decide) rfl rfl rfl (Nat.le_of_ble_eq_true rfl) (Nat.le_of_ble_eq_true rfl) k6 ?_
      show mq_G mq_X10_makes (27, [some (.ref 77), some (.int x1), some (.int x2), some (.int x3)], [.int r6], M1) res
      refine mz_Go.steps (n := 1) (k2 := (if ¬ r6 = 0 then 32 else 30, [some (.ref 77), some (.int x1), some (.int x2), some (.int x3)], [], M1)) (P := []) rfl mz_o0 ?_
      refine mz_Go.ite (fun c27 => ?_) (fun c27 => ?_)
      · replace h := h.1 c27
        refine mz_Go.steps (n := 2) (k2 := (if ¬ x3 = 0 then 47 else 36, [some (.ref 77), some (.int x1), some (.int x2), some (.int x3)], [], M1)) (P := []) rfl mz_o0 ?_
        refine mz_Go.ite (fun c33 => ?_) (fun c33 => ?_)
        · replace h := h.1 c33
          refine mz_Go.steps (n := 2) (k2 := (49, [some (.ref 77), some (.int x1), some (.int x2), some (.int x3)], [.int x2, .ref 77], M1)) (P := []) rfl mz_o0 ?_
          obtain ⟨r9, M9, k9, h⟩ := h
          refine mz_Go.callV (As := [.int x2]) (rest := []) (rfl : mz_find 49 (mz_rows mq_X10_makes) = some (49, .invokevirtual 132, 3, 162, 0, 174)) (rfl : mz_nth mq_tab 162 = some mq_X10_isNormal) rfl rfl rfl rfl (Nat.le_of_ble_eq_true rfl) (Nat.le_of_ble_eq_true rfl) k9 ?_
          show mq_G mq_X10_makes (52, [some (.ref 77), some (.int x1), some (.int x2), some (.int x3)], [.int r9], M9) res
          refine mz_Go.steps (n := 1) (k2 := (if ¬ r9 = 0 then 58 else 55, [some (.ref 77), some (.int x1), some (.int x2), some (.int x3)], [], M9)) (P := []) rfl mz_o0 ?_
          refine mz_Go.ite (fun c52 => ?_) (fun c52 => ?_)
          · replace h := h.1 c52
            refine mz_Go.steps (n := 1) (k2 := (59, [some (.ref 77), some (.int x1), some (.int x2), some (.int x3)], [.ref 77], M9)) (P := []) rfl mz_o0 ?_
            obtain ⟨M11, k11, h⟩ := h
            refine mz_Go.callV (As := []) (rest := []) (rfl : mz_find 59 (mz_rows mq_X10_makes) = some (59, .invokevirtual 226, 3, 172, 0, 209)) (rfl : mz_nth mq_tab 172 = some mq_X10_someIsBase) rfl rfl rfl rfl (Nat.le_of_ble_eq_true rfl) (Nat.le_of_ble_eq_true rfl) k11 ?_
            show mq_G mq_X10_makes (62, [some (.ref 77), some (.int x1), some (.int x2), some (.int x3)], [], M11) res
            refine mz_Go.steps (n := 2) (k2 := (64, [some (.ref 77), some (.int x1), some (.int x2), some (.int x3)], [.int x1, .ref 77], M11)) (P := []) rfl mz_o0 ?_
            obtain ⟨r12, M12, k12, h⟩ := h
            refine mz_Go.callV (As := [.int x1]) (rest := []) (rfl : mz_find 64 (mz_rows mq_X10_makes) = some (64, .invokevirtual 247, 3, 174, 0, 216)) (rfl : mz_nth mq_tab 174 = some mq_X10_holds) rfl rfl rfl rfl (Nat.le_of_ble_eq_true rfl) (Nat.le_of_ble_eq_true rfl) k12 ?_
            show mq_G mq_X10_makes (67, [some (.ref 77), some (.int x1), some (.int x2), some (.int x3)], [.int r12], M12) res
            rw [h]
            exact mz_Go.iret (rfl : mz_find 67 (mz_rows mq_X10_makes) = some (67, .ireturn, 1, 0, 0, 0)) rfl
          · replace h := h.2 c52
            refine mz_Go.steps (n := 1) (k2 := (57, [some (.ref 77), some (.int x1), some (.int x2), some (.int x3)], [.int (-2)], M9)) (P := []) rfl mz_o0 ?_
            rw [h]
            exact mz_Go.iret (rfl : mz_find 57 (mz_rows mq_X10_makes) = some (57, .ireturn, 1, 0, 0, 0)) rfl
        · replace h := h.2 c33
          refine mz_Go.steps (n := 2) (k2 := (38, [some (.ref 77), some (.int x1), some (.int x2), some (.int x3)], [.int x2, .ref 77], M1)) (P := []) rfl mz_o0 ?_
          obtain ⟨r13, M13, k13, h⟩ := h
          refine mz_Go.callV (As := [.int x2]) (rest := []) (rfl : mz_find 38 (mz_rows mq_X10_makes) = some (38, .invokevirtual 229, 3, 206, 0, 210)) (rfl : mz_nth mq_tab 206 = some mq_X10_takesPowers) rfl rfl rfl rfl (Nat.le_of_ble_eq_true rfl) (Nat.le_of_ble_eq_true rfl) k13 ?_
          show mq_G mq_X10_makes (41, [some (.ref 77), some (.int x1), some (.int x2), some (.int x3)], [.int r13], M13) res
          refine mz_Go.steps (n := 1) (k2 := (if r13 = 0 then 55 else 44, [some (.ref 77), some (.int x1), some (.int x2), some (.int x3)], [], M13)) (P := []) rfl mz_o0 ?_
          refine mz_Go.ite (fun c41 => ?_) (fun c41 => ?_)
          · replace h := h.1 c41
            refine mz_Go.steps (n := 1) (k2 := (57, [some (.ref 77), some (.int x1), some (.int x2), some (.int x3)], [.int (-2)], M13)) (P := []) rfl mz_o0 ?_
            rw [h]
            exact mz_Go.iret (rfl : mz_find 57 (mz_rows mq_X10_makes) = some (57, .ireturn, 1, 0, 0, 0)) rfl
          · replace h := h.2 c41
            refine mz_Go.steps (n := 2) (k2 := (59, [some (.ref 77), some (.int x1), some (.int x2), some (.int x3)], [.ref 77], M13)) (P := []) rfl mz_o0 ?_
            obtain ⟨M15, k15, h⟩ := h
            refine mz_Go.callV (As := []) (rest := []) (rfl : mz_find 59 (mz_rows mq_X10_makes) = some (59, .invokevirtual 226, 3, 172, 0, 209)) (rfl : mz_nth mq_tab 172 = some mq_X10_someIsBase) rfl rfl rfl rfl (Nat.le_of_ble_eq_true rfl) (Nat.le_of_ble_eq_true rfl) k15 ?_
            show mq_G mq_X10_makes (62, [some (.ref 77), some (.int x1), some (.int x2), some (.int x3)], [], M15) res
            refine mz_Go.steps (n := 2) (k2 := (64, [some (.ref 77), some (.int x1), some (.int x2), some (.int x3)], [.int x1, .ref 77], M15)) (P := []) rfl mz_o0 ?_
            obtain ⟨r16, M16, k16, h⟩ := h
            refine mz_Go.callV (As := [.int x1]) (rest := []) (rfl : mz_find 64 (mz_rows mq_X10_makes) = some (64, .invokevirtual 247, 3, 174, 0, 216)) (rfl : mz_nth mq_tab 174 = some mq_X10_holds) rfl rfl rfl rfl (Nat.le_of_ble_eq_true rfl) (Nat.le_of_ble_eq_true rfl) k16 ?_
            show mq_G mq_X10_makes (67, [some (.ref 77), some (.int x1), some (.int x2), some (.int x3)], [.int r16], M16) res
            rw [h]
            exact mz_Go.iret (rfl : mz_find 67 (mz_rows mq_X10_makes) = some (67, .ireturn, 1, 0, 0, 0)) rfl
      · replace h := h.2 c27
        refine mz_Go.steps (n := 1) (k2 := (31, [some (.ref 77), some (.int x1), some (.int x2), some (.int x3)], [.int (-1)], M1)) (P := []) rfl mz_o0 ?_
        rw [h]
        exact mz_Go.iret (rfl : mz_find 31 (mz_rows mq_X10_makes) = some (31, .ireturn, 1, 0, 0, 0)) rfl
set_option maxRecDepth 100000 in
set_option maxHeartbeats 4000000 in
theorem t_X10_copies_0 (x1 : Int32) (x2 : Int32) (M : mz_M) {res : mz_O} (h :
    (∀ M1 : mz_M, M1 = mz_wr M 77 (upd (M.1 77) 10 0) →
    (∃ (r2 : Int32), (mq_C mq_X10_isSlot [.int x1] M1 (some (.int r2), M1)) ∧
    ((r2 = 0 →
      res = (some (.int (-1)), M1)) ∧
    (¬ (r2 = 0) →
      (∃ (r4 : Int32), (mq_C mq_X10_isSlot [.int x2] M1 (some (.int r4), M1)) ∧
      ((¬ r4 = 0 →
        mq_G mq_X10_copies (26, [some (.ref 77), some (.int x1), some (.int x2), some (.int 0), some (.int 0)], [], M1) res) ∧
      (¬ (¬ r4 = 0) →
        res = (some (.int (-1)), M1))))))))) :
    mq_G mq_X10_copies (0, [some (.ref 77), some (.int x1), some (.int x2), none, none], [], M) res := by
  obtain ⟨M1, e1⟩ : ∃ y, y = mz_wr M 77 (upd (M.1 77) 10 0) := ⟨_, rfl⟩
  replace h := h M1 e1
  refine mz_Go.steps (n := 3) (k2 := (5, [some (.ref 77), some (.int x1), some (.int x2), none, none], [], (mz_wr M 77 (upd (M.1 77) 10 0)))) (P := []) rfl mz_o0 ?_
  rw [← e1]
  refine mz_Go.steps (n := 1) (k2 := (6, [some (.ref 77), some (.int x1), some (.int x2), none, none], [.int x1], M1)) (P := []) rfl mz_o0 ?_
  obtain ⟨r2, k2, h⟩ := h
  refine mz_Go.callS (As := [.int x1]) (rest := []) (rfl : mz_find 6 (mz_rows mq_X10_copies) = some (6, .invokestatic 244, 3, 158, 0, 215)) (rfl : mz_nth mq_tab 158 = some mq_X10_isSlot) (by decide) rfl rfl rfl (Nat.le_of_ble_eq_true rfl) (Nat.le_of_ble_eq_true rfl) k2 ?_
  show mq_G mq_X10_copies (9, [some (.ref 77), some (.int x1), some (.int x2), none, none], [.int r2], M1) res
  refine mz_Go.steps (n := 1) (k2 := (if r2 = 0 then 19 else 12, [some (.ref 77), some (.int x1), some (.int x2), none, none], [], M1)) (P := []) rfl mz_o0 ?_
  refine mz_Go.ite (fun c9 => ?_) (fun c9 => ?_)
  · replace h := h.1 c9
    refine mz_Go.steps (n := 1) (k2 := (20, [some (.ref 77), some (.int x1), some (.int x2), none, none], [.int (-1)], M1)) (P := []) rfl mz_o0 ?_
    rw [h]
    exact mz_Go.iret (rfl : mz_find 20 (mz_rows mq_X10_copies) = some (20, .ireturn, 1, 0, 0, 0)) rfl
  · replace h := h.2 c9
    refine mz_Go.steps (n := 1) (k2 := (13, [some (.ref 77), some (.int x1), some (.int x2), none, none], [.int x2], M1)) (P := []) rfl mz_o0 ?_
    obtain ⟨r4, k4, h⟩ := h
    refine mz_Go.callS (As := [.int x2]) (rest := []) (rfl : mz_find 13 (mz_rows mq_X10_copies) = some (13, .invokestatic 244, 3, 158, 0, 215)) (rfl : mz_nth mq_tab 158 = some mq_X10_isSlot) (by decide) rfl rfl rfl (Nat.le_of_ble_eq_true rfl) (Nat.le_of_ble_eq_true rfl) k4 ?_
    show mq_G mq_X10_copies (16, [some (.ref 77), some (.int x1), some (.int x2), none, none], [.int r4], M1) res
    refine mz_Go.steps (n := 1) (k2 := (if ¬ r4 = 0 then 21 else 19, [some (.ref 77), some (.int x1), some (.int x2), none, none], [], M1)) (P := []) rfl mz_o0 ?_
    refine mz_Go.ite (fun c16 => ?_) (fun c16 => ?_)
    · replace h := h.1 c16
      refine mz_Go.steps (n := 4) (k2 := (26, [some (.ref 77), some (.int x1), some (.int x2), some (.int 0), some (.int 0)], [], M1)) (P := []) rfl mz_o0 ?_
      exact h
    · replace h := h.2 c16
      refine mz_Go.steps (n := 1) (k2 := (20, [some (.ref 77), some (.int x1), some (.int x2), none, none], [.int (-1)], M1)) (P := []) rfl mz_o0 ?_
      rw [h]
      exact mz_Go.iret (rfl : mz_find 20 (mz_rows mq_X10_copies) = some (20, .ireturn, 1, 0, 0, 0)) rfl
set_option maxRecDepth 100000 in
set_option maxHeartbeats 4000000 in
theorem t_X10_copies_26 (x1 : Int32) (x2 : Int32) (x3 : Int32) (x4 : Int32) (M : mz_M) {res : mz_O} (h :
    (((M.1 77 11) ≤ x4 →
      (∃ (M2 : mz_M), (mq_C mq_X10_looksAt [.ref 77, .int x1] M (none, M2)) ∧
      (∃ (r3 : Int32) (M3 : mz_M), (mq_C mq_X10_holds [.ref 77, .int x2] M2 (some (.int r3), M3)) ∧
      ((x3 = 0 →
        res = (some (.int 0), M3)) ∧
      (¬ (x3 = 0) →
        ((r3 < 0 →
          res = (some (.int 0), M3)) ∧
        (¬ (r3 < 0) →
          res = (some (.int 1), M3)))))))) ∧
    (¬ ((M.1 77 11) ≤ x4) →
      ((¬ x3 = 0 →
        mq_G mq_X10_copies (26, [some (.ref 77), some (.int x1), some (.int x2), some (.int 1), some (.int (x4 + 1))], [], M) res) ∧
      (¬ (¬ x3 = 0) →
        (∃ (r7 : Int32), (mq_C mq_X10_baseAt [.ref 77, .int x1, .int x4] M (some (.int r7), M)) ∧
        (∃ (r8 : Int32), (mq_C mq_X10_baseAt [.ref 77, .int x2, .int x4] M (some (.int r8), M)) ∧
        ((r7 = r8 →
          mq_G mq_X10_copies (26, [some (.ref 77), some (.int x1), some (.int x2), some (.int 0), some (.int (x4 + 1))], [], M) res) ∧
        (¬ (r7 = r8) →
          mq_G mq_X10_copies (26, [some (.ref 77), some (.int x1), some (.int x2), some (.int 1), some (.int (x4 + 1))], [], M) res))))))))) :
    mq_G mq_X10_copies (26, [some (.ref 77), some (.int x1), some (.int x2), some (.int x3), some (.int x4)], [], M) res := by
  refine mz_Go.steps (n := 4) (k2 := (if (M.1 77 11) ≤ x4 then 68 else 35, [some (.ref 77), some (.int x1), some (.int x2), some (.int x3), some (.int x4)], [], M)) (P := []) rfl mz_o0 ?_
  refine mz_Go.ite (fun c32 => ?_) (fun c32 => ?_)
  · replace h := h.1 c32
    refine mz_Go.steps (n := 2) (k2 := (70, [some (.ref 77), some (.int x1), some (.int x2), some (.int x3), some (.int x4)], [.int x1, .ref 77], M)) (P := []) rfl mz_o0 ?_
    obtain ⟨M2, k2, h⟩ := h
    refine mz_Go.callV (As := [.int x1]) (rest := []) (rfl : mz_find 70 (mz_rows mq_X10_copies) = some (70, .invokevirtual 250, 3, 168, 0, 217)) (rfl : mz_nth mq_tab 168 = some mq_X10_looksAt) rfl rfl rfl rfl (Nat.le_of_ble_eq_true rfl) (Nat.le_of_ble_eq_true rfl) k2 ?_
    show mq_G mq_X10_copies (73, [some (.ref 77), some (.int x1), some (.int x2), some (.int x3), some (.int x4)], [], M2) res
    refine mz_Go.steps (n := 2) (k2 := (75, [some (.ref 77), some (.int x1), some (.int x2), some (.int x3), some (.int x4)], [.int x2, .ref 77], M2)) (P := []) rfl mz_o0 ?_
    obtain ⟨r3, M3, k3, h⟩ := h
    refine mz_Go.callV (As := [.int x2]) (rest := []) (rfl : mz_find 75 (mz_rows mq_X10_copies) = some (75, .invokevirtual 247, 3, 174, 0, 216)) (rfl : mz_nth mq_tab 174 = some mq_X10_holds) rfl rfl rfl rfl (Nat.le_of_ble_eq_true rfl) (Nat.le_of_ble_eq_true rfl) k3 ?_
    show mq_G mq_X10_copies (78, [some (.ref 77), some (.int x1), some (.int x2), some (.int x3), some (.int x4)], [.int r3], M3) res
    refine mz_Go.steps (n := 3) (k2 := (if x3 = 0 then 93 else 84, [some (.ref 77), some (.int x1), some (.int x2), some (.int x3), some (.int r3)], [], M3)) (P := []) rfl mz_o0 ?_
    refine mz_Go.ite (fun c81 => ?_) (fun c81 => ?_)
    · replace h := h.1 c81
      refine mz_Go.steps (n := 1) (k2 := (94, [some (.ref 77), some (.int x1), some (.int x2), some (.int x3), some (.int r3)], [.int 0], M3)) (P := []) rfl mz_o0 ?_
      rw [h]
      exact mz_Go.iret (rfl : mz_find 94 (mz_rows mq_X10_copies) = some (94, .ireturn, 1, 0, 0, 0)) rfl
    · replace h := h.2 c81
      refine mz_Go.steps (n := 2) (k2 := (if r3 < 0 then 93 else 89, [some (.ref 77), some (.int x1), some (.int x2), some (.int x3), some (.int r3)], [], M3)) (P := []) rfl mz_o0 ?_
      refine mz_Go.ite (fun c86 => ?_) (fun c86 => ?_)
      · replace h := h.1 c86
        refine mz_Go.steps (n := 1) (k2 := (94, [some (.ref 77), some (.int x1), some (.int x2), some (.int x3), some (.int r3)], [.int 0], M3)) (P := []) rfl mz_o0 ?_
        rw [h]
        exact mz_Go.iret (rfl : mz_find 94 (mz_rows mq_X10_copies) = some (94, .ireturn, 1, 0, 0, 0)) rfl
      · replace h := h.2 c86
        refine mz_Go.steps (n := 2) (k2 := (94, [some (.ref 77), some (.int x1), some (.int x2), some (.int x3), some (.int r3)], [.int 1], M3)) (P := []) rfl mz_o0 ?_
        rw [h]
        exact mz_Go.iret (rfl : mz_find 94 (mz_rows mq_X10_copies) = some (94, .ireturn, 1, 0, 0, 0)) rfl
  · replace h := h.2 c32
    refine mz_Go.steps (n := 2) (k2 := (if ¬ x3 = 0 then 56 else 39, [some (.ref 77), some (.int x1), some (.int x2), some (.int x3), some (.int x4)], [], M)) (P := []) rfl mz_o0 ?_
    refine mz_Go.ite (fun c36 => ?_) (fun c36 => ?_)
    · replace h := h.1 c36
      refine mz_Go.steps (n := 5) (k2 := (26, [some (.ref 77), some (.int x1), some (.int x2), some (.int 1), some (.int (x4 + 1))], [], M)) (P := []) rfl mz_o0 ?_
      exact h
    · replace h := h.2 c36
      refine mz_Go.steps (n := 3) (k2 := (43, [some (.ref 77), some (.int x1), some (.int x2), some (.int x3), some (.int x4)], [.int x4, .int x1, .ref 77], M)) (P := []) rfl mz_o0 ?_
      obtain ⟨r7, k7, h⟩ := h
      refine mz_Go.callV (As := [.int x1, .int x4]) (rest := []) (rfl : mz_find 43 (mz_rows mq_X10_copies) = some (43, .invokevirtual 123, 3, 167, 0, 171)) (rfl : mz_nth mq_tab 167 = some mq_X10_baseAt) rfl rfl rfl rfl (Nat.le_of_ble_eq_true rfl) (Nat.le_of_ble_eq_true rfl) k7 ?_
      show mq_G mq_X10_copies (46, [some (.ref 77), some (.int x1), some (.int x2), some (.int x3), some (.int x4)], [.int r7], M) res
      refine mz_Go.steps (n := 3) (k2 := (50, [some (.ref 77), some (.int x1), some (.int x2), some (.int x3), some (.int x4)], [.int x4, .int x2, .ref 77, .int r7], M)) (P := []) rfl mz_o0 ?_
      obtain ⟨r8, k8, h⟩ := h
      refine mz_Go.callV (As := [.int x2, .int x4]) (rest := [.int r7]) (rfl : mz_find 50 (mz_rows mq_X10_copies) = some (50, .invokevirtual 123, 3, 167, 0, 171)) (rfl : mz_nth mq_tab 167 = some mq_X10_baseAt) rfl rfl rfl rfl (Nat.le_of_ble_eq_true rfl) (Nat.le_of_ble_eq_true rfl) k8 ?_
      show mq_G mq_X10_copies (53, [some (.ref 77), some (.int x1), some (.int x2), some (.int x3), some (.int x4)], [.int r8, .int r7], M) res
      refine mz_Go.steps (n := 1) (k2 := (if r7 = r8 then 60 else 56, [some (.ref 77), some (.int x1), some (.int x2), some (.int x3), some (.int x4)], [], M)) (P := []) rfl mz_o0 ?_
      refine mz_Go.ite (fun c53 => ?_) (fun c53 => ?_)
      · replace h := h.1 c53
        refine mz_Go.steps (n := 4) (k2 := (26, [some (.ref 77), some (.int x1), some (.int x2), some (.int 0), some (.int (x4 + 1))], [], M)) (P := []) rfl mz_o0 ?_
        exact h
      · replace h := h.2 c53
        refine mz_Go.steps (n := 5) (k2 := (26, [some (.ref 77), some (.int x1), some (.int x2), some (.int 1), some (.int (x4 + 1))], [], M)) (P := []) rfl mz_o0 ?_
        exact h
set_option maxRecDepth 100000 in
set_option maxHeartbeats 4000000 in
theorem t_X10_scales_0 (x1 : Int32) (x2 : Int32) (M : mz_M) {res : mz_O} (h :
    (∀ M1 : mz_M, M1 = mz_wr M 77 (upd (M.1 77) 10 0) →
    (∃ (r2 : Int32), (mq_C mq_X10_isSlot [.int x1] M1 (some (.int r2), M1)) ∧
    ((r2 = 0 →
      res = (some (.int (-1)), M1)) ∧
    (¬ (r2 = 0) →
      (∃ (r4 : Int32), (mq_C mq_X10_isElement [.ref 77, .int x2] M1 (some (.int r4), M1)) ∧
      ((¬ r4 = 0 →
        ((¬ x2 = 0 →
          mq_G mq_X10_scales (31, [some (.ref 77), some (.int x1), some (.int x2), some (.int 0)], [], M1) res) ∧
        (¬ (¬ x2 = 0) →
          res = (some (.int (-2)), M1)))) ∧
      (¬ (¬ r4 = 0) →
        res = (some (.int (-1)), M1))))))))) :
    mq_G mq_X10_scales (0, [some (.ref 77), some (.int x1), some (.int x2), none], [], M) res := by
  obtain ⟨M1, e1⟩ : ∃ y, y = mz_wr M 77 (upd (M.1 77) 10 0) := ⟨_, rfl⟩
  replace h := h M1 e1
  refine mz_Go.steps (n := 3) (k2 := (5, [some (.ref 77), some (.int x1), some (.int x2), none], [], (mz_wr M 77 (upd (M.1 77) 10 0)))) (P := []) rfl mz_o0 ?_
  rw [← e1]
  refine mz_Go.steps (n := 1) (k2 := (6, [some (.ref 77), some (.int x1), some (.int x2), none], [.int x1], M1)) (P := []) rfl mz_o0 ?_
  obtain ⟨r2, k2, h⟩ := h
  refine mz_Go.callS (As := [.int x1]) (rest := []) (rfl : mz_find 6 (mz_rows mq_X10_scales) = some (6, .invokestatic 244, 3, 158, 0, 215)) (rfl : mz_nth mq_tab 158 = some mq_X10_isSlot) (by decide) rfl rfl rfl (Nat.le_of_ble_eq_true rfl) (Nat.le_of_ble_eq_true rfl) k2 ?_
  show mq_G mq_X10_scales (9, [some (.ref 77), some (.int x1), some (.int x2), none], [.int r2], M1) res
  refine mz_Go.steps (n := 1) (k2 := (if r2 = 0 then 20 else 12, [some (.ref 77), some (.int x1), some (.int x2), none], [], M1)) (P := []) rfl mz_o0 ?_
  refine mz_Go.ite (fun c9 => ?_) (fun c9 => ?_)
  · replace h := h.1 c9
    refine mz_Go.steps (n := 1) (k2 := (21, [some (.ref 77), some (.int x1), some (.int x2), none], [.int (-1)], M1)) (P := []) rfl mz_o0 ?_
    rw [h]
    exact mz_Go.iret (rfl : mz_find 21 (mz_rows mq_X10_scales) = some (21, .ireturn, 1, 0, 0, 0)) rfl
  · replace h := h.2 c9
    refine mz_Go.steps (n := 2) (k2 := (14, [some (.ref 77), some (.int x1), some (.int x2), none], [.int x2, .ref 77], M1)) (P := []) rfl mz_o0 ?_
    obtain ⟨r4, k4, h⟩ := h
    refine mz_Go.callV (As := [.int x2]) (rest := []) (rfl : mz_find 14 (mz_rows mq_X10_scales) = some (14, .invokevirtual 183, 3, 156, 0, 194)) (rfl : mz_nth mq_tab 156 = some mq_X10_isElement) rfl rfl rfl rfl (Nat.le_of_ble_eq_true rfl) (Nat.le_of_ble_eq_true rfl) k4 ?_
    show mq_G mq_X10_scales (17, [some (.ref 77), some (.int x1), some (.int x2), none], [.int r4], M1) res
    refine mz_Go.steps (n := 1) (k2 := (if ¬ r4 = 0 then 22 else 20, [some (.ref 77), some (.int x1), some (.int x2), none], [], M1)) (P := []) rfl mz_o0 ?_
    refine mz_Go.ite (fun c17 => ?_) (fun c17 => ?_)
    · replace h := h.1 c17
      refine mz_Go.steps (n := 2) (k2 := (if ¬ x2 = 0 then 29 else 26, [some (.ref 77), some (.int x1), some (.int x2), none], [], M1)) (P := []) rfl mz_o0 ?_
      refine mz_Go.ite (fun c23 => ?_) (fun c23 => ?_)
      · replace h := h.1 c23
        refine mz_Go.steps (n := 2) (k2 := (31, [some (.ref 77), some (.int x1), some (.int x2), some (.int 0)], [], M1)) (P := []) rfl mz_o0 ?_
        exact h
      · replace h := h.2 c23
        refine mz_Go.steps (n := 1) (k2 := (28, [some (.ref 77), some (.int x1), some (.int x2), none], [.int (-2)], M1)) (P := []) rfl mz_o0 ?_
        rw [h]
        exact mz_Go.iret (rfl : mz_find 28 (mz_rows mq_X10_scales) = some (28, .ireturn, 1, 0, 0, 0)) rfl
    · replace h := h.2 c17
      refine mz_Go.steps (n := 1) (k2 := (21, [some (.ref 77), some (.int x1), some (.int x2), none], [.int (-1)], M1)) (P := []) rfl mz_o0 ?_
      rw [h]
      exact mz_Go.iret (rfl : mz_find 21 (mz_rows mq_X10_scales) = some (21, .ireturn, 1, 0, 0, 0)) rfl
set_option maxRecDepth 100000 in
set_option maxHeartbeats 4000000 in
theorem t_X10_scales_31 (x1 : Int32) (x2 : Int32) (x3 : Int32) (M : mz_M) {res : mz_O} (h :
    (((M.1 77 11) ≤ x3 →
      (∃ (M2 : mz_M), (mq_C mq_X10_someIsBase [.ref 77] M (none, M2)) ∧
      (∃ (r3 : Int32) (M3 : mz_M), (mq_C mq_X10_holds [.ref 77, .int x1] M2 (some (.int r3), M3)) ∧
      res = (some (.int r3), M3)))) ∧
    (¬ ((M.1 77 11) ≤ x3) →
      (∃ (r4 : Int32), (mq_C mq_X10_baseAt [.ref 77, .int x1, .int x3] M (some (.int r4), M)) ∧
      (∃ (r5 : Int32), (mq_C mq_X10_times [.ref 77, .int x2, .int r4] M (some (.int r5), M)) ∧
      (vp_in x3 8) ∧
      (∀ M6 : mz_M, M6 = mz_wr M 84 (upd (M.1 84) x3.toNatClampNeg r5) →
      mq_G mq_X10_scales (31, [some (.ref 77), some (.int x1), some (.int x2), some (.int (x3 + 1))], [], M6) res)))))) :
    mq_G mq_X10_scales (31, [some (.ref 77), some (.int x1), some (.int x2), some (.int x3)], [], M) res := by
  refine mz_Go.steps (n := 4) (k2 := (if (M.1 77 11) ≤ x3 then 62 else 39, [some (.ref 77), some (.int x1), some (.int x2), some (.int x3)], [], M)) (P := []) rfl mz_o0 ?_
  refine mz_Go.ite (fun c36 => ?_) (fun c36 => ?_)
  · replace h := h.1 c36
    refine mz_Go.steps (n := 1) (k2 := (63, [some (.ref 77), some (.int x1), some (.int x2), some (.int x3)], [.ref 77], M)) (P := []) rfl mz_o0 ?_
    obtain ⟨M2, k2, h⟩ := h
    refine mz_Go.callV (As := []) (rest := []) (rfl : mz_find 63 (mz_rows mq_X10_scales) = some (63, .invokevirtual 226, 3, 172, 0, 209)) (rfl : mz_nth mq_tab 172 = some mq_X10_someIsBase) rfl rfl rfl rfl (Nat.le_of_ble_eq_true rfl) (Nat.le_of_ble_eq_true rfl) k2 ?_
    show mq_G mq_X10_scales (66, [some (.ref 77), some (.int x1), some (.int x2), some (.int x3)], [], M2) res
    refine mz_Go.steps (n := 2) (k2 := (68, [some (.ref 77), some (.int x1), some (.int x2), some (.int x3)], [.int x1, .ref 77], M2)) (P := []) rfl mz_o0 ?_
    obtain ⟨r3, M3, k3, h⟩ := h
    refine mz_Go.callV (As := [.int x1]) (rest := []) (rfl : mz_find 68 (mz_rows mq_X10_scales) = some (68, .invokevirtual 247, 3, 174, 0, 216)) (rfl : mz_nth mq_tab 174 = some mq_X10_holds) rfl rfl rfl rfl (Nat.le_of_ble_eq_true rfl) (Nat.le_of_ble_eq_true rfl) k3 ?_
    show mq_G mq_X10_scales (71, [some (.ref 77), some (.int x1), some (.int x2), some (.int x3)], [.int r3], M3) res
    rw [h]
    exact mz_Go.iret (rfl : mz_find 71 (mz_rows mq_X10_scales) = some (71, .ireturn, 1, 0, 0, 0)) rfl
  · replace h := h.2 c36
    refine mz_Go.steps (n := 8) (k2 := (49, [some (.ref 77), some (.int x1), some (.int x2), some (.int x3)], [.int x3, .int x1, .ref 77, .int x2, .ref 77, .int x3, .ref 84], M)) (P := []) rfl mz_o0 ?_
    obtain ⟨r4, k4, h⟩ := h
    refine mz_Go.callV (As := [.int x1, .int x3]) (rest := [.int x2, .ref 77, .int x3, .ref 84]) (rfl : mz_find 49 (mz_rows mq_X10_scales) = some (49, .invokevirtual 123, 3, 167, 0, 171)) (rfl : mz_nth mq_tab 167 = some mq_X10_baseAt) rfl rfl rfl rfl (Nat.le_of_ble_eq_true rfl) (Nat.le_of_ble_eq_true rfl) k4 ?_
    show mq_G mq_X10_scales (52, [some (.ref 77), some (.int x1), some (.int x2), some (.int x3)], [.int r4, .int x2, .ref 77, .int x3, .ref 84], M) res
    obtain ⟨r5, k5, h⟩ := h
    refine mz_Go.callV (As := [.int x2, .int r4]) (rest := [.int x3, .ref 84]) (rfl : mz_find 52 (mz_rows mq_X10_scales) = some (52, .invokevirtual 92, 3, 147, 0, 156)) (rfl : mz_nth mq_tab 147 = some mq_X10_times) rfl rfl rfl rfl (Nat.le_of_ble_eq_true rfl) (Nat.le_of_ble_eq_true rfl) k5 ?_
    show mq_G mq_X10_scales (55, [some (.ref 77), some (.int x1), some (.int x2), some (.int x3)], [.int r5, .int x3, .ref 84], M) res
    obtain ⟨q7, h⟩ := h
    obtain ⟨M6, e6⟩ : ∃ y, y = mz_wr M 84 (upd (M.1 84) x3.toNatClampNeg r5) := ⟨_, rfl⟩
    replace h := h M6 e6
    refine mz_Go.steps (n := 1) (k2 := (56, [some (.ref 77), some (.int x1), some (.int x2), some (.int x3)], [], (mz_wr M 84 (upd (M.1 84) x3.toNatClampNeg r5)))) (P := [vp_in x3 8]) rfl (mz_o1 q7) ?_
    rw [← e6]
    refine mz_Go.steps (n := 2) (k2 := (31, [some (.ref 77), some (.int x1), some (.int x2), some (.int (x3 + 1))], [], M6)) (P := []) rfl mz_o0 ?_
    exact h
set_option maxRecDepth 100000 in
set_option maxHeartbeats 4000000 in
theorem t_X10_takesBase_0 (x1 : Int32) (M : mz_M) {res : mz_O} (h :
    mq_G mq_X10_takesBase (2, [some (.ref 77), some (.int x1), some (.int 0)], [], M) res) :
    mq_G mq_X10_takesBase (0, [some (.ref 77), some (.int x1), none], [], M) res := by
  refine mz_Go.steps (n := 2) (k2 := (2, [some (.ref 77), some (.int x1), some (.int 0)], [], M)) (P := []) rfl mz_o0 ?_
  exact h
set_option maxRecDepth 100000 in
set_option maxHeartbeats 4000000 in
theorem t_X10_takesBase_2 (x1 : Int32) (x2 : Int32) (M : mz_M) {res : mz_O} (h :
    (((M.1 77 11) ≤ x2 →
      res = (none, M)) ∧
    (¬ ((M.1 77 11) ≤ x2) →
      (∃ (r2 : Int32), (mq_C mq_X10_baseAt [.ref 77, .int x1, .int x2] M (some (.int r2), M)) ∧
      (vp_in x2 8) ∧
      (∀ M3 : mz_M, M3 = mz_wr M 84 (upd (M.1 84) x2.toNatClampNeg r2) →
      mq_G mq_X10_takesBase (2, [some (.ref 77), some (.int x1), some (.int (x2 + 1))], [], M3) res))))) :
    mq_G mq_X10_takesBase (2, [some (.ref 77), some (.int x1), some (.int x2)], [], M) res := by
  refine mz_Go.steps (n := 4) (k2 := (if (M.1 77 11) ≤ x2 then 28 else 10, [some (.ref 77), some (.int x1), some (.int x2)], [], M)) (P := []) rfl mz_o0 ?_
  refine mz_Go.ite (fun c7 => ?_) (fun c7 => ?_)
  · replace h := h.1 c7
    rw [h]
    exact mz_Go.vret (rfl : mz_find 28 (mz_rows mq_X10_takesBase) = some (28, .return_, 1, 0, 0, 0)) rfl
  · replace h := h.2 c7
    refine mz_Go.steps (n := 6) (k2 := (18, [some (.ref 77), some (.int x1), some (.int x2)], [.int x2, .int x1, .ref 77, .int x2, .ref 84], M)) (P := []) rfl mz_o0 ?_
    obtain ⟨r2, k2, h⟩ := h
    refine mz_Go.callV (As := [.int x1, .int x2]) (rest := [.int x2, .ref 84]) (rfl : mz_find 18 (mz_rows mq_X10_takesBase) = some (18, .invokevirtual 123, 3, 167, 0, 171)) (rfl : mz_nth mq_tab 167 = some mq_X10_baseAt) rfl rfl rfl rfl (Nat.le_of_ble_eq_true rfl) (Nat.le_of_ble_eq_true rfl) k2 ?_
    show mq_G mq_X10_takesBase (21, [some (.ref 77), some (.int x1), some (.int x2)], [.int r2, .int x2, .ref 84], M) res
    obtain ⟨q4, h⟩ := h
    obtain ⟨M3, e3⟩ : ∃ y, y = mz_wr M 84 (upd (M.1 84) x2.toNatClampNeg r2) := ⟨_, rfl⟩
    replace h := h M3 e3
    refine mz_Go.steps (n := 1) (k2 := (22, [some (.ref 77), some (.int x1), some (.int x2)], [], (mz_wr M 84 (upd (M.1 84) x2.toNatClampNeg r2)))) (P := [vp_in x2 8]) rfl (mz_o1 q4) ?_
    rw [← e3]
    refine mz_Go.steps (n := 2) (k2 := (2, [some (.ref 77), some (.int x1), some (.int (x2 + 1))], [], M3)) (P := []) rfl mz_o0 ?_
    exact h
set_option maxRecDepth 100000 in
set_option maxHeartbeats 4000000 in
theorem t_X10_moves_0 (x1 : Int32) (x2 : Int32) (x3 : Int32) (M : mz_M) {res : mz_O} (h :
    (∀ M1 : mz_M, M1 = mz_wr M 77 (upd (M.1 77) 10 0) →
    (∃ (r2 : Int32), (mq_C mq_X10_isSlot [.int x1] M1 (some (.int r2), M1)) ∧
    ((r2 = 0 →
      res = (some (.int (-1)), M1)) ∧
    (¬ (r2 = 0) →
      (∃ (r4 : Int32), (mq_C mq_X10_isPlace [.ref 77, .int x2] M1 (some (.int r4), M1)) ∧
      ((r4 = 0 →
        res = (some (.int (-1)), M1)) ∧
      (¬ (r4 = 0) →
        (∃ (r6 : Int32), (mq_C mq_X10_isPlace [.ref 77, .int x3] M1 (some (.int r6), M1)) ∧
        ((¬ r6 = 0 →
          ((¬ x2 = x3 →
            (∃ (M9 : mz_M), (mq_C mq_X10_takesBase [.ref 77, .int x1] M1 (none, M9)) ∧
            (∃ (r10 : Int32), (mq_C mq_X10_baseAt [.ref 77, .int x1, .int x3] M9 (some (.int r10), M9)) ∧
            (vp_in x2 8) ∧
            (∀ M11 : mz_M, M11 = mz_wr M9 84 (upd (M9.1 84) x2.toNatClampNeg r10) →
            (∃ (r13 : Int32), (mq_C mq_X10_baseAt [.ref 77, .int x1, .int x2] M11 (some (.int r13), M11)) ∧
            (vp_in x3 8) ∧
            (∀ M14 : mz_M, M14 = mz_wr M11 84 (upd (M11.1 84) x3.toNatClampNeg r13) →
            (∃ (M16 : mz_M), (mq_C mq_X10_someIsBase [.ref 77] M14 (none, M16)) ∧
            (∃ (r17 : Int32) (M17 : mz_M), (mq_C mq_X10_holds [.ref 77, .int x1] M16 (some (.int r17), M17)) ∧
            res = (some (.int r17), M17))))))))) ∧
          (¬ (¬ x2 = x3) →
            res = (some (.int (-2)), M1)))) ∧
        (¬ (¬ r6 = 0) →
          res = (some (.int (-1)), M1)))))))))))) :
    mq_G mq_X10_moves (0, [some (.ref 77), some (.int x1), some (.int x2), some (.int x3)], [], M) res := by
  obtain ⟨M1, e1⟩ : ∃ y, y = mz_wr M 77 (upd (M.1 77) 10 0) := ⟨_, rfl⟩
  replace h := h M1 e1
  refine mz_Go.steps (n := 3) (k2 := (5, [some (.ref 77), some (.int x1), some (.int x2), some (.int x3)], [], (mz_wr M 77 (upd (M.1 77) 10 0)))) (P := []) rfl mz_o0 ?_
  rw [← e1]
  refine mz_Go.steps (n := 1) (k2 := (6, [some (.ref 77), some (.int x1), some (.int x2), some (.int x3)], [.int x1], M1)) (P := []) rfl mz_o0 ?_
  obtain ⟨r2, k2, h⟩ := h
  refine mz_Go.callS (As := [.int x1]) (rest := []) (rfl : mz_find 6 (mz_rows mq_X10_moves) = some (6, .invokestatic 244, 3, 158, 0, 215)) (rfl : mz_nth mq_tab 158 = some mq_X10_isSlot) (by decide) rfl rfl rfl (Nat.le_of_ble_eq_true rfl) (Nat.le_of_ble_eq_true rfl) k2 ?_
  show mq_G mq_X10_moves (9, [some (.ref 77), some (.int x1), some (.int x2), some (.int x3)], [.int r2], M1) res
  refine mz_Go.steps (n := 1) (k2 := (if r2 = 0 then 28 else 12, [some (.ref 77), some (.int x1), some (.int x2), some (.int x3)], [], M1)) (P := []) rfl mz_o0 ?_
  refine mz_Go.ite (fun c9 => ?_) (fun c9 => ?_)
  · replace h := h.1 c9
    refine mz_Go.steps (n := 1) (k2 := (29, [some (.ref 77), some (.int x1), some (.int x2), some (.int x3)], [.int (-1)], M1)) (P := []) rfl mz_o0 ?_
    rw [h]
    exact mz_Go.iret (rfl : mz_find 29 (mz_rows mq_X10_moves) = some (29, .ireturn, 1, 0, 0, 0)) rfl
  · replace h := h.2 c9
    refine mz_Go.steps (n := 2) (k2 := (14, [some (.ref 77), some (.int x1), some (.int x2), some (.int x3)], [.int x2, .ref 77], M1)) (P := []) rfl mz_o0 ?_
    obtain ⟨r4, k4, h⟩ := h
    refine mz_Go.callV (As := [.int x2]) (rest := []) (rfl : mz_find 14 (mz_rows mq_X10_moves) = some (14, .invokevirtual 253, 3, 159, 0, 218)) (rfl : mz_nth mq_tab 159 = some mq_X10_isPlace) rfl rfl rfl rfl (Nat.le_of_ble_eq_true rfl) (Nat.le_of_ble_eq_true rfl) k4 ?_
    show mq_G mq_X10_moves (17, [some (.ref 77), some (.int x1), some (.int x2), some (.int x3)], [.int r4], M1) res
    refine mz_Go.steps (n := 1) (k2 := (if r4 = 0 then 28 else 20, [some (.ref 77), some (.int x1), some (.int x2), some (.int x3)], [], M1)) (P := []) rfl mz_o0 ?_
    refine mz_Go.ite (fun c17 => ?_) (fun c17 => ?_)
    · replace h := h.1 c17
      refine mz_Go.steps (n := 1) (k2 := (29, [some (.ref 77), some (.int x1), some (.int x2), some (.int x3)], [.int (-1)], M1)) (P := []) rfl mz_o0 ?_
      rw [h]
      exact mz_Go.iret (rfl : mz_find 29 (mz_rows mq_X10_moves) = some (29, .ireturn, 1, 0, 0, 0)) rfl
    · replace h := h.2 c17
      refine mz_Go.steps (n := 2) (k2 := (22, [some (.ref 77), some (.int x1), some (.int x2), some (.int x3)], [.int x3, .ref 77], M1)) (P := []) rfl mz_o0 ?_
      obtain ⟨r6, k6, h⟩ := h
      refine mz_Go.callV (As := [.int x3]) (rest := []) (rfl : mz_find 22 (mz_rows mq_X10_moves) = some (22, .invokevirtual 253, 3, 159, 0, 218)) (rfl : mz_nth mq_tab 159 = some mq_X10_isPlace) rfl rfl rfl rfl (Nat.le_of_ble_eq_true rfl) (Nat.le_of_ble_eq_true rfl) k6 ?_
      show mq_G mq_X10_moves (25, [some (.ref 77), some (.int x1), some (.int x2), some (.int x3)], [.int r6], M1) res
      refine mz_Go.steps (n := 1) (k2 := (if ¬ r6 = 0 then 30 else 28, [some (.ref 77), some (.int x1), some (.int x2), some (.int x3)], [], M1)) (P := []) rfl mz_o0 ?_
      refine mz_Go.ite (fun c25 => ?_) (fun c25 => ?_)
      · replace h := h.1 c25
        refine mz_Go.steps (n := 3) (k2 := (if ¬ x2 = x3 then 38 else 35, [some (.ref 77), some (.int x1), some (.int x2), some (.int x3)], [], M1)) (P := []) rfl mz_o0 ?_
        refine mz_Go.ite (fun c32 => ?_) (fun c32 => ?_)
        · replace h := h.1 c32
          refine mz_Go.steps (n := 2) (k2 := (40, [some (.ref 77), some (.int x1), some (.int x2), some (.int x3)], [.int x1, .ref 77], M1)) (P := []) rfl mz_o0 ?_
          obtain ⟨M9, k9, h⟩ := h
          refine mz_Go.callV (As := [.int x1]) (rest := []) (rfl : mz_find 40 (mz_rows mq_X10_moves) = some (40, .invokevirtual 256, 3, 216, 0, 219)) (rfl : mz_nth mq_tab 216 = some mq_X10_takesBase) rfl rfl rfl rfl (Nat.le_of_ble_eq_true rfl) (Nat.le_of_ble_eq_true rfl) k9 ?_
          show mq_G mq_X10_moves (43, [some (.ref 77), some (.int x1), some (.int x2), some (.int x3)], [], M9) res
          refine mz_Go.steps (n := 6) (k2 := (51, [some (.ref 77), some (.int x1), some (.int x2), some (.int x3)], [.int x3, .int x1, .ref 77, .int x2, .ref 84], M9)) (P := []) rfl mz_o0 ?_
          obtain ⟨r10, k10, h⟩ := h
          refine mz_Go.callV (As := [.int x1, .int x3]) (rest := [.int x2, .ref 84]) (rfl : mz_find 51 (mz_rows mq_X10_moves) = some (51, .invokevirtual 123, 3, 167, 0, 171)) (rfl : mz_nth mq_tab 167 = some mq_X10_baseAt) rfl rfl rfl rfl (Nat.le_of_ble_eq_true rfl) (Nat.le_of_ble_eq_true rfl) k10 ?_
          show mq_G mq_X10_moves (54, [some (.ref 77), some (.int x1), some (.int x2), some (.int x3)], [.int r10, .int x2, .ref 84], M9) res
          obtain ⟨q12, h⟩ := h
          obtain ⟨M11, e11⟩ : ∃ y, y = mz_wr M9 84 (upd (M9.1 84) x2.toNatClampNeg r10) := ⟨_, rfl⟩
          replace h := h M11 e11
          refine mz_Go.steps (n := 1) (k2 := (55, [some (.ref 77), some (.int x1), some (.int x2), some (.int x3)], [], (mz_wr M9 84 (upd (M9.1 84) x2.toNatClampNeg r10)))) (P := [vp_in x2 8]) rfl (mz_o1 q12) ?_
          rw [← e11]
          refine mz_Go.steps (n := 6) (k2 := (63, [some (.ref 77), some (.int x1), some (.int x2), some (.int x3)], [.int x2, .int x1, .ref 77, .int x3, .ref 84], M11)) (P := []) rfl mz_o0 ?_
          obtain ⟨r13, k13, h⟩ := h
          refine mz_Go.callV (As := [.int x1, .int x2]) (rest := [.int x3, .ref 84]) (rfl : mz_find 63 (mz_rows mq_X10_moves) = some (63, .invokevirtual 123, 3, 167, 0, 171)) (rfl : mz_nth mq_tab 167 = some mq_X10_baseAt) rfl rfl rfl rfl (Nat.le_of_ble_eq_true rfl) (Nat.le_of_ble_eq_true rfl) k13 ?_
          show mq_G mq_X10_moves (66, [some (.ref 77), some (.int x1), some (.int x2), some (.int x3)], [.int r13, .int x3, .ref 84], M11) res
          obtain ⟨q15, h⟩ := h
          obtain ⟨M14, e14⟩ : ∃ y, y = mz_wr M11 84 (upd (M11.1 84) x3.toNatClampNeg r13) := ⟨_, rfl⟩
          replace h := h M14 e14
          refine mz_Go.steps (n := 1) (k2 := (67, [some (.ref 77), some (.int x1), some (.int x2), some (.int x3)], [], (mz_wr M11 84 (upd (M11.1 84) x3.toNatClampNeg r13)))) (P := [vp_in x3 8]) rfl (mz_o1 q15) ?_
          rw [← e14]
          refine mz_Go.steps (n := 1) (k2 := (68, [some (.ref 77), some (.int x1), some (.int x2), some (.int x3)], [.ref 77], M14)) (P := []) rfl mz_o0 ?_
          obtain ⟨M16, k16, h⟩ := h
          refine mz_Go.callV (As := []) (rest := []) (rfl : mz_find 68 (mz_rows mq_X10_moves) = some (68, .invokevirtual 226, 3, 172, 0, 209)) (rfl : mz_nth mq_tab 172 = some mq_X10_someIsBase) rfl rfl rfl rfl (Nat.le_of_ble_eq_true rfl) (Nat.le_of_ble_eq_true rfl) k16 ?_
          show mq_G mq_X10_moves (71, [some (.ref 77), some (.int x1), some (.int x2), some (.int x3)], [], M16) res
          refine mz_Go.steps (n := 2) (k2 := (73, [some (.ref 77), some (.int x1), some (.int x2), some (.int x3)], [.int x1, .ref 77], M16)) (P := []) rfl mz_o0 ?_
          obtain ⟨r17, M17, k17, h⟩ := h
          refine mz_Go.callV (As := [.int x1]) (rest := []) (rfl : mz_find 73 (mz_rows mq_X10_moves) = some (73, .invokevirtual 247, 3, 174, 0, 216)) (rfl : mz_nth mq_tab 174 = some mq_X10_holds) rfl rfl rfl rfl (Nat.le_of_ble_eq_true rfl) (Nat.le_of_ble_eq_true rfl) k17 ?_
          show mq_G mq_X10_moves (76, [some (.ref 77), some (.int x1), some (.int x2), some (.int x3)], [.int r17], M17) res
          rw [h]
          exact mz_Go.iret (rfl : mz_find 76 (mz_rows mq_X10_moves) = some (76, .ireturn, 1, 0, 0, 0)) rfl
        · replace h := h.2 c32
          refine mz_Go.steps (n := 1) (k2 := (37, [some (.ref 77), some (.int x1), some (.int x2), some (.int x3)], [.int (-2)], M1)) (P := []) rfl mz_o0 ?_
          rw [h]
          exact mz_Go.iret (rfl : mz_find 37 (mz_rows mq_X10_moves) = some (37, .ireturn, 1, 0, 0, 0)) rfl
      · replace h := h.2 c25
        refine mz_Go.steps (n := 1) (k2 := (29, [some (.ref 77), some (.int x1), some (.int x2), some (.int x3)], [.int (-1)], M1)) (P := []) rfl mz_o0 ?_
        rw [h]
        exact mz_Go.iret (rfl : mz_find 29 (mz_rows mq_X10_moves) = some (29, .ireturn, 1, 0, 0, 0)) rfl
set_option maxRecDepth 100000 in
set_option maxHeartbeats 4000000 in
theorem t_X10_adds_0 (x1 : Int32) (x2 : Int32) (x3 : Int32) (M : mz_M) {res : mz_O} (h :
    (∀ M1 : mz_M, M1 = mz_wr M 77 (upd (M.1 77) 10 0) →
    (∃ (r2 : Int32), (mq_C mq_X10_isSlot [.int x1] M1 (some (.int r2), M1)) ∧
    ((r2 = 0 →
      res = (some (.int (-1)), M1)) ∧
    (¬ (r2 = 0) →
      (∃ (r4 : Int32), (mq_C mq_X10_isPlace [.ref 77, .int x2] M1 (some (.int r4), M1)) ∧
      ((r4 = 0 →
        res = (some (.int (-1)), M1)) ∧
      (¬ (r4 = 0) →
        (∃ (r6 : Int32), (mq_C mq_X10_isPlace [.ref 77, .int x3] M1 (some (.int r6), M1)) ∧
        ((¬ r6 = 0 →
          ((¬ x2 = x3 →
            (∃ (M9 : mz_M), (mq_C mq_X10_takesBase [.ref 77, .int x1] M1 (none, M9)) ∧
            (vp_in x2 8) ∧
            (vp_in x3 8) ∧
            (vp_in x2 8) ∧
            (∀ M10 : mz_M, M10 = mz_wr M9 84 (upd (M9.1 84) x2.toNatClampNeg ((M9.1 84 x2.toNatClampNeg) ^^^ (M9.1 84 x3.toNatClampNeg))) →
            (∃ (M14 : mz_M), (mq_C mq_X10_someIsBase [.ref 77] M10 (none, M14)) ∧
            (∃ (r15 : Int32) (M15 : mz_M), (mq_C mq_X10_holds [.ref 77, .int x1] M14 (some (.int r15), M15)) ∧
            res = (some (.int r15), M15)))))) ∧
          (¬ (¬ x2 = x3) →
            res = (some (.int (-2)), M1)))) ∧
        (¬ (¬ r6 = 0) →
          res = (some (.int (-1)), M1)))))))))))) :
    mq_G mq_X10_adds (0, [some (.ref 77), some (.int x1), some (.int x2), some (.int x3)], [], M) res := by
  obtain ⟨M1, e1⟩ : ∃ y, y = mz_wr M 77 (upd (M.1 77) 10 0) := ⟨_, rfl⟩
  replace h := h M1 e1
  refine mz_Go.steps (n := 3) (k2 := (5, [some (.ref 77), some (.int x1), some (.int x2), some (.int x3)], [], (mz_wr M 77 (upd (M.1 77) 10 0)))) (P := []) rfl mz_o0 ?_
  rw [← e1]
  refine mz_Go.steps (n := 1) (k2 := (6, [some (.ref 77), some (.int x1), some (.int x2), some (.int x3)], [.int x1], M1)) (P := []) rfl mz_o0 ?_
  obtain ⟨r2, k2, h⟩ := h
  refine mz_Go.callS (As := [.int x1]) (rest := []) (rfl : mz_find 6 (mz_rows mq_X10_adds) = some (6, .invokestatic 244, 3, 158, 0, 215)) (rfl : mz_nth mq_tab 158 = some mq_X10_isSlot) (by decide) rfl rfl rfl (Nat.le_of_ble_eq_true rfl) (Nat.le_of_ble_eq_true rfl) k2 ?_
  show mq_G mq_X10_adds (9, [some (.ref 77), some (.int x1), some (.int x2), some (.int x3)], [.int r2], M1) res
  refine mz_Go.steps (n := 1) (k2 := (if r2 = 0 then 28 else 12, [some (.ref 77), some (.int x1), some (.int x2), some (.int x3)], [], M1)) (P := []) rfl mz_o0 ?_
  refine mz_Go.ite (fun c9 => ?_) (fun c9 => ?_)
  · replace h := h.1 c9
    refine mz_Go.steps (n := 1) (k2 := (29, [some (.ref 77), some (.int x1), some (.int x2), some (.int x3)], [.int (-1)], M1)) (P := []) rfl mz_o0 ?_
    rw [h]
    exact mz_Go.iret (rfl : mz_find 29 (mz_rows mq_X10_adds) = some (29, .ireturn, 1, 0, 0, 0)) rfl
  · replace h := h.2 c9
    refine mz_Go.steps (n := 2) (k2 := (14, [some (.ref 77), some (.int x1), some (.int x2), some (.int x3)], [.int x2, .ref 77], M1)) (P := []) rfl mz_o0 ?_
    obtain ⟨r4, k4, h⟩ := h
    refine mz_Go.callV (As := [.int x2]) (rest := []) (rfl : mz_find 14 (mz_rows mq_X10_adds) = some (14, .invokevirtual 253, 3, 159, 0, 218)) (rfl : mz_nth mq_tab 159 = some mq_X10_isPlace) rfl rfl rfl rfl (Nat.le_of_ble_eq_true rfl) (Nat.le_of_ble_eq_true rfl) k4 ?_
    show mq_G mq_X10_adds (17, [some (.ref 77), some (.int x1), some (.int x2), some (.int x3)], [.int r4], M1) res
    refine mz_Go.steps (n := 1) (k2 := (if r4 = 0 then 28 else 20, [some (.ref 77), some (.int x1), some (.int x2), some (.int x3)], [], M1)) (P := []) rfl mz_o0 ?_
    refine mz_Go.ite (fun c17 => ?_) (fun c17 => ?_)
    · replace h := h.1 c17
      refine mz_Go.steps (n := 1) (k2 := (29, [some (.ref 77), some (.int x1), some (.int x2), some (.int x3)], [.int (-1)], M1)) (P := []) rfl mz_o0 ?_
      rw [h]
      exact mz_Go.iret (rfl : mz_find 29 (mz_rows mq_X10_adds) = some (29, .ireturn, 1, 0, 0, 0)) rfl
    · replace h := h.2 c17
      refine mz_Go.steps (n := 2) (k2 := (22, [some (.ref 77), some (.int x1), some (.int x2), some (.int x3)], [.int x3, .ref 77], M1)) (P := []) rfl mz_o0 ?_
      obtain ⟨r6, k6, h⟩ := h
      refine mz_Go.callV (As := [.int x3]) (rest := []) (rfl : mz_find 22 (mz_rows mq_X10_adds) = some (22, .invokevirtual 253, 3, 159, 0, 218)) (rfl : mz_nth mq_tab 159 = some mq_X10_isPlace) rfl rfl rfl rfl (Nat.le_of_ble_eq_true rfl) (Nat.le_of_ble_eq_true rfl) k6 ?_
      show mq_G mq_X10_adds (25, [some (.ref 77), some (.int x1), some (.int x2), some (.int x3)], [.int r6], M1) res
      refine mz_Go.steps (n := 1) (k2 := (if ¬ r6 = 0 then 30 else 28, [some (.ref 77), some (.int x1), some (.int x2), some (.int x3)], [], M1)) (P := []) rfl mz_o0 ?_
      refine mz_Go.ite (fun c25 => ?_) (fun c25 => ?_)
      · replace h := h.1 c25
        refine mz_Go.steps (n := 3) (k2 := (if ¬ x2 = x3 then 38 else 35, [some (.ref 77), some (.int x1), some (.int x2), some (.int x3)], [], M1)) (P := []) rfl mz_o0 ?_
        refine mz_Go.ite (fun c32 => ?_) (fun c32 => ?_)
        · replace h := h.1 c32
          refine mz_Go.steps (n := 2) (k2 := (40, [some (.ref 77), some (.int x1), some (.int x2), some (.int x3)], [.int x1, .ref 77], M1)) (P := []) rfl mz_o0 ?_
          obtain ⟨M9, k9, h⟩ := h
          refine mz_Go.callV (As := [.int x1]) (rest := []) (rfl : mz_find 40 (mz_rows mq_X10_adds) = some (40, .invokevirtual 256, 3, 216, 0, 219)) (rfl : mz_nth mq_tab 216 = some mq_X10_takesBase) rfl rfl rfl rfl (Nat.le_of_ble_eq_true rfl) (Nat.le_of_ble_eq_true rfl) k9 ?_
          show mq_G mq_X10_adds (43, [some (.ref 77), some (.int x1), some (.int x2), some (.int x3)], [], M9) res
          obtain ⟨q11, q12, q13, h⟩ := h
          obtain ⟨M10, e10⟩ : ∃ y, y = mz_wr M9 84 (upd (M9.1 84) x2.toNatClampNeg ((M9.1 84 x2.toNatClampNeg) ^^^ (M9.1 84 x3.toNatClampNeg))) := ⟨_, rfl⟩
          replace h := h M10 e10
          refine mz_Go.steps (n := 11) (k2 := (58, [some (.ref 77), some (.int x1), some (.int x2), some (.int x3)], [], (mz_wr M9 84 (upd (M9.1 84) x2.toNatClampNeg ((M9.1 84 x2.toNatClampNeg) ^^^ (M9.1 84 x3.toNatClampNeg)))))) (P := [vp_in x2 8, vp_in x3 8, vp_in x2 8]) rfl (mz_o3 q11 q12 q13) ?_
          rw [← e10]
          refine mz_Go.steps (n := 1) (k2 := (59, [some (.ref 77), some (.int x1), some (.int x2), some (.int x3)], [.ref 77], M10)) (P := []) rfl mz_o0 ?_
          obtain ⟨M14, k14, h⟩ := h
          refine mz_Go.callV (As := []) (rest := []) (rfl : mz_find 59 (mz_rows mq_X10_adds) = some (59, .invokevirtual 226, 3, 172, 0, 209)) (rfl : mz_nth mq_tab 172 = some mq_X10_someIsBase) rfl rfl rfl rfl (Nat.le_of_ble_eq_true rfl) (Nat.le_of_ble_eq_true rfl) k14 ?_
          show mq_G mq_X10_adds (62, [some (.ref 77), some (.int x1), some (.int x2), some (.int x3)], [], M14) res
          refine mz_Go.steps (n := 2) (k2 := (64, [some (.ref 77), some (.int x1), some (.int x2), some (.int x3)], [.int x1, .ref 77], M14)) (P := []) rfl mz_o0 ?_
          obtain ⟨r15, M15, k15, h⟩ := h
          refine mz_Go.callV (As := [.int x1]) (rest := []) (rfl : mz_find 64 (mz_rows mq_X10_adds) = some (64, .invokevirtual 247, 3, 174, 0, 216)) (rfl : mz_nth mq_tab 174 = some mq_X10_holds) rfl rfl rfl rfl (Nat.le_of_ble_eq_true rfl) (Nat.le_of_ble_eq_true rfl) k15 ?_
          show mq_G mq_X10_adds (67, [some (.ref 77), some (.int x1), some (.int x2), some (.int x3)], [.int r15], M15) res
          rw [h]
          exact mz_Go.iret (rfl : mz_find 67 (mz_rows mq_X10_adds) = some (67, .ireturn, 1, 0, 0, 0)) rfl
        · replace h := h.2 c32
          refine mz_Go.steps (n := 1) (k2 := (37, [some (.ref 77), some (.int x1), some (.int x2), some (.int x3)], [.int (-2)], M1)) (P := []) rfl mz_o0 ?_
          rw [h]
          exact mz_Go.iret (rfl : mz_find 37 (mz_rows mq_X10_adds) = some (37, .ireturn, 1, 0, 0, 0)) rfl
      · replace h := h.2 c25
        refine mz_Go.steps (n := 1) (k2 := (29, [some (.ref 77), some (.int x1), some (.int x2), some (.int x3)], [.int (-1)], M1)) (P := []) rfl mz_o0 ?_
        rw [h]
        exact mz_Go.iret (rfl : mz_find 29 (mz_rows mq_X10_adds) = some (29, .ireturn, 1, 0, 0, 0)) rfl
set_option maxRecDepth 100000 in
set_option maxHeartbeats 4000000 in
theorem t_X10_at_0 (x1 : Int32) (x2 : Int32) (M : mz_M) {res : mz_O} (h :
    (∀ M1 : mz_M, M1 = mz_wr M 77 (upd (M.1 77) 10 0) →
    (∃ (r2 : Int32), (mq_C mq_X10_isSlot [.int x1] M1 (some (.int r2), M1)) ∧
    ((r2 = 0 →
      res = (some (.int (-1)), M1)) ∧
    (¬ (r2 = 0) →
      (∃ (r4 : Int32), (mq_C mq_X10_isPlace [.ref 77, .int x2] M1 (some (.int r4), M1)) ∧
      ((r4 = 0 →
        res = (some (.int (-1)), M1)) ∧
      (¬ (r4 = 0) →
        (∃ (r6 : Int32), (mq_C mq_X10_baseAt [.ref 77, .int x1, .int x2] M1 (some (.int r6), M1)) ∧
        res = (some (.int r6), M1)))))))))) :
    mq_G mq_X10_at (0, [some (.ref 77), some (.int x1), some (.int x2)], [], M) res := by
  obtain ⟨M1, e1⟩ : ∃ y, y = mz_wr M 77 (upd (M.1 77) 10 0) := ⟨_, rfl⟩
  replace h := h M1 e1
  refine mz_Go.steps (n := 3) (k2 := (5, [some (.ref 77), some (.int x1), some (.int x2)], [], (mz_wr M 77 (upd (M.1 77) 10 0)))) (P := []) rfl mz_o0 ?_
  rw [← e1]
  refine mz_Go.steps (n := 1) (k2 := (6, [some (.ref 77), some (.int x1), some (.int x2)], [.int x1], M1)) (P := []) rfl mz_o0 ?_
  obtain ⟨r2, k2, h⟩ := h
  refine mz_Go.callS (As := [.int x1]) (rest := []) (rfl : mz_find 6 (mz_rows mq_X10_at) = some (6, .invokestatic 244, 3, 158, 0, 215)) (rfl : mz_nth mq_tab 158 = some mq_X10_isSlot) (by decide) rfl rfl rfl (Nat.le_of_ble_eq_true rfl) (Nat.le_of_ble_eq_true rfl) k2 ?_
  show mq_G mq_X10_at (9, [some (.ref 77), some (.int x1), some (.int x2)], [.int r2], M1) res
  refine mz_Go.steps (n := 1) (k2 := (if r2 = 0 then 29 else 12, [some (.ref 77), some (.int x1), some (.int x2)], [], M1)) (P := []) rfl mz_o0 ?_
  refine mz_Go.ite (fun c9 => ?_) (fun c9 => ?_)
  · replace h := h.1 c9
    refine mz_Go.steps (n := 1) (k2 := (30, [some (.ref 77), some (.int x1), some (.int x2)], [.int (-1)], M1)) (P := []) rfl mz_o0 ?_
    rw [h]
    exact mz_Go.iret (rfl : mz_find 30 (mz_rows mq_X10_at) = some (30, .ireturn, 1, 0, 0, 0)) rfl
  · replace h := h.2 c9
    refine mz_Go.steps (n := 2) (k2 := (14, [some (.ref 77), some (.int x1), some (.int x2)], [.int x2, .ref 77], M1)) (P := []) rfl mz_o0 ?_
    obtain ⟨r4, k4, h⟩ := h
    refine mz_Go.callV (As := [.int x2]) (rest := []) (rfl : mz_find 14 (mz_rows mq_X10_at) = some (14, .invokevirtual 253, 3, 159, 0, 218)) (rfl : mz_nth mq_tab 159 = some mq_X10_isPlace) rfl rfl rfl rfl (Nat.le_of_ble_eq_true rfl) (Nat.le_of_ble_eq_true rfl) k4 ?_
    show mq_G mq_X10_at (17, [some (.ref 77), some (.int x1), some (.int x2)], [.int r4], M1) res
    refine mz_Go.steps (n := 1) (k2 := (if r4 = 0 then 29 else 20, [some (.ref 77), some (.int x1), some (.int x2)], [], M1)) (P := []) rfl mz_o0 ?_
    refine mz_Go.ite (fun c17 => ?_) (fun c17 => ?_)
    · replace h := h.1 c17
      refine mz_Go.steps (n := 1) (k2 := (30, [some (.ref 77), some (.int x1), some (.int x2)], [.int (-1)], M1)) (P := []) rfl mz_o0 ?_
      rw [h]
      exact mz_Go.iret (rfl : mz_find 30 (mz_rows mq_X10_at) = some (30, .ireturn, 1, 0, 0, 0)) rfl
    · replace h := h.2 c17
      refine mz_Go.steps (n := 3) (k2 := (23, [some (.ref 77), some (.int x1), some (.int x2)], [.int x2, .int x1, .ref 77], M1)) (P := []) rfl mz_o0 ?_
      obtain ⟨r6, k6, h⟩ := h
      refine mz_Go.callV (As := [.int x1, .int x2]) (rest := []) (rfl : mz_find 23 (mz_rows mq_X10_at) = some (23, .invokevirtual 123, 3, 167, 0, 171)) (rfl : mz_nth mq_tab 167 = some mq_X10_baseAt) rfl rfl rfl rfl (Nat.le_of_ble_eq_true rfl) (Nat.le_of_ble_eq_true rfl) k6 ?_
      show mq_G mq_X10_at (26, [some (.ref 77), some (.int x1), some (.int x2)], [.int r6], M1) res
      refine mz_Go.steps (n := 1) (k2 := (30, [some (.ref 77), some (.int x1), some (.int x2)], [.int r6], M1)) (P := []) rfl mz_o0 ?_
      rw [h]
      exact mz_Go.iret (rfl : mz_find 30 (mz_rows mq_X10_at) = some (30, .ireturn, 1, 0, 0, 0)) rfl
set_option maxRecDepth 100000 in
set_option maxHeartbeats 4000000 in
theorem t_X10_coordinates_0 (x1 : Int32) (x2 : Int32) (M : mz_M) {res : mz_O} (h :
    (∀ M1 : mz_M, M1 = mz_wr M 77 (upd (M.1 77) 10 0) →
    (∃ (r2 : Int32), (mq_C mq_X10_isSlot [.int x1] M1 (some (.int r2), M1)) ∧
    ((r2 = 0 →
      res = (some (.int (-1)), M1)) ∧
    (¬ (r2 = 0) →
      (∃ (r4 : Int32), (mq_C mq_X10_isElement [.ref 77, .int x2] M1 (some (.int r4), M1)) ∧
      ((¬ r4 = 0 →
        (∃ (M6 : mz_M), (mq_C mq_X10_looksAt [.ref 77, .int x1] M1 (none, M6)) ∧
        (∀ M7 : mz_M, M7 = mz_wr M6 77 (upd (M6.1 77) 9 0) →
        (vp_in x2 256) ∧
        (∃ (r9 : Int32), (mq_C mq_X10_bits [.int (M7.1 88 x2.toNatClampNeg)] M7 (some (.int r9), M7)) ∧
        (∃ (M10 : mz_M), (mq_C mq_X10_tell [.ref 77, .long (r9.toInt64)] M7 (none, M10)) ∧
        (vp_in x2 256) ∧
        res = (some (.int (M10.1 88 x2.toNatClampNeg)), M10)))))) ∧
      (¬ (¬ r4 = 0) →
        res = (some (.int (-1)), M1))))))))) :
    mq_G mq_X10_coordinates (0, [some (.ref 77), some (.int x1), some (.int x2)], [], M) res := by
  obtain ⟨M1, e1⟩ : ∃ y, y = mz_wr M 77 (upd (M.1 77) 10 0) := ⟨_, rfl⟩
  replace h := h M1 e1
  refine mz_Go.steps (n := 3) (k2 := (5, [some (.ref 77), some (.int x1), some (.int x2)], [], (mz_wr M 77 (upd (M.1 77) 10 0)))) (P := []) rfl mz_o0 ?_
  rw [← e1]
  refine mz_Go.steps (n := 1) (k2 := (6, [some (.ref 77), some (.int x1), some (.int x2)], [.int x1], M1)) (P := []) rfl mz_o0 ?_
  obtain ⟨r2, k2, h⟩ := h
  refine mz_Go.callS (As := [.int x1]) (rest := []) (rfl : mz_find 6 (mz_rows mq_X10_coordinates) = some (6, .invokestatic 244, 3, 158, 0, 215)) (rfl : mz_nth mq_tab 158 = some mq_X10_isSlot) (by decide) rfl rfl rfl (Nat.le_of_ble_eq_true rfl) (Nat.le_of_ble_eq_true rfl) k2 ?_
  show mq_G mq_X10_coordinates (9, [some (.ref 77), some (.int x1), some (.int x2)], [.int r2], M1) res
  refine mz_Go.steps (n := 1) (k2 := (if r2 = 0 then 20 else 12, [some (.ref 77), some (.int x1), some (.int x2)], [], M1)) (P := []) rfl mz_o0 ?_
  refine mz_Go.ite (fun c9 => ?_) (fun c9 => ?_)
  · replace h := h.1 c9
    refine mz_Go.steps (n := 1) (k2 := (21, [some (.ref 77), some (.int x1), some (.int x2)], [.int (-1)], M1)) (P := []) rfl mz_o0 ?_
    rw [h]
    exact mz_Go.iret (rfl : mz_find 21 (mz_rows mq_X10_coordinates) = some (21, .ireturn, 1, 0, 0, 0)) rfl
  · replace h := h.2 c9
    refine mz_Go.steps (n := 2) (k2 := (14, [some (.ref 77), some (.int x1), some (.int x2)], [.int x2, .ref 77], M1)) (P := []) rfl mz_o0 ?_
    obtain ⟨r4, k4, h⟩ := h
    refine mz_Go.callV (As := [.int x2]) (rest := []) (rfl : mz_find 14 (mz_rows mq_X10_coordinates) = some (14, .invokevirtual 183, 3, 156, 0, 194)) (rfl : mz_nth mq_tab 156 = some mq_X10_isElement) rfl rfl rfl rfl (Nat.le_of_ble_eq_true rfl) (Nat.le_of_ble_eq_true rfl) k4 ?_
    show mq_G mq_X10_coordinates (17, [some (.ref 77), some (.int x1), some (.int x2)], [.int r4], M1) res
    refine mz_Go.steps (n := 1) (k2 := (if ¬ r4 = 0 then 22 else 20, [some (.ref 77), some (.int x1), some (.int x2)], [], M1)) (P := []) rfl mz_o0 ?_
    refine mz_Go.ite (fun c17 => ?_) (fun c17 => ?_)
    · replace h := h.1 c17
      refine mz_Go.steps (n := 2) (k2 := (24, [some (.ref 77), some (.int x1), some (.int x2)], [.int x1, .ref 77], M1)) (P := []) rfl mz_o0 ?_
      obtain ⟨M6, k6, h⟩ := h
      refine mz_Go.callV (As := [.int x1]) (rest := []) (rfl : mz_find 24 (mz_rows mq_X10_coordinates) = some (24, .invokevirtual 250, 3, 168, 0, 217)) (rfl : mz_nth mq_tab 168 = some mq_X10_looksAt) rfl rfl rfl rfl (Nat.le_of_ble_eq_true rfl) (Nat.le_of_ble_eq_true rfl) k6 ?_
      show mq_G mq_X10_coordinates (27, [some (.ref 77), some (.int x1), some (.int x2)], [], M6) res
      obtain ⟨M7, e7⟩ : ∃ y, y = mz_wr M6 77 (upd (M6.1 77) 9 0) := ⟨_, rfl⟩
      replace h := h M7 e7
      refine mz_Go.steps (n := 3) (k2 := (32, [some (.ref 77), some (.int x1), some (.int x2)], [], (mz_wr M6 77 (upd (M6.1 77) 9 0)))) (P := []) rfl mz_o0 ?_
      rw [← e7]
      obtain ⟨q8, h⟩ := h
      refine mz_Go.steps (n := 5) (k2 := (39, [some (.ref 77), some (.int x1), some (.int x2)], [.int (M7.1 88 x2.toNatClampNeg), .ref 77], M7)) (P := [vp_in x2 256]) rfl (mz_o1 q8) ?_
      obtain ⟨r9, k9, h⟩ := h
      refine mz_Go.callS (As := [.int (M7.1 88 x2.toNatClampNeg)]) (rest := [.ref 77]) (rfl : mz_find 39 (mz_rows mq_X10_coordinates) = some (39, .invokestatic 129, 3, 136, 0, 173)) (rfl : mz_nth mq_tab 136 = some mq_X10_bits) (by decide) rfl rfl rfl (Nat.le_of_ble_eq_true rfl) (Nat.le_of_ble_eq_true rfl) k9 ?_
      show mq_G mq_X10_coordinates (42, [some (.ref 77), some (.int x1), some (.int x2)], [.int r9, .ref 77], M7) res
      refine mz_Go.steps (n := 1) (k2 := (43, [some (.ref 77), some (.int x1), some (.int x2)], [.long (r9.toInt64), .ref 77], M7)) (P := []) rfl mz_o0 ?_
      obtain ⟨M10, k10, h⟩ := h
      refine mz_Go.callV (As := [.long (r9.toInt64)]) (rest := []) (rfl : mz_find 43 (mz_rows mq_X10_coordinates) = some (43, .invokevirtual 194, 3, 135, 0, 198)) (rfl : mz_nth mq_tab 135 = some mq_X10_tell) rfl rfl rfl rfl (Nat.le_of_ble_eq_true rfl) (Nat.le_of_ble_eq_true rfl) k10 ?_
      show mq_G mq_X10_coordinates (46, [some (.ref 77), some (.int x1), some (.int x2)], [], M10) res
      obtain ⟨q11, h⟩ := h
      refine mz_Go.steps (n := 4) (k2 := (52, [some (.ref 77), some (.int x1), some (.int x2)], [.int (M10.1 88 x2.toNatClampNeg)], M10)) (P := [vp_in x2 256]) rfl (mz_o1 q11) ?_
      rw [h]
      exact mz_Go.iret (rfl : mz_find 52 (mz_rows mq_X10_coordinates) = some (52, .ireturn, 1, 0, 0, 0)) rfl
    · replace h := h.2 c17
      refine mz_Go.steps (n := 1) (k2 := (21, [some (.ref 77), some (.int x1), some (.int x2)], [.int (-1)], M1)) (P := []) rfl mz_o0 ?_
      rw [h]
      exact mz_Go.iret (rfl : mz_find 21 (mz_rows mq_X10_coordinates) = some (21, .ireturn, 1, 0, 0, 0)) rfl
set_option maxRecDepth 100000 in
set_option maxHeartbeats 4000000 in
theorem t_X10_made_0 (x1 : Int32) (x2 : Int32) (M : mz_M) {res : mz_O} (h :
    (∀ M1 : mz_M, M1 = mz_wr M 77 (upd (M.1 77) 10 0) →
    (∃ (r2 : Int32), (mq_C mq_X10_isSlot [.int x1] M1 (some (.int r2), M1)) ∧
    ((r2 = 0 →
      res = (some (.int (-1)), M1)) ∧
    (¬ (r2 = 0) →
      (∃ (r4 : Int32), (mq_C mq_X10_isElement [.ref 77, .int x2] M1 (some (.int r4), M1)) ∧
      ((¬ r4 = 0 →
        (∃ (M6 : mz_M), (mq_C mq_X10_looksAt [.ref 77, .int x1] M1 (none, M6)) ∧
        (∃ (r7 : Int32), (mq_C mq_X10_madeOf [.ref 77, .int x2] M6 (some (.int r7), M6)) ∧
        res = (some (.int r7), M6)))) ∧
      (¬ (¬ r4 = 0) →
        res = (some (.int (-1)), M1))))))))) :
    mq_G mq_X10_made (0, [some (.ref 77), some (.int x1), some (.int x2)], [], M) res := by
  obtain ⟨M1, e1⟩ : ∃ y, y = mz_wr M 77 (upd (M.1 77) 10 0) := ⟨_, rfl⟩
  replace h := h M1 e1
  refine mz_Go.steps (n := 3) (k2 := (5, [some (.ref 77), some (.int x1), some (.int x2)], [], (mz_wr M 77 (upd (M.1 77) 10 0)))) (P := []) rfl mz_o0 ?_
  rw [← e1]
  refine mz_Go.steps (n := 1) (k2 := (6, [some (.ref 77), some (.int x1), some (.int x2)], [.int x1], M1)) (P := []) rfl mz_o0 ?_
  obtain ⟨r2, k2, h⟩ := h
  refine mz_Go.callS (As := [.int x1]) (rest := []) (rfl : mz_find 6 (mz_rows mq_X10_made) = some (6, .invokestatic 244, 3, 158, 0, 215)) (rfl : mz_nth mq_tab 158 = some mq_X10_isSlot) (by decide) rfl rfl rfl (Nat.le_of_ble_eq_true rfl) (Nat.le_of_ble_eq_true rfl) k2 ?_
  show mq_G mq_X10_made (9, [some (.ref 77), some (.int x1), some (.int x2)], [.int r2], M1) res
  refine mz_Go.steps (n := 1) (k2 := (if r2 = 0 then 20 else 12, [some (.ref 77), some (.int x1), some (.int x2)], [], M1)) (P := []) rfl mz_o0 ?_
  refine mz_Go.ite (fun c9 => ?_) (fun c9 => ?_)
  · replace h := h.1 c9
    refine mz_Go.steps (n := 1) (k2 := (21, [some (.ref 77), some (.int x1), some (.int x2)], [.int (-1)], M1)) (P := []) rfl mz_o0 ?_
    rw [h]
    exact mz_Go.iret (rfl : mz_find 21 (mz_rows mq_X10_made) = some (21, .ireturn, 1, 0, 0, 0)) rfl
  · replace h := h.2 c9
    refine mz_Go.steps (n := 2) (k2 := (14, [some (.ref 77), some (.int x1), some (.int x2)], [.int x2, .ref 77], M1)) (P := []) rfl mz_o0 ?_
    obtain ⟨r4, k4, h⟩ := h
    refine mz_Go.callV (As := [.int x2]) (rest := []) (rfl : mz_find 14 (mz_rows mq_X10_made) = some (14, .invokevirtual 183, 3, 156, 0, 194)) (rfl : mz_nth mq_tab 156 = some mq_X10_isElement) rfl rfl rfl rfl (Nat.le_of_ble_eq_true rfl) (Nat.le_of_ble_eq_true rfl) k4 ?_
    show mq_G mq_X10_made (17, [some (.ref 77), some (.int x1), some (.int x2)], [.int r4], M1) res
    refine mz_Go.steps (n := 1) (k2 := (if ¬ r4 = 0 then 22 else 20, [some (.ref 77), some (.int x1), some (.int x2)], [], M1)) (P := []) rfl mz_o0 ?_
    refine mz_Go.ite (fun c17 => ?_) (fun c17 => ?_)
    · replace h := h.1 c17
      refine mz_Go.steps (n := 2) (k2 := (24, [some (.ref 77), some (.int x1), some (.int x2)], [.int x1, .ref 77], M1)) (P := []) rfl mz_o0 ?_
      obtain ⟨M6, k6, h⟩ := h
      refine mz_Go.callV (As := [.int x1]) (rest := []) (rfl : mz_find 24 (mz_rows mq_X10_made) = some (24, .invokevirtual 250, 3, 168, 0, 217)) (rfl : mz_nth mq_tab 168 = some mq_X10_looksAt) rfl rfl rfl rfl (Nat.le_of_ble_eq_true rfl) (Nat.le_of_ble_eq_true rfl) k6 ?_
      show mq_G mq_X10_made (27, [some (.ref 77), some (.int x1), some (.int x2)], [], M6) res
      refine mz_Go.steps (n := 2) (k2 := (29, [some (.ref 77), some (.int x1), some (.int x2)], [.int x2, .ref 77], M6)) (P := []) rfl mz_o0 ?_
      obtain ⟨r7, k7, h⟩ := h
      refine mz_Go.callV (As := [.int x2]) (rest := []) (rfl : mz_find 29 (mz_rows mq_X10_made) = some (29, .invokevirtual 120, 3, 165, 0, 170)) (rfl : mz_nth mq_tab 165 = some mq_X10_madeOf) rfl rfl rfl rfl (Nat.le_of_ble_eq_true rfl) (Nat.le_of_ble_eq_true rfl) k7 ?_
      show mq_G mq_X10_made (32, [some (.ref 77), some (.int x1), some (.int x2)], [.int r7], M6) res
      rw [h]
      exact mz_Go.iret (rfl : mz_find 32 (mz_rows mq_X10_made) = some (32, .ireturn, 1, 0, 0, 0)) rfl
    · replace h := h.2 c17
      refine mz_Go.steps (n := 1) (k2 := (21, [some (.ref 77), some (.int x1), some (.int x2)], [.int (-1)], M1)) (P := []) rfl mz_o0 ?_
      rw [h]
      exact mz_Go.iret (rfl : mz_find 21 (mz_rows mq_X10_made) = some (21, .ireturn, 1, 0, 0, 0)) rfl
set_option maxRecDepth 100000 in
set_option maxHeartbeats 4000000 in
theorem t_X10_tellsCoordinates_0 (x1 : Int32) (M : mz_M) {res : mz_O} (h :
    (vp_in x1 256) ∧
    (∃ (M2 : mz_M), (mq_C mq_X10_tell [.ref 77, .long ((M.1 88 x1.toNatClampNeg).toInt64)] M (none, M2)) ∧
    (vp_in x1 256) ∧
    (∃ (r4 : Int32), (mq_C mq_X10_bits [.int (M2.1 88 x1.toNatClampNeg)] M2 (some (.int r4), M2)) ∧
    res = (some (.int r4), M2)))) :
    mq_G mq_X10_tellsCoordinates (0, [some (.ref 77), some (.int x1)], [], M) res := by
  obtain ⟨q1, h⟩ := h
  refine mz_Go.steps (n := 6) (k2 := (8, [some (.ref 77), some (.int x1)], [.long ((M.1 88 x1.toNatClampNeg).toInt64), .ref 77], M)) (P := [vp_in x1 256]) rfl (mz_o1 q1) ?_
  obtain ⟨M2, k2, h⟩ := h
  refine mz_Go.callV (As := [.long ((M.1 88 x1.toNatClampNeg).toInt64)]) (rest := []) (rfl : mz_find 8 (mz_rows mq_X10_tellsCoordinates) = some (8, .invokevirtual 194, 3, 135, 0, 198)) (rfl : mz_nth mq_tab 135 = some mq_X10_tell) rfl rfl rfl rfl (Nat.le_of_ble_eq_true rfl) (Nat.le_of_ble_eq_true rfl) k2 ?_
  show mq_G mq_X10_tellsCoordinates (11, [some (.ref 77), some (.int x1)], [], M2) res
  obtain ⟨q3, h⟩ := h
  refine mz_Go.steps (n := 4) (k2 := (17, [some (.ref 77), some (.int x1)], [.int (M2.1 88 x1.toNatClampNeg)], M2)) (P := [vp_in x1 256]) rfl (mz_o1 q3) ?_
  obtain ⟨r4, k4, h⟩ := h
  refine mz_Go.callS (As := [.int (M2.1 88 x1.toNatClampNeg)]) (rest := []) (rfl : mz_find 17 (mz_rows mq_X10_tellsCoordinates) = some (17, .invokestatic 129, 3, 136, 0, 173)) (rfl : mz_nth mq_tab 136 = some mq_X10_bits) (by decide) rfl rfl rfl (Nat.le_of_ble_eq_true rfl) (Nat.le_of_ble_eq_true rfl) k4 ?_
  show mq_G mq_X10_tellsCoordinates (20, [some (.ref 77), some (.int x1)], [.int r4], M2) res
  rw [h]
  exact mz_Go.iret (rfl : mz_find 20 (mz_rows mq_X10_tellsCoordinates) = some (20, .ireturn, 1, 0, 0, 0)) rfl
set_option maxRecDepth 100000 in
set_option maxHeartbeats 4000000 in
theorem t_X10_change_0 (x1 : Int32) (x2 : Int32) (M : mz_M) {res : mz_O} (h :
    (∀ M1 : mz_M, M1 = mz_wr M 77 (upd (M.1 77) 10 0) →
    (∃ (r2 : Int32), (mq_C mq_X10_isSlot [.int x1] M1 (some (.int r2), M1)) ∧
    ((r2 = 0 →
      res = (some (.int (-1)), M1)) ∧
    (¬ (r2 = 0) →
      (∃ (r4 : Int32), (mq_C mq_X10_isSlot [.int x2] M1 (some (.int r4), M1)) ∧
      ((¬ r4 = 0 →
        (∃ (M6 : mz_M), (mq_C mq_X10_looksAt [.ref 77, .int x2] M1 (none, M6)) ∧
        (∀ M7 : mz_M, M7 = mz_wr M6 77 (upd (M6.1 77) 9 0) →
        mq_G mq_X10_change (36, [some (.ref 77), some (.int x1), some (.int x2), some (.int 0), some (.int 0)], [], M7) res))) ∧
      (¬ (¬ r4 = 0) →
        res = (some (.int (-1)), M1))))))))) :
    mq_G mq_X10_change (0, [some (.ref 77), some (.int x1), some (.int x2), none, none], [], M) res := by
  obtain ⟨M1, e1⟩ : ∃ y, y = mz_wr M 77 (upd (M.1 77) 10 0) := ⟨_, rfl⟩
  replace h := h M1 e1
  refine mz_Go.steps (n := 3) (k2 := (5, [some (.ref 77), some (.int x1), some (.int x2), none, none], [], (mz_wr M 77 (upd (M.1 77) 10 0)))) (P := []) rfl mz_o0 ?_
  rw [← e1]
  refine mz_Go.steps (n := 1) (k2 := (6, [some (.ref 77), some (.int x1), some (.int x2), none, none], [.int x1], M1)) (P := []) rfl mz_o0 ?_
  obtain ⟨r2, k2, h⟩ := h
  refine mz_Go.callS (As := [.int x1]) (rest := []) (rfl : mz_find 6 (mz_rows mq_X10_change) = some (6, .invokestatic 244, 3, 158, 0, 215)) (rfl : mz_nth mq_tab 158 = some mq_X10_isSlot) (by decide) rfl rfl rfl (Nat.le_of_ble_eq_true rfl) (Nat.le_of_ble_eq_true rfl) k2 ?_
  show mq_G mq_X10_change (9, [some (.ref 77), some (.int x1), some (.int x2), none, none], [.int r2], M1) res
  refine mz_Go.steps (n := 1) (k2 := (if r2 = 0 then 19 else 12, [some (.ref 77), some (.int x1), some (.int x2), none, none], [], M1)) (P := []) rfl mz_o0 ?_
  refine mz_Go.ite (fun c9 => ?_) (fun c9 => ?_)
  · replace h := h.1 c9
    refine mz_Go.steps (n := 1) (k2 := (20, [some (.ref 77), some (.int x1), some (.int x2), none, none], [.int (-1)], M1)) (P := []) rfl mz_o0 ?_
    rw [h]
    exact mz_Go.iret (rfl : mz_find 20 (mz_rows mq_X10_change) = some (20, .ireturn, 1, 0, 0, 0)) rfl
  · replace h := h.2 c9
    refine mz_Go.steps (n := 1) (k2 := (13, [some (.ref 77), some (.int x1), some (.int x2), none, none], [.int x2], M1)) (P := []) rfl mz_o0 ?_
    obtain ⟨r4, k4, h⟩ := h
    refine mz_Go.callS (As := [.int x2]) (rest := []) (rfl : mz_find 13 (mz_rows mq_X10_change) = some (13, .invokestatic 244, 3, 158, 0, 215)) (rfl : mz_nth mq_tab 158 = some mq_X10_isSlot) (by decide) rfl rfl rfl (Nat.le_of_ble_eq_true rfl) (Nat.le_of_ble_eq_true rfl) k4 ?_
    show mq_G mq_X10_change (16, [some (.ref 77), some (.int x1), some (.int x2), none, none], [.int r4], M1) res
    refine mz_Go.steps (n := 1) (k2 := (if ¬ r4 = 0 then 21 else 19, [some (.ref 77), some (.int x1), some (.int x2), none, none], [], M1)) (P := []) rfl mz_o0 ?_
    refine mz_Go.ite (fun c16 => ?_) (fun c16 => ?_)
    · replace h := h.1 c16
      refine mz_Go.steps (n := 2) (k2 := (23, [some (.ref 77), some (.int x1), some (.int x2), none, none], [.int x2, .ref 77], M1)) (P := []) rfl mz_o0 ?_
      obtain ⟨M6, k6, h⟩ := h
      refine mz_Go.callV (As := [.int x2]) (rest := []) (rfl : mz_find 23 (mz_rows mq_X10_change) = some (23, .invokevirtual 250, 3, 168, 0, 217)) (rfl : mz_nth mq_tab 168 = some mq_X10_looksAt) rfl rfl rfl rfl (Nat.le_of_ble_eq_true rfl) (Nat.le_of_ble_eq_true rfl) k6 ?_
      show mq_G mq_X10_change (26, [some (.ref 77), some (.int x1), some (.int x2), none, none], [], M6) res
      obtain ⟨M7, e7⟩ : ∃ y, y = mz_wr M6 77 (upd (M6.1 77) 9 0) := ⟨_, rfl⟩
      replace h := h M7 e7
      refine mz_Go.steps (n := 5) (k2 := (33, [some (.ref 77), some (.int x1), some (.int x2), some (.int 0), none], [], (mz_wr M6 77 (upd (M6.1 77) 9 0)))) (P := []) rfl mz_o0 ?_
      rw [← e7]
      refine mz_Go.steps (n := 2) (k2 := (36, [some (.ref 77), some (.int x1), some (.int x2), some (.int 0), some (.int 0)], [], M7)) (P := []) rfl mz_o0 ?_
      exact h
    · replace h := h.2 c16
      refine mz_Go.steps (n := 1) (k2 := (20, [some (.ref 77), some (.int x1), some (.int x2), none, none], [.int (-1)], M1)) (P := []) rfl mz_o0 ?_
      rw [h]
      exact mz_Go.iret (rfl : mz_find 20 (mz_rows mq_X10_change) = some (20, .ireturn, 1, 0, 0, 0)) rfl
set_option maxRecDepth 100000 in
set_option maxHeartbeats 4000000 in
theorem t_X10_change_36 (x1 : Int32) (o2 : Option Value) (x3 : Int32) (x4 : Int32) (M : mz_M) {res : mz_O} (h :
    (((M.1 77 11) ≤ x4 →
      res = (some (.int x3), M)) ∧
    (¬ ((M.1 77 11) ≤ x4) →
      (∃ (r2 : Int32), (mq_C mq_X10_baseAt [.ref 77, .int x1, .int x4] M (some (.int r2), M)) ∧
      (∃ (r3 : Int32) (M3 : mz_M), (mq_C mq_X10_tellsCoordinates [.ref 77, .int r2] M (some (.int r3), M3)) ∧
      mq_G mq_X10_change (36, [some (.ref 77), some (.int x1), (mz_nw o2), some (.int (x3 + r3)), some (.int (x4 + 1))], [], M3) res))))) :
    mq_G mq_X10_change (36, [some (.ref 77), some (.int x1), o2, some (.int x3), some (.int x4)], [], M) res := by
  refine mz_Go.steps (n := 4) (k2 := (if (M.1 77 11) ≤ x4 then 65 else 45, [some (.ref 77), some (.int x1), o2, some (.int x3), some (.int x4)], [], M)) (P := []) rfl mz_o0 ?_
  refine mz_Go.ite (fun c42 => ?_) (fun c42 => ?_)
  · replace h := h.1 c42
    refine mz_Go.steps (n := 1) (k2 := (66, [some (.ref 77), some (.int x1), o2, some (.int x3), some (.int x4)], [.int x3], M)) (P := []) rfl mz_o0 ?_
    rw [h]
    exact mz_Go.iret (rfl : mz_find 66 (mz_rows mq_X10_change) = some (66, .ireturn, 1, 0, 0, 0)) rfl
  · replace h := h.2 c42
    refine mz_Go.steps (n := 5) (k2 := (51, [some (.ref 77), some (.int x1), o2, some (.int x3), some (.int x4)], [.int x4, .int x1, .ref 77, .ref 77, .int x3], M)) (P := []) rfl mz_o0 ?_
    obtain ⟨r2, k2, h⟩ := h
    refine mz_Go.callV (As := [.int x1, .int x4]) (rest := [.ref 77, .int x3]) (rfl : mz_find 51 (mz_rows mq_X10_change) = some (51, .invokevirtual 123, 3, 167, 0, 171)) (rfl : mz_nth mq_tab 167 = some mq_X10_baseAt) rfl rfl rfl rfl (Nat.le_of_ble_eq_true rfl) (Nat.le_of_ble_eq_true rfl) k2 ?_
    show mq_G mq_X10_change (54, [some (.ref 77), some (.int x1), o2, some (.int x3), some (.int x4)], [.int r2, .ref 77, .int x3], M) res
    obtain ⟨r3, M3, k3, h⟩ := h
    refine mz_Go.callV (As := [.int r2]) (rest := [.int x3]) (rfl : mz_find 54 (mz_rows mq_X10_change) = some (54, .invokevirtual 259, 3, 222, 0, 220)) (rfl : mz_nth mq_tab 222 = some mq_X10_tellsCoordinates) rfl rfl rfl rfl (Nat.le_of_ble_eq_true rfl) (Nat.le_of_ble_eq_true rfl) k3 ?_
    show mq_G mq_X10_change (57, [some (.ref 77), some (.int x1), o2, some (.int x3), some (.int x4)], [.int r3, .int x3], M3) res
    refine mz_Go.steps (n := 4) (k2 := (36, [some (.ref 77), some (.int x1), (mz_nw o2), some (.int (x3 + r3)), some (.int (x4 + 1))], [], M3)) (P := []) rfl mz_o0 ?_
    exact h
set_option maxRecDepth 100000 in
set_option maxHeartbeats 4000000 in
theorem t_X10_table_0 (x1 : Int32) (x2 : Int32) (x3 : Int32) (M : mz_M) {res : mz_O} (h :
    (∀ M1 : mz_M, M1 = mz_wr M 77 (upd (M.1 77) 10 0) →
    (∃ (r2 : Int32), (mq_C mq_X10_isSlot [.int x1] M1 (some (.int r2), M1)) ∧
    ((r2 = 0 →
      res = (some (.int (-1)), M1)) ∧
    (¬ (r2 = 0) →
      (∃ (r4 : Int32), (mq_C mq_X10_isPlace [.ref 77, .int x2] M1 (some (.int r4), M1)) ∧
      ((r4 = 0 →
        res = (some (.int (-1)), M1)) ∧
      (¬ (r4 = 0) →
        (∃ (r6 : Int32), (mq_C mq_X10_isPlace [.ref 77, .int x3] M1 (some (.int r6), M1)) ∧
        ((¬ r6 = 0 →
          (∃ (M8 : mz_M), (mq_C mq_X10_looksAt [.ref 77, .int x1] M1 (none, M8)) ∧
          (vp_in x2 8) ∧
          (vp_in x3 8) ∧
          (∃ (r11 : Int32), (mq_C mq_X10_times [.ref 77, .int (M8.1 87 x2.toNatClampNeg), .int (M8.1 87 x3.toNatClampNeg)] M8 (some (.int r11), M8)) ∧
          (vp_in r11 256) ∧
          res = (some (.int (M8.1 88 r11.toNatClampNeg)), M8)))) ∧
        (¬ (¬ r6 = 0) →
          res = (some (.int (-1)), M1)))))))))))) :
    mq_G mq_X10_table (0, [some (.ref 77), some (.int x1), some (.int x2), some (.int x3)], [], M) res := by
  obtain ⟨M1, e1⟩ : ∃ y, y = mz_wr M 77 (upd (M.1 77) 10 0) := ⟨_, rfl⟩
  replace h := h M1 e1
  refine mz_Go.steps (n := 3) (k2 := (5, [some (.ref 77), some (.int x1), some (.int x2), some (.int x3)], [], (mz_wr M 77 (upd (M.1 77) 10 0)))) (P := []) rfl mz_o0 ?_
  rw [← e1]
  refine mz_Go.steps (n := 1) (k2 := (6, [some (.ref 77), some (.int x1), some (.int x2), some (.int x3)], [.int x1], M1)) (P := []) rfl mz_o0 ?_
  obtain ⟨r2, k2, h⟩ := h
  refine mz_Go.callS (As := [.int x1]) (rest := []) (rfl : mz_find 6 (mz_rows mq_X10_table) = some (6, .invokestatic 244, 3, 158, 0, 215)) (rfl : mz_nth mq_tab 158 = some mq_X10_isSlot) (by decide) rfl rfl rfl (Nat.le_of_ble_eq_true rfl) (Nat.le_of_ble_eq_true rfl) k2 ?_
  show mq_G mq_X10_table (9, [some (.ref 77), some (.int x1), some (.int x2), some (.int x3)], [.int r2], M1) res
  refine mz_Go.steps (n := 1) (k2 := (if r2 = 0 then 28 else 12, [some (.ref 77), some (.int x1), some (.int x2), some (.int x3)], [], M1)) (P := []) rfl mz_o0 ?_
  refine mz_Go.ite (fun c9 => ?_) (fun c9 => ?_)
  · replace h := h.1 c9
    refine mz_Go.steps (n := 1) (k2 := (29, [some (.ref 77), some (.int x1), some (.int x2), some (.int x3)], [.int (-1)], M1)) (P := []) rfl mz_o0 ?_
    rw [h]
    exact mz_Go.iret (rfl : mz_find 29 (mz_rows mq_X10_table) = some (29, .ireturn, 1, 0, 0, 0)) rfl
  · replace h := h.2 c9
    refine mz_Go.steps (n := 2) (k2 := (14, [some (.ref 77), some (.int x1), some (.int x2), some (.int x3)], [.int x2, .ref 77], M1)) (P := []) rfl mz_o0 ?_
    obtain ⟨r4, k4, h⟩ := h
    refine mz_Go.callV (As := [.int x2]) (rest := []) (rfl : mz_find 14 (mz_rows mq_X10_table) = some (14, .invokevirtual 253, 3, 159, 0, 218)) (rfl : mz_nth mq_tab 159 = some mq_X10_isPlace) rfl rfl rfl rfl (Nat.le_of_ble_eq_true rfl) (Nat.le_of_ble_eq_true rfl) k4 ?_
    show mq_G mq_X10_table (17, [some (.ref 77), some (.int x1), some (.int x2), some (.int x3)], [.int r4], M1) res
    refine mz_Go.steps (n := 1) (k2 := (if r4 = 0 then 28 else 20, [some (.ref 77), some (.int x1), some (.int x2), some (.int x3)], [], M1)) (P := []) rfl mz_o0 ?_
    refine mz_Go.ite (fun c17 => ?_) (fun c17 => ?_)
    · replace h := h.1 c17
      refine mz_Go.steps (n := 1) (k2 := (29, [some (.ref 77), some (.int x1), some (.int x2), some (.int x3)], [.int (-1)], M1)) (P := []) rfl mz_o0 ?_
      rw [h]
      exact mz_Go.iret (rfl : mz_find 29 (mz_rows mq_X10_table) = some (29, .ireturn, 1, 0, 0, 0)) rfl
    · replace h := h.2 c17
      refine mz_Go.steps (n := 2) (k2 := (22, [some (.ref 77), some (.int x1), some (.int x2), some (.int x3)], [.int x3, .ref 77], M1)) (P := []) rfl mz_o0 ?_
      obtain ⟨r6, k6, h⟩ := h
      refine mz_Go.callV (As := [.int x3]) (rest := []) (rfl : mz_find 22 (mz_rows mq_X10_table) = some (22, .invokevirtual 253, 3, 159, 0, 218)) (rfl : mz_nth mq_tab 159 = some mq_X10_isPlace) rfl rfl rfl rfl (Nat.le_of_ble_eq_true rfl) (Nat.le_of_ble_eq_true rfl) k6 ?_
      show mq_G mq_X10_table (25, [some (.ref 77), some (.int x1), some (.int x2), some (.int x3)], [.int r6], M1) res
      refine mz_Go.steps (n := 1) (k2 := (if ¬ r6 = 0 then 30 else 28, [some (.ref 77), some (.int x1), some (.int x2), some (.int x3)], [], M1)) (P := []) rfl mz_o0 ?_
      refine mz_Go.ite (fun c25 => ?_) (fun c25 => ?_)
      · replace h := h.1 c25
        refine mz_Go.steps (n := 2) (k2 := (32, [some (.ref 77), some (.int x1), some (.int x2), some (.int x3)], [.int x1, .ref 77], M1)) (P := []) rfl mz_o0 ?_
        obtain ⟨M8, k8, h⟩ := h
        refine mz_Go.callV (As := [.int x1]) (rest := []) (rfl : mz_find 32 (mz_rows mq_X10_table) = some (32, .invokevirtual 250, 3, 168, 0, 217)) (rfl : mz_nth mq_tab 168 = some mq_X10_looksAt) rfl rfl rfl rfl (Nat.le_of_ble_eq_true rfl) (Nat.le_of_ble_eq_true rfl) k8 ?_
        show mq_G mq_X10_table (35, [some (.ref 77), some (.int x1), some (.int x2), some (.int x3)], [], M8) res
        obtain ⟨q9, q10, h⟩ := h
        refine mz_Go.steps (n := 11) (k2 := (52, [some (.ref 77), some (.int x1), some (.int x2), some (.int x3)], [.int (M8.1 87 x3.toNatClampNeg), .int (M8.1 87 x2.toNatClampNeg), .ref 77, .ref 88], M8)) (P := [vp_in x2 8, vp_in x3 8]) rfl (mz_o2 q9 q10) ?_
        obtain ⟨r11, k11, h⟩ := h
        refine mz_Go.callV (As := [.int (M8.1 87 x2.toNatClampNeg), .int (M8.1 87 x3.toNatClampNeg)]) (rest := [.ref 88]) (rfl : mz_find 52 (mz_rows mq_X10_table) = some (52, .invokevirtual 92, 3, 147, 0, 156)) (rfl : mz_nth mq_tab 147 = some mq_X10_times) rfl rfl rfl rfl (Nat.le_of_ble_eq_true rfl) (Nat.le_of_ble_eq_true rfl) k11 ?_
        show mq_G mq_X10_table (55, [some (.ref 77), some (.int x1), some (.int x2), some (.int x3)], [.int r11, .ref 88], M8) res
        obtain ⟨q12, h⟩ := h
        refine mz_Go.steps (n := 1) (k2 := (56, [some (.ref 77), some (.int x1), some (.int x2), some (.int x3)], [.int (M8.1 88 r11.toNatClampNeg)], M8)) (P := [vp_in r11 256]) rfl (mz_o1 q12) ?_
        rw [h]
        exact mz_Go.iret (rfl : mz_find 56 (mz_rows mq_X10_table) = some (56, .ireturn, 1, 0, 0, 0)) rfl
      · replace h := h.2 c25
        refine mz_Go.steps (n := 1) (k2 := (29, [some (.ref 77), some (.int x1), some (.int x2), some (.int x3)], [.int (-1)], M1)) (P := []) rfl mz_o0 ?_
        rw [h]
        exact mz_Go.iret (rfl : mz_find 29 (mz_rows mq_X10_table) = some (29, .ireturn, 1, 0, 0, 0)) rfl
set_option maxRecDepth 100000 in
set_option maxHeartbeats 4000000 in
theorem t_X10_complexity_0 (x1 : Int32) (M : mz_M) {res : mz_O} (h :
    (∀ M1 : mz_M, M1 = mz_wr M 77 (upd (M.1 77) 10 0) →
    (∃ (r2 : Int32), (mq_C mq_X10_isSlot [.int x1] M1 (some (.int r2), M1)) ∧
    ((¬ r2 = 0 →
      (∃ (M4 : mz_M), (mq_C mq_X10_looksAt [.ref 77, .int x1] M1 (none, M4)) ∧
      (∃ (r5 : Int32), (mq_C mq_X10_complexityNow [.ref 77] M4 (some (.int r5), M4)) ∧
      (∃ (r6 : Int32) (M6 : mz_M), (mq_C mq_X10_isNormalBase [.ref 77] M4 (some (.int r6), M6)) ∧
      (∀ M7 : mz_M, M7 = mz_wr M6 77 (upd (M6.1 77) 9 0) →
      (∃ (r8 : Int32), (mq_C mq_X10_weightNow [.ref 77] M7 (some (.int r8), M7)) ∧
      (∃ (M9 : mz_M), (mq_C mq_X10_tell [.ref 77, .long (r8.toInt64)] M7 (none, M9)) ∧
      ((r6 = 0 →
        mq_G mq_X10_complexity (64, [some (.ref 77), some (.int x1), some (.int r5), some (.int r6)], [.ref 77], M9) res) ∧
      (¬ (r6 = 0) →
        ((¬ r5 = ((2 * (M9.1 77 11)) - 1) →
          mq_G mq_X10_complexity (64, [some (.ref 77), some (.int x1), some (.int r5), some (.int r6)], [.ref 77], M9) res) ∧
        (¬ (¬ r5 = ((2 * (M9.1 77 11)) - 1)) →
          mq_G mq_X10_complexity (65, [some (.ref 77), some (.int x1), some (.int r5), some (.int r6)], [.long ((1 : Int32).toInt64), .ref 77], M9) res))))))))))) ∧
    (¬ (¬ r2 = 0) →
      res = (some (.int (-1)), M1)))))) :
    mq_G mq_X10_complexity (0, [some (.ref 77), some (.int x1), none, none], [], M) res := by
  obtain ⟨M1, e1⟩ : ∃ y, y = mz_wr M 77 (upd (M.1 77) 10 0) := ⟨_, rfl⟩
  replace h := h M1 e1
  refine mz_Go.steps (n := 3) (k2 := (5, [some (.ref 77), some (.int x1), none, none], [], (mz_wr M 77 (upd (M.1 77) 10 0)))) (P := []) rfl mz_o0 ?_
  rw [← e1]
  refine mz_Go.steps (n := 1) (k2 := (6, [some (.ref 77), some (.int x1), none, none], [.int x1], M1)) (P := []) rfl mz_o0 ?_
  obtain ⟨r2, k2, h⟩ := h
  refine mz_Go.callS (As := [.int x1]) (rest := []) (rfl : mz_find 6 (mz_rows mq_X10_complexity) = some (6, .invokestatic 244, 3, 158, 0, 215)) (rfl : mz_nth mq_tab 158 = some mq_X10_isSlot) (by decide) rfl rfl rfl (Nat.le_of_ble_eq_true rfl) (Nat.le_of_ble_eq_true rfl) k2 ?_
  show mq_G mq_X10_complexity (9, [some (.ref 77), some (.int x1), none, none], [.int r2], M1) res
  refine mz_Go.steps (n := 1) (k2 := (if ¬ r2 = 0 then 14 else 12, [some (.ref 77), some (.int x1), none, none], [], M1)) (P := []) rfl mz_o0 ?_
  refine mz_Go.ite (fun c9 => ?_) (fun c9 => ?_)
  · replace h := h.1 c9
    refine mz_Go.steps (n := 2) (k2 := (16, [some (.ref 77), some (.int x1), none, none], [.int x1, .ref 77], M1)) (P := []) rfl mz_o0 ?_
    obtain ⟨M4, k4, h⟩ := h
    refine mz_Go.callV (As := [.int x1]) (rest := []) (rfl : mz_find 16 (mz_rows mq_X10_complexity) = some (16, .invokevirtual 250, 3, 168, 0, 217)) (rfl : mz_nth mq_tab 168 = some mq_X10_looksAt) rfl rfl rfl rfl (Nat.le_of_ble_eq_true rfl) (Nat.le_of_ble_eq_true rfl) k4 ?_
    show mq_G mq_X10_complexity (19, [some (.ref 77), some (.int x1), none, none], [], M4) res
    refine mz_Go.steps (n := 1) (k2 := (20, [some (.ref 77), some (.int x1), none, none], [.ref 77], M4)) (P := []) rfl mz_o0 ?_
    obtain ⟨r5, k5, h⟩ := h
    refine mz_Go.callV (As := []) (rest := []) (rfl : mz_find 20 (mz_rows mq_X10_complexity) = some (20, .invokevirtual 142, 3, 169, 0, 178)) (rfl : mz_nth mq_tab 169 = some mq_X10_complexityNow) rfl rfl rfl rfl (Nat.le_of_ble_eq_true rfl) (Nat.le_of_ble_eq_true rfl) k5 ?_
    show mq_G mq_X10_complexity (23, [some (.ref 77), some (.int x1), none, none], [.int r5], M4) res
    refine mz_Go.steps (n := 2) (k2 := (25, [some (.ref 77), some (.int x1), some (.int r5), none], [.ref 77], M4)) (P := []) rfl mz_o0 ?_
    obtain ⟨r6, M6, k6, h⟩ := h
    refine mz_Go.callV (As := []) (rest := []) (rfl : mz_find 25 (mz_rows mq_X10_complexity) = some (25, .invokevirtual 262, 3, 171, 0, 221)) (rfl : mz_nth mq_tab 171 = some mq_X10_isNormalBase) rfl rfl rfl rfl (Nat.le_of_ble_eq_true rfl) (Nat.le_of_ble_eq_true rfl) k6 ?_
    show mq_G mq_X10_complexity (28, [some (.ref 77), some (.int x1), some (.int r5), none], [.int r6], M6) res
    obtain ⟨M7, e7⟩ : ∃ y, y = mz_wr M6 77 (upd (M6.1 77) 9 0) := ⟨_, rfl⟩
    replace h := h M7 e7
    refine mz_Go.steps (n := 4) (k2 := (34, [some (.ref 77), some (.int x1), some (.int r5), some (.int r6)], [], (mz_wr M6 77 (upd (M6.1 77) 9 0)))) (P := []) rfl mz_o0 ?_
    rw [← e7]
    refine mz_Go.steps (n := 2) (k2 := (36, [some (.ref 77), some (.int x1), some (.int r5), some (.int r6)], [.ref 77, .ref 77], M7)) (P := []) rfl mz_o0 ?_
    obtain ⟨r8, k8, h⟩ := h
    refine mz_Go.callV (As := []) (rest := [.ref 77]) (rfl : mz_find 36 (mz_rows mq_X10_complexity) = some (36, .invokevirtual 232, 3, 170, 0, 211)) (rfl : mz_nth mq_tab 170 = some mq_X10_weightNow) rfl rfl rfl rfl (Nat.le_of_ble_eq_true rfl) (Nat.le_of_ble_eq_true rfl) k8 ?_
    show mq_G mq_X10_complexity (39, [some (.ref 77), some (.int x1), some (.int r5), some (.int r6)], [.int r8, .ref 77], M7) res
    refine mz_Go.steps (n := 1) (k2 := (40, [some (.ref 77), some (.int x1), some (.int r5), some (.int r6)], [.long (r8.toInt64), .ref 77], M7)) (P := []) rfl mz_o0 ?_
    obtain ⟨M9, k9, h⟩ := h
    refine mz_Go.callV (As := [.long (r8.toInt64)]) (rest := []) (rfl : mz_find 40 (mz_rows mq_X10_complexity) = some (40, .invokevirtual 194, 3, 135, 0, 198)) (rfl : mz_nth mq_tab 135 = some mq_X10_tell) rfl rfl rfl rfl (Nat.le_of_ble_eq_true rfl) (Nat.le_of_ble_eq_true rfl) k9 ?_
    show mq_G mq_X10_complexity (43, [some (.ref 77), some (.int x1), some (.int r5), some (.int r6)], [], M9) res
    refine mz_Go.steps (n := 3) (k2 := (if r6 = 0 then 64 else 48, [some (.ref 77), some (.int x1), some (.int r5), some (.int r6)], [.ref 77], M9)) (P := []) rfl mz_o0 ?_
    refine mz_Go.ite (fun c45 => ?_) (fun c45 => ?_)
    · replace h := h.1 c45
      exact h
    · replace h := h.2 c45
      refine mz_Go.steps (n := 8) (k2 := (if ¬ r5 = ((2 * (M9.1 77 11)) - 1) then 64 else 60, [some (.ref 77), some (.int x1), some (.int r5), some (.int r6)], [.ref 77], M9)) (P := []) rfl mz_o0 ?_
      refine mz_Go.ite (fun c57 => ?_) (fun c57 => ?_)
      · replace h := h.1 c57
        exact h
      · replace h := h.2 c57
        refine mz_Go.steps (n := 2) (k2 := (65, [some (.ref 77), some (.int x1), some (.int r5), some (.int r6)], [.long ((1 : Int32).toInt64), .ref 77], M9)) (P := []) rfl mz_o0 ?_
        exact h
  · replace h := h.2 c9
    refine mz_Go.steps (n := 1) (k2 := (13, [some (.ref 77), some (.int x1), none, none], [.int (-1)], M1)) (P := []) rfl mz_o0 ?_
    rw [h]
    exact mz_Go.iret (rfl : mz_find 13 (mz_rows mq_X10_complexity) = some (13, .ireturn, 1, 0, 0, 0)) rfl
set_option maxRecDepth 100000 in
set_option maxHeartbeats 4000000 in
theorem t_X10_complexity_64 (o1 : Option Value) (x2 : Int32) (x3 : Int32) (M : mz_M) {res : mz_O} (h :
    mq_G mq_X10_complexity (65, [some (.ref 77), o1, some (.int x2), some (.int x3)], [.long ((0 : Int32).toInt64), .ref 77], M) res) :
    mq_G mq_X10_complexity (64, [some (.ref 77), o1, some (.int x2), some (.int x3)], [.ref 77], M) res := by
  refine mz_Go.steps (n := 1) (k2 := (65, [some (.ref 77), o1, some (.int x2), some (.int x3)], [.long ((0 : Int32).toInt64), .ref 77], M)) (P := []) rfl mz_o0 ?_
  exact h
set_option maxRecDepth 100000 in
set_option maxHeartbeats 4000000 in
theorem t_X10_complexity_65 (o1 : Option Value) (x2 : Int32) (x3 : Int32) (s1 : Int64) (M : mz_M) {res : mz_O} (h :
    (∃ (M1 : mz_M), (mq_C mq_X10_tell [.ref 77, .long s1] M (none, M1)) ∧
    ((x3 = 0 →
      mq_G mq_X10_complexity (86, [some (.ref 77), o1, some (.int x2), some (.int x3)], [.long (((-1) : Int32).toInt64), .ref 77], M1) res) ∧
    (¬ (x3 = 0) →
      (vp_in 0 8) ∧
      mq_G mq_X10_complexity (86, [some (.ref 77), o1, some (.int x2), some (.int x3)], [.long ((M1.1 87 (0 : Int32).toNatClampNeg).toInt64), .ref 77], M1) res)))) :
    mq_G mq_X10_complexity (65, [some (.ref 77), o1, some (.int x2), some (.int x3)], [.long s1, .ref 77], M) res := by
  obtain ⟨M1, k1, h⟩ := h
  refine mz_Go.callV (As := [.long s1]) (rest := []) (rfl : mz_find 65 (mz_rows mq_X10_complexity) = some (65, .invokevirtual 194, 3, 135, 0, 198)) (rfl : mz_nth mq_tab 135 = some mq_X10_tell) rfl rfl rfl rfl (Nat.le_of_ble_eq_true rfl) (Nat.le_of_ble_eq_true rfl) k1 ?_
  show mq_G mq_X10_complexity (68, [some (.ref 77), o1, some (.int x2), some (.int x3)], [], M1) res
  refine mz_Go.steps (n := 3) (k2 := (if x3 = 0 then 83 else 73, [some (.ref 77), o1, some (.int x2), some (.int x3)], [.ref 77], M1)) (P := []) rfl mz_o0 ?_
  refine mz_Go.ite (fun c70 => ?_) (fun c70 => ?_)
  · replace h := h.1 c70
    refine mz_Go.steps (n := 1) (k2 := (86, [some (.ref 77), o1, some (.int x2), some (.int x3)], [.long (((-1) : Int32).toInt64), .ref 77], M1)) (P := []) rfl mz_o0 ?_
    exact h
  · replace h := h.2 c70
    obtain ⟨q3, h⟩ := h
    refine mz_Go.steps (n := 6) (k2 := (86, [some (.ref 77), o1, some (.int x2), some (.int x3)], [.long ((M1.1 87 (0 : Int32).toNatClampNeg).toInt64), .ref 77], M1)) (P := [vp_in 0 8]) rfl (mz_o1 q3) ?_
    exact h
set_option maxRecDepth 100000 in
set_option maxHeartbeats 4000000 in
theorem t_X10_complexity_86 (o0 : Option Value) (o1 : Option Value) (x2 : Int32) (o3 : Option Value) (s1 : Int64) (M : mz_M) {res : mz_O} (h :
    (∃ (M1 : mz_M), (mq_C mq_X10_tell [.ref 77, .long s1] M (none, M1)) ∧
    res = (some (.int x2), M1))) :
    mq_G mq_X10_complexity (86, [o0, o1, some (.int x2), o3], [.long s1, .ref 77], M) res := by
  obtain ⟨M1, k1, h⟩ := h
  refine mz_Go.callV (As := [.long s1]) (rest := []) (rfl : mz_find 86 (mz_rows mq_X10_complexity) = some (86, .invokevirtual 194, 3, 135, 0, 198)) (rfl : mz_nth mq_tab 135 = some mq_X10_tell) rfl rfl rfl rfl (Nat.le_of_ble_eq_true rfl) (Nat.le_of_ble_eq_true rfl) k1 ?_
  show mq_G mq_X10_complexity (89, [o0, o1, some (.int x2), o3], [], M1) res
  refine mz_Go.steps (n := 1) (k2 := (90, [o0, o1, some (.int x2), o3], [.int x2], M1)) (P := []) rfl mz_o0 ?_
  rw [h]
  exact mz_Go.iret (rfl : mz_find 90 (mz_rows mq_X10_complexity) = some (90, .ireturn, 1, 0, 0, 0)) rfl
set_option maxRecDepth 100000 in
set_option maxHeartbeats 4000000 in
theorem t_X10_by_0 (x1 : Int32) (x2 : Int32) (M : mz_M) {res : mz_O} (h :
    (∀ M1 : mz_M, M1 = mz_wr M 77 (upd (M.1 77) 10 0) →
    (∃ (r2 : Int32), (mq_C mq_X10_isSlot [.int x1] M1 (some (.int r2), M1)) ∧
    ((r2 = 0 →
      res = (some (.int (-1)), M1)) ∧
    (¬ (r2 = 0) →
      (∃ (r4 : Int32), (mq_C mq_X10_isElement [.ref 77, .int x2] M1 (some (.int r4), M1)) ∧
      ((¬ r4 = 0 →
        (∃ (M6 : mz_M), (mq_C mq_X10_looksAt [.ref 77, .int x1] M1 (none, M6)) ∧
        (∀ M7 : mz_M, M7 = mz_wr M6 77 (upd (M6.1 77) 9 0) →
        mq_G mq_X10_by (40, [some (.ref 77), some (.int x1), some (.int x2), some (.int 0), some (.int 0), some (.int 0), none], [], M7) res))) ∧
      (¬ (¬ r4 = 0) →
        res = (some (.int (-1)), M1))))))))) :
    mq_G mq_X10_by (0, [some (.ref 77), some (.int x1), some (.int x2), none, none, none, none], [], M) res := by
  obtain ⟨M1, e1⟩ : ∃ y, y = mz_wr M 77 (upd (M.1 77) 10 0) := ⟨_, rfl⟩
  replace h := h M1 e1
  refine mz_Go.steps (n := 3) (k2 := (5, [some (.ref 77), some (.int x1), some (.int x2), none, none, none, none], [], (mz_wr M 77 (upd (M.1 77) 10 0)))) (P := []) rfl mz_o0 ?_
  rw [← e1]
  refine mz_Go.steps (n := 1) (k2 := (6, [some (.ref 77), some (.int x1), some (.int x2), none, none, none, none], [.int x1], M1)) (P := []) rfl mz_o0 ?_
  obtain ⟨r2, k2, h⟩ := h
  refine mz_Go.callS (As := [.int x1]) (rest := []) (rfl : mz_find 6 (mz_rows mq_X10_by) = some (6, .invokestatic 244, 3, 158, 0, 215)) (rfl : mz_nth mq_tab 158 = some mq_X10_isSlot) (by decide) rfl rfl rfl (Nat.le_of_ble_eq_true rfl) (Nat.le_of_ble_eq_true rfl) k2 ?_
  show mq_G mq_X10_by (9, [some (.ref 77), some (.int x1), some (.int x2), none, none, none, none], [.int r2], M1) res
  refine mz_Go.steps (n := 1) (k2 := (if r2 = 0 then 20 else 12, [some (.ref 77), some (.int x1), some (.int x2), none, none, none, none], [], M1)) (P := []) rfl mz_o0 ?_
  refine mz_Go.ite (fun c9 => ?_) (fun c9 => ?_)
  · replace h := h.1 c9
    refine mz_Go.steps (n := 1) (k2 := (21, [some (.ref 77), some (.int x1), some (.int x2), none, none, none, none], [.int (-1)], M1)) (P := []) rfl mz_o0 ?_
    rw [h]
    exact mz_Go.iret (rfl : mz_find 21 (mz_rows mq_X10_by) = some (21, .ireturn, 1, 0, 0, 0)) rfl
  · replace h := h.2 c9
    refine mz_Go.steps (n := 2) (k2 := (14, [some (.ref 77), some (.int x1), some (.int x2), none, none, none, none], [.int x2, .ref 77], M1)) (P := []) rfl mz_o0 ?_
    obtain ⟨r4, k4, h⟩ := h
    refine mz_Go.callV (As := [.int x2]) (rest := []) (rfl : mz_find 14 (mz_rows mq_X10_by) = some (14, .invokevirtual 183, 3, 156, 0, 194)) (rfl : mz_nth mq_tab 156 = some mq_X10_isElement) rfl rfl rfl rfl (Nat.le_of_ble_eq_true rfl) (Nat.le_of_ble_eq_true rfl) k4 ?_
    show mq_G mq_X10_by (17, [some (.ref 77), some (.int x1), some (.int x2), none, none, none, none], [.int r4], M1) res
    refine mz_Go.steps (n := 1) (k2 := (if ¬ r4 = 0 then 22 else 20, [some (.ref 77), some (.int x1), some (.int x2), none, none, none, none], [], M1)) (P := []) rfl mz_o0 ?_
    refine mz_Go.ite (fun c17 => ?_) (fun c17 => ?_)
    · replace h := h.1 c17
      refine mz_Go.steps (n := 2) (k2 := (24, [some (.ref 77), some (.int x1), some (.int x2), none, none, none, none], [.int x1, .ref 77], M1)) (P := []) rfl mz_o0 ?_
      obtain ⟨M6, k6, h⟩ := h
      refine mz_Go.callV (As := [.int x1]) (rest := []) (rfl : mz_find 24 (mz_rows mq_X10_by) = some (24, .invokevirtual 250, 3, 168, 0, 217)) (rfl : mz_nth mq_tab 168 = some mq_X10_looksAt) rfl rfl rfl rfl (Nat.le_of_ble_eq_true rfl) (Nat.le_of_ble_eq_true rfl) k6 ?_
      show mq_G mq_X10_by (27, [some (.ref 77), some (.int x1), some (.int x2), none, none, none, none], [], M6) res
      obtain ⟨M7, e7⟩ : ∃ y, y = mz_wr M6 77 (upd (M6.1 77) 9 0) := ⟨_, rfl⟩
      replace h := h M7 e7
      refine mz_Go.steps (n := 7) (k2 := (37, [some (.ref 77), some (.int x1), some (.int x2), some (.int 0), some (.int 0), none, none], [], (mz_wr M6 77 (upd (M6.1 77) 9 0)))) (P := []) rfl mz_o0 ?_
      rw [← e7]
      refine mz_Go.steps (n := 2) (k2 := (40, [some (.ref 77), some (.int x1), some (.int x2), some (.int 0), some (.int 0), some (.int 0), none], [], M7)) (P := []) rfl mz_o0 ?_
      exact h
    · replace h := h.2 c17
      refine mz_Go.steps (n := 1) (k2 := (21, [some (.ref 77), some (.int x1), some (.int x2), none, none, none, none], [.int (-1)], M1)) (P := []) rfl mz_o0 ?_
      rw [h]
      exact mz_Go.iret (rfl : mz_find 21 (mz_rows mq_X10_by) = some (21, .ireturn, 1, 0, 0, 0)) rfl
set_option maxRecDepth 100000 in
set_option maxHeartbeats 4000000 in
theorem t_X10_by_40 (o1 : Option Value) (x2 : Int32) (x3 : Int32) (x4 : Int32) (x5 : Int32) (o6 : Option Value) (M : mz_M) {res : mz_O} (h :
    (((M.1 77 11) ≤ x5 →
      (∃ (M2 : mz_M), (mq_C mq_X10_tell [.ref 77, .long (x4.toInt64)] M (none, M2)) ∧
      res = (some (.int x3), M2))) ∧
    (¬ ((M.1 77 11) ≤ x5) →
      (vp_in x5 8) ∧
      (∃ (r4 : Int32), (mq_C mq_X10_times [.ref 77, .int x2, .int (M.1 87 x5.toNatClampNeg)] M (some (.int r4), M)) ∧
      (∃ (r5 : Int32) (M5 : mz_M), (mq_C mq_X10_tellsCoordinates [.ref 77, .int r4] M (some (.int r5), M5)) ∧
      (vp_in r4 256) ∧
      mq_G mq_X10_by (40, [some (.ref 77), o1, some (.int x2), some (.int (x3 + r5)), some (.int (x4 + (((M5.1 88 r4.toNatClampNeg) >>> (x5 &&& 31)) &&& 1))), some (.int (x5 + 1)), some (.int r4)], [], M5) res))))) :
    mq_G mq_X10_by (40, [some (.ref 77), o1, some (.int x2), some (.int x3), some (.int x4), some (.int x5), o6], [], M) res := by
  refine mz_Go.steps (n := 4) (k2 := (if (M.1 77 11) ≤ x5 then 95 else 49, [some (.ref 77), o1, some (.int x2), some (.int x3), some (.int x4), some (.int x5), o6], [], M)) (P := []) rfl mz_o0 ?_
  refine mz_Go.ite (fun c46 => ?_) (fun c46 => ?_)
  · replace h := h.1 c46
    refine mz_Go.steps (n := 3) (k2 := (99, [some (.ref 77), o1, some (.int x2), some (.int x3), some (.int x4), some (.int x5), o6], [.long (x4.toInt64), .ref 77], M)) (P := []) rfl mz_o0 ?_
    obtain ⟨M2, k2, h⟩ := h
    refine mz_Go.callV (As := [.long (x4.toInt64)]) (rest := []) (rfl : mz_find 99 (mz_rows mq_X10_by) = some (99, .invokevirtual 194, 3, 135, 0, 198)) (rfl : mz_nth mq_tab 135 = some mq_X10_tell) rfl rfl rfl rfl (Nat.le_of_ble_eq_true rfl) (Nat.le_of_ble_eq_true rfl) k2 ?_
    show mq_G mq_X10_by (102, [some (.ref 77), o1, some (.int x2), some (.int x3), some (.int x4), some (.int x5), o6], [], M2) res
    refine mz_Go.steps (n := 1) (k2 := (103, [some (.ref 77), o1, some (.int x2), some (.int x3), some (.int x4), some (.int x5), o6], [.int x3], M2)) (P := []) rfl mz_o0 ?_
    rw [h]
    exact mz_Go.iret (rfl : mz_find 103 (mz_rows mq_X10_by) = some (103, .ireturn, 1, 0, 0, 0)) rfl
  · replace h := h.2 c46
    obtain ⟨q3, h⟩ := h
    refine mz_Go.steps (n := 6) (k2 := (58, [some (.ref 77), o1, some (.int x2), some (.int x3), some (.int x4), some (.int x5), o6], [.int (M.1 87 x5.toNatClampNeg), .int x2, .ref 77], M)) (P := [vp_in x5 8]) rfl (mz_o1 q3) ?_
    obtain ⟨r4, k4, h⟩ := h
    refine mz_Go.callV (As := [.int x2, .int (M.1 87 x5.toNatClampNeg)]) (rest := []) (rfl : mz_find 58 (mz_rows mq_X10_by) = some (58, .invokevirtual 92, 3, 147, 0, 156)) (rfl : mz_nth mq_tab 147 = some mq_X10_times) rfl rfl rfl rfl (Nat.le_of_ble_eq_true rfl) (Nat.le_of_ble_eq_true rfl) k4 ?_
    show mq_G mq_X10_by (61, [some (.ref 77), o1, some (.int x2), some (.int x3), some (.int x4), some (.int x5), o6], [.int r4], M) res
    refine mz_Go.steps (n := 4) (k2 := (67, [some (.ref 77), o1, some (.int x2), some (.int x3), some (.int x4), some (.int x5), some (.int r4)], [.int r4, .ref 77, .int x3], M)) (P := []) rfl mz_o0 ?_
    obtain ⟨r5, M5, k5, h⟩ := h
    refine mz_Go.callV (As := [.int r4]) (rest := [.int x3]) (rfl : mz_find 67 (mz_rows mq_X10_by) = some (67, .invokevirtual 259, 3, 222, 0, 220)) (rfl : mz_nth mq_tab 222 = some mq_X10_tellsCoordinates) rfl rfl rfl rfl (Nat.le_of_ble_eq_true rfl) (Nat.le_of_ble_eq_true rfl) k5 ?_
    show mq_G mq_X10_by (70, [some (.ref 77), o1, some (.int x2), some (.int x3), some (.int x4), some (.int x5), some (.int r4)], [.int r5, .int x3], M5) res
    obtain ⟨q6, h⟩ := h
    refine mz_Go.steps (n := 15) (k2 := (40, [some (.ref 77), o1, some (.int x2), some (.int (x3 + r5)), some (.int (x4 + (((M5.1 88 r4.toNatClampNeg) >>> (x5 &&& 31)) &&& 1))), some (.int (x5 + 1)), some (.int r4)], [], M5)) (P := [vp_in r4 256]) rfl (mz_o1 q6) ?_
    exact h
set_option maxRecDepth 100000 in
set_option maxHeartbeats 4000000 in
theorem t_X10_squares_0 (x1 : Int32) (M : mz_M) {res : mz_O} (h :
    (∀ M1 : mz_M, M1 = mz_wr M 77 (upd (M.1 77) 10 0) →
    (∃ (r2 : Int32), (mq_C mq_X10_isSlot [.int x1] M1 (some (.int r2), M1)) ∧
    ((¬ r2 = 0 →
      (∃ (M4 : mz_M), (mq_C mq_X10_looksAt [.ref 77, .int x1] M1 (none, M4)) ∧
      (∀ M5 : mz_M, M5 = mz_wr M4 77 (upd (M4.1 77) 9 0) →
      mq_G mq_X10_squares (28, [some (.ref 77), some (.int x1), some (.int 0), some (.int 0)], [], M5) res))) ∧
    (¬ (¬ r2 = 0) →
      res = (some (.int (-1)), M1)))))) :
    mq_G mq_X10_squares (0, [some (.ref 77), some (.int x1), none, none], [], M) res := by
  obtain ⟨M1, e1⟩ : ∃ y, y = mz_wr M 77 (upd (M.1 77) 10 0) := ⟨_, rfl⟩
  replace h := h M1 e1
  refine mz_Go.steps (n := 3) (k2 := (5, [some (.ref 77), some (.int x1), none, none], [], (mz_wr M 77 (upd (M.1 77) 10 0)))) (P := []) rfl mz_o0 ?_
  rw [← e1]
  refine mz_Go.steps (n := 1) (k2 := (6, [some (.ref 77), some (.int x1), none, none], [.int x1], M1)) (P := []) rfl mz_o0 ?_
  obtain ⟨r2, k2, h⟩ := h
  refine mz_Go.callS (As := [.int x1]) (rest := []) (rfl : mz_find 6 (mz_rows mq_X10_squares) = some (6, .invokestatic 244, 3, 158, 0, 215)) (rfl : mz_nth mq_tab 158 = some mq_X10_isSlot) (by decide) rfl rfl rfl (Nat.le_of_ble_eq_true rfl) (Nat.le_of_ble_eq_true rfl) k2 ?_
  show mq_G mq_X10_squares (9, [some (.ref 77), some (.int x1), none, none], [.int r2], M1) res
  refine mz_Go.steps (n := 1) (k2 := (if ¬ r2 = 0 then 14 else 12, [some (.ref 77), some (.int x1), none, none], [], M1)) (P := []) rfl mz_o0 ?_
  refine mz_Go.ite (fun c9 => ?_) (fun c9 => ?_)
  · replace h := h.1 c9
    refine mz_Go.steps (n := 2) (k2 := (16, [some (.ref 77), some (.int x1), none, none], [.int x1, .ref 77], M1)) (P := []) rfl mz_o0 ?_
    obtain ⟨M4, k4, h⟩ := h
    refine mz_Go.callV (As := [.int x1]) (rest := []) (rfl : mz_find 16 (mz_rows mq_X10_squares) = some (16, .invokevirtual 250, 3, 168, 0, 217)) (rfl : mz_nth mq_tab 168 = some mq_X10_looksAt) rfl rfl rfl rfl (Nat.le_of_ble_eq_true rfl) (Nat.le_of_ble_eq_true rfl) k4 ?_
    show mq_G mq_X10_squares (19, [some (.ref 77), some (.int x1), none, none], [], M4) res
    obtain ⟨M5, e5⟩ : ∃ y, y = mz_wr M4 77 (upd (M4.1 77) 9 0) := ⟨_, rfl⟩
    replace h := h M5 e5
    refine mz_Go.steps (n := 5) (k2 := (26, [some (.ref 77), some (.int x1), some (.int 0), none], [], (mz_wr M4 77 (upd (M4.1 77) 9 0)))) (P := []) rfl mz_o0 ?_
    rw [← e5]
    refine mz_Go.steps (n := 2) (k2 := (28, [some (.ref 77), some (.int x1), some (.int 0), some (.int 0)], [], M5)) (P := []) rfl mz_o0 ?_
    exact h
  · replace h := h.2 c9
    refine mz_Go.steps (n := 1) (k2 := (13, [some (.ref 77), some (.int x1), none, none], [.int (-1)], M1)) (P := []) rfl mz_o0 ?_
    rw [h]
    exact mz_Go.iret (rfl : mz_find 13 (mz_rows mq_X10_squares) = some (13, .ireturn, 1, 0, 0, 0)) rfl
set_option maxRecDepth 100000 in
set_option maxHeartbeats 4000000 in
theorem t_X10_squares_28 (o1 : Option Value) (x2 : Int32) (x3 : Int32) (M : mz_M) {res : mz_O} (h :
    (((M.1 77 11) ≤ x3 →
      res = (some (.int x2), M)) ∧
    (¬ ((M.1 77 11) ≤ x3) →
      (vp_in x3 8) ∧
      (vp_in x3 8) ∧
      (∃ (r4 : Int32), (mq_C mq_X10_times [.ref 77, .int (M.1 87 x3.toNatClampNeg), .int (M.1 87 x3.toNatClampNeg)] M (some (.int r4), M)) ∧
      (∃ (r5 : Int32) (M5 : mz_M), (mq_C mq_X10_tellsCoordinates [.ref 77, .int r4] M (some (.int r5), M5)) ∧
      mq_G mq_X10_squares (28, [some (.ref 77), (mz_nw o1), some (.int (x2 + r5)), some (.int (x3 + 1))], [], M5) res))))) :
    mq_G mq_X10_squares (28, [some (.ref 77), o1, some (.int x2), some (.int x3)], [], M) res := by
  refine mz_Go.steps (n := 4) (k2 := (if (M.1 77 11) ≤ x3 then 65 else 36, [some (.ref 77), o1, some (.int x2), some (.int x3)], [], M)) (P := []) rfl mz_o0 ?_
  refine mz_Go.ite (fun c33 => ?_) (fun c33 => ?_)
  · replace h := h.1 c33
    refine mz_Go.steps (n := 1) (k2 := (66, [some (.ref 77), o1, some (.int x2), some (.int x3)], [.int x2], M)) (P := []) rfl mz_o0 ?_
    rw [h]
    exact mz_Go.iret (rfl : mz_find 66 (mz_rows mq_X10_squares) = some (66, .ireturn, 1, 0, 0, 0)) rfl
  · replace h := h.2 c33
    obtain ⟨q2, q3, h⟩ := h
    refine mz_Go.steps (n := 11) (k2 := (51, [some (.ref 77), o1, some (.int x2), some (.int x3)], [.int (M.1 87 x3.toNatClampNeg), .int (M.1 87 x3.toNatClampNeg), .ref 77, .ref 77, .int x2], M)) (P := [vp_in x3 8, vp_in x3 8]) rfl (mz_o2 q2 q3) ?_
    obtain ⟨r4, k4, h⟩ := h
    refine mz_Go.callV (As := [.int (M.1 87 x3.toNatClampNeg), .int (M.1 87 x3.toNatClampNeg)]) (rest := [.ref 77, .int x2]) (rfl : mz_find 51 (mz_rows mq_X10_squares) = some (51, .invokevirtual 92, 3, 147, 0, 156)) (rfl : mz_nth mq_tab 147 = some mq_X10_times) rfl rfl rfl rfl (Nat.le_of_ble_eq_true rfl) (Nat.le_of_ble_eq_true rfl) k4 ?_
    show mq_G mq_X10_squares (54, [some (.ref 77), o1, some (.int x2), some (.int x3)], [.int r4, .ref 77, .int x2], M) res
    obtain ⟨r5, M5, k5, h⟩ := h
    refine mz_Go.callV (As := [.int r4]) (rest := [.int x2]) (rfl : mz_find 54 (mz_rows mq_X10_squares) = some (54, .invokevirtual 259, 3, 222, 0, 220)) (rfl : mz_nth mq_tab 222 = some mq_X10_tellsCoordinates) rfl rfl rfl rfl (Nat.le_of_ble_eq_true rfl) (Nat.le_of_ble_eq_true rfl) k5 ?_
    show mq_G mq_X10_squares (57, [some (.ref 77), o1, some (.int x2), some (.int x3)], [.int r5, .int x2], M5) res
    refine mz_Go.steps (n := 4) (k2 := (28, [some (.ref 77), (mz_nw o1), some (.int (x2 + r5)), some (.int (x3 + 1))], [], M5)) (P := []) rfl mz_o0 ?_
    exact h
set_option maxRecDepth 100000 in
set_option maxHeartbeats 4000000 in
theorem t_X10_productIn_0 (x1 : Int32) (x2 : Int32) (x3 : Int32) (M : mz_M) {res : mz_O} (h :
    (∀ M1 : mz_M, M1 = mz_wr M 77 (upd (M.1 77) 10 0) →
    (∃ (r2 : Int32), (mq_C mq_X10_isSlot [.int x1] M1 (some (.int r2), M1)) ∧
    ((r2 = 0 →
      res = (some (.int (-1)), M1)) ∧
    (¬ (r2 = 0) →
      (∃ (r4 : Int32), (mq_C mq_X10_isElement [.ref 77, .int x2] M1 (some (.int r4), M1)) ∧
      ((r4 = 0 →
        res = (some (.int (-1)), M1)) ∧
      (¬ (r4 = 0) →
        (∃ (r6 : Int32), (mq_C mq_X10_isElement [.ref 77, .int x3] M1 (some (.int r6), M1)) ∧
        ((¬ r6 = 0 →
          (∃ (M8 : mz_M), (mq_C mq_X10_looksAt [.ref 77, .int x1] M1 (none, M8)) ∧
          (∃ (r9 : Int32), (mq_C mq_X10_madeOf [.ref 77, .int x2] M8 (some (.int r9), M8)) ∧
          (∃ (r10 : Int32), (mq_C mq_X10_madeOf [.ref 77, .int x3] M8 (some (.int r10), M8)) ∧
          (∃ (r11 : Int32), (mq_C mq_X10_times [.ref 77, .int r9, .int r10] M8 (some (.int r11), M8)) ∧
          (vp_in r11 256) ∧
          res = (some (.int (M8.1 88 r11.toNatClampNeg)), M8)))))) ∧
        (¬ (¬ r6 = 0) →
          res = (some (.int (-1)), M1)))))))))))) :
    mq_G mq_X10_productIn (0, [some (.ref 77), some (.int x1), some (.int x2), some (.int x3)], [], M) res := by
  obtain ⟨M1, e1⟩ : ∃ y, y = mz_wr M 77 (upd (M.1 77) 10 0) := ⟨_, rfl⟩
  replace h := h M1 e1
  refine mz_Go.steps (n := 3) (k2 := (5, [some (.ref 77), some (.int x1), some (.int x2), some (.int x3)], [], (mz_wr M 77 (upd (M.1 77) 10 0)))) (P := []) rfl mz_o0 ?_
  rw [← e1]
  refine mz_Go.steps (n := 1) (k2 := (6, [some (.ref 77), some (.int x1), some (.int x2), some (.int x3)], [.int x1], M1)) (P := []) rfl mz_o0 ?_
  obtain ⟨r2, k2, h⟩ := h
  refine mz_Go.callS (As := [.int x1]) (rest := []) (rfl : mz_find 6 (mz_rows mq_X10_productIn) = some (6, .invokestatic 244, 3, 158, 0, 215)) (rfl : mz_nth mq_tab 158 = some mq_X10_isSlot) (by decide) rfl rfl rfl (Nat.le_of_ble_eq_true rfl) (Nat.le_of_ble_eq_true rfl) k2 ?_
  show mq_G mq_X10_productIn (9, [some (.ref 77), some (.int x1), some (.int x2), some (.int x3)], [.int r2], M1) res
  refine mz_Go.steps (n := 1) (k2 := (if r2 = 0 then 28 else 12, [some (.ref 77), some (.int x1), some (.int x2), some (.int x3)], [], M1)) (P := []) rfl mz_o0 ?_
  refine mz_Go.ite (fun c9 => ?_) (fun c9 => ?_)
  · replace h := h.1 c9
    refine mz_Go.steps (n := 1) (k2 := (29, [some (.ref 77), some (.int x1), some (.int x2), some (.int x3)], [.int (-1)], M1)) (P := []) rfl mz_o0 ?_
    rw [h]
    exact mz_Go.iret (rfl : mz_find 29 (mz_rows mq_X10_productIn) = some (29, .ireturn, 1, 0, 0, 0)) rfl
  · replace h := h.2 c9
    refine mz_Go.steps (n := 2) (k2 := (14, [some (.ref 77), some (.int x1), some (.int x2), some (.int x3)], [.int x2, .ref 77], M1)) (P := []) rfl mz_o0 ?_
    obtain ⟨r4, k4, h⟩ := h
    refine mz_Go.callV (As := [.int x2]) (rest := []) (rfl : mz_find 14 (mz_rows mq_X10_productIn) = some (14, .invokevirtual 183, 3, 156, 0, 194)) (rfl : mz_nth mq_tab 156 = some mq_X10_isElement) rfl rfl rfl rfl (Nat.le_of_ble_eq_true rfl) (Nat.le_of_ble_eq_true rfl) k4 ?_
    show mq_G mq_X10_productIn (17, [some (.ref 77), some (.int x1), some (.int x2), some (.int x3)], [.int r4], M1) res
    refine mz_Go.steps (n := 1) (k2 := (if r4 = 0 then 28 else 20, [some (.ref 77), some (.int x1), some (.int x2), some (.int x3)], [], M1)) (P := []) rfl mz_o0 ?_
    refine mz_Go.ite (fun c17 => ?_) (fun c17 => ?_)
    · replace h := h.1 c17
      refine mz_Go.steps (n := 1) (k2 := (29, [some (.ref 77), some (.int x1), some (.int x2), some (.int x3)], [.int (-1)], M1)) (P := []) rfl mz_o0 ?_
      rw [h]
      exact mz_Go.iret (rfl : mz_find 29 (mz_rows mq_X10_productIn) = some (29, .ireturn, 1, 0, 0, 0)) rfl
    · replace h := h.2 c17
      refine mz_Go.steps (n := 2) (k2 := (22, [some (.ref 77), some (.int x1), some (.int x2), some (.int x3)], [.int x3, .ref 77], M1)) (P := []) rfl mz_o0 ?_
      obtain ⟨r6, k6, h⟩ := h
      refine mz_Go.callV (As := [.int x3]) (rest := []) (rfl : mz_find 22 (mz_rows mq_X10_productIn) = some (22, .invokevirtual 183, 3, 156, 0, 194)) (rfl : mz_nth mq_tab 156 = some mq_X10_isElement) rfl rfl rfl rfl (Nat.le_of_ble_eq_true rfl) (Nat.le_of_ble_eq_true rfl) k6 ?_
      show mq_G mq_X10_productIn (25, [some (.ref 77), some (.int x1), some (.int x2), some (.int x3)], [.int r6], M1) res
      refine mz_Go.steps (n := 1) (k2 := (if ¬ r6 = 0 then 30 else 28, [some (.ref 77), some (.int x1), some (.int x2), some (.int x3)], [], M1)) (P := []) rfl mz_o0 ?_
      refine mz_Go.ite (fun c25 => ?_) (fun c25 => ?_)
      · replace h := h.1 c25
        refine mz_Go.steps (n := 2) (k2 := (32, [some (.ref 77), some (.int x1), some (.int x2), some (.int x3)], [.int x1, .ref 77], M1)) (P := []) rfl mz_o0 ?_
        obtain ⟨M8, k8, h⟩ := h
        refine mz_Go.callV (As := [.int x1]) (rest := []) (rfl : mz_find 32 (mz_rows mq_X10_productIn) = some (32, .invokevirtual 250, 3, 168, 0, 217)) (rfl : mz_nth mq_tab 168 = some mq_X10_looksAt) rfl rfl rfl rfl (Nat.le_of_ble_eq_true rfl) (Nat.le_of_ble_eq_true rfl) k8 ?_
        show mq_G mq_X10_productIn (35, [some (.ref 77), some (.int x1), some (.int x2), some (.int x3)], [], M8) res
        refine mz_Go.steps (n := 5) (k2 := (42, [some (.ref 77), some (.int x1), some (.int x2), some (.int x3)], [.int x2, .ref 77, .ref 77, .ref 88], M8)) (P := []) rfl mz_o0 ?_
        obtain ⟨r9, k9, h⟩ := h
        refine mz_Go.callV (As := [.int x2]) (rest := [.ref 77, .ref 88]) (rfl : mz_find 42 (mz_rows mq_X10_productIn) = some (42, .invokevirtual 120, 3, 165, 0, 170)) (rfl : mz_nth mq_tab 165 = some mq_X10_madeOf) rfl rfl rfl rfl (Nat.le_of_ble_eq_true rfl) (Nat.le_of_ble_eq_true rfl) k9 ?_
        show mq_G mq_X10_productIn (45, [some (.ref 77), some (.int x1), some (.int x2), some (.int x3)], [.int r9, .ref 77, .ref 88], M8) res
        refine mz_Go.steps (n := 2) (k2 := (47, [some (.ref 77), some (.int x1), some (.int x2), some (.int x3)], [.int x3, .ref 77, .int r9, .ref 77, .ref 88], M8)) (P := []) rfl mz_o0 ?_
        obtain ⟨r10, k10, h⟩ := h
        refine mz_Go.callV (As := [.int x3]) (rest := [.int r9, .ref 77, .ref 88]) (rfl : mz_find 47 (mz_rows mq_X10_productIn) = some (47, .invokevirtual 120, 3, 165, 0, 170)) (rfl : mz_nth mq_tab 165 = some mq_X10_madeOf) rfl rfl rfl rfl (Nat.le_of_ble_eq_true rfl) (Nat.le_of_ble_eq_true rfl) k10 ?_
        show mq_G mq_X10_productIn (50, [some (.ref 77), some (.int x1), some (.int x2), some (.int x3)], [.int r10, .int r9, .ref 77, .ref 88], M8) res
        obtain ⟨r11, k11, h⟩ := h
        refine mz_Go.callV (As := [.int r9, .int r10]) (rest := [.ref 88]) (rfl : mz_find 50 (mz_rows mq_X10_productIn) = some (50, .invokevirtual 92, 3, 147, 0, 156)) (rfl : mz_nth mq_tab 147 = some mq_X10_times) rfl rfl rfl rfl (Nat.le_of_ble_eq_true rfl) (Nat.le_of_ble_eq_true rfl) k11 ?_
        show mq_G mq_X10_productIn (53, [some (.ref 77), some (.int x1), some (.int x2), some (.int x3)], [.int r11, .ref 88], M8) res
        obtain ⟨q12, h⟩ := h
        refine mz_Go.steps (n := 1) (k2 := (54, [some (.ref 77), some (.int x1), some (.int x2), some (.int x3)], [.int (M8.1 88 r11.toNatClampNeg)], M8)) (P := [vp_in r11 256]) rfl (mz_o1 q12) ?_
        rw [h]
        exact mz_Go.iret (rfl : mz_find 54 (mz_rows mq_X10_productIn) = some (54, .ireturn, 1, 0, 0, 0)) rfl
      · replace h := h.2 c25
        refine mz_Go.steps (n := 1) (k2 := (29, [some (.ref 77), some (.int x1), some (.int x2), some (.int x3)], [.int (-1)], M1)) (P := []) rfl mz_o0 ?_
        rw [h]
        exact mz_Go.iret (rfl : mz_find 29 (mz_rows mq_X10_productIn) = some (29, .ireturn, 1, 0, 0, 0)) rfl
set_option maxRecDepth 100000 in
set_option maxHeartbeats 4000000 in
theorem t_X10_far_0 (x1 : Int32) (x2 : Int32) (x3 : Int32) (M : mz_M) {res : mz_O} (h :
    (∀ M1 : mz_M, M1 = mz_wr M 77 (upd (M.1 77) 10 0) →
    (∃ (r2 : Int32), (mq_C mq_X10_isSlot [.int x1] M1 (some (.int r2), M1)) ∧
    ((r2 = 0 →
      res = (some (.int (-1)), M1)) ∧
    (¬ (r2 = 0) →
      (∃ (r4 : Int32), (mq_C mq_X10_isElement [.ref 77, .int x2] M1 (some (.int r4), M1)) ∧
      ((r4 = 0 →
        res = (some (.int (-1)), M1)) ∧
      (¬ (r4 = 0) →
        (∃ (r6 : Int32), (mq_C mq_X10_isElement [.ref 77, .int x3] M1 (some (.int r6), M1)) ∧
        ((¬ r6 = 0 →
          (∃ (M8 : mz_M), (mq_C mq_X10_looksAt [.ref 77, .int x1] M1 (none, M8)) ∧
          (∀ M9 : mz_M, M9 = mz_wr M8 77 (upd (M8.1 77) 9 0) →
          (vp_in x2 256) ∧
          (vp_in x3 256) ∧
          (∃ (M12 : mz_M), (mq_C mq_X10_tell [.ref 77, .long (((M9.1 88 x2.toNatClampNeg) ^^^ (M9.1 88 x3.toNatClampNeg)).toInt64)] M9 (none, M12)) ∧
          (vp_in x2 256) ∧
          (vp_in x3 256) ∧
          (∃ (M15 : mz_M), (mq_C mq_X10_tell [.ref 77, .long (((M12.1 88 x2.toNatClampNeg) &&& (M12.1 88 x3.toNatClampNeg)).toInt64)] M12 (none, M15)) ∧
          (vp_in x2 256) ∧
          (vp_in x3 256) ∧
          (∃ (r18 : Int32), (mq_C mq_X10_bits [.int ((M15.1 88 x2.toNatClampNeg) ^^^ (M15.1 88 x3.toNatClampNeg))] M15 (some (.int r18), M15)) ∧
          res = (some (.int r18), M15))))))) ∧
        (¬ (¬ r6 = 0) →
          res = (some (.int (-1)), M1)))))))))))) :
    mq_G mq_X10_far (0, [some (.ref 77), some (.int x1), some (.int x2), some (.int x3)], [], M) res := by
  obtain ⟨M1, e1⟩ : ∃ y, y = mz_wr M 77 (upd (M.1 77) 10 0) := ⟨_, rfl⟩
  replace h := h M1 e1
  refine mz_Go.steps (n := 3) (k2 := (5, [some (.ref 77), some (.int x1), some (.int x2), some (.int x3)], [], (mz_wr M 77 (upd (M.1 77) 10 0)))) (P := []) rfl mz_o0 ?_
  rw [← e1]
  refine mz_Go.steps (n := 1) (k2 := (6, [some (.ref 77), some (.int x1), some (.int x2), some (.int x3)], [.int x1], M1)) (P := []) rfl mz_o0 ?_
  obtain ⟨r2, k2, h⟩ := h
  refine mz_Go.callS (As := [.int x1]) (rest := []) (rfl : mz_find 6 (mz_rows mq_X10_far) = some (6, .invokestatic 244, 3, 158, 0, 215)) (rfl : mz_nth mq_tab 158 = some mq_X10_isSlot) (by decide) rfl rfl rfl (Nat.le_of_ble_eq_true rfl) (Nat.le_of_ble_eq_true rfl) k2 ?_
  show mq_G mq_X10_far (9, [some (.ref 77), some (.int x1), some (.int x2), some (.int x3)], [.int r2], M1) res
  refine mz_Go.steps (n := 1) (k2 := (if r2 = 0 then 28 else 12, [some (.ref 77), some (.int x1), some (.int x2), some (.int x3)], [], M1)) (P := []) rfl mz_o0 ?_
  refine mz_Go.ite (fun c9 => ?_) (fun c9 => ?_)
  · replace h := h.1 c9
    refine mz_Go.steps (n := 1) (k2 := (29, [some (.ref 77), some (.int x1), some (.int x2), some (.int x3)], [.int (-1)], M1)) (P := []) rfl mz_o0 ?_
    rw [h]
    exact mz_Go.iret (rfl : mz_find 29 (mz_rows mq_X10_far) = some (29, .ireturn, 1, 0, 0, 0)) rfl
  · replace h := h.2 c9
    refine mz_Go.steps (n := 2) (k2 := (14, [some (.ref 77), some (.int x1), some (.int x2), some (.int x3)], [.int x2, .ref 77], M1)) (P := []) rfl mz_o0 ?_
    obtain ⟨r4, k4, h⟩ := h
    refine mz_Go.callV (As := [.int x2]) (rest := []) (rfl : mz_find 14 (mz_rows mq_X10_far) = some (14, .invokevirtual 183, 3, 156, 0, 194)) (rfl : mz_nth mq_tab 156 = some mq_X10_isElement) rfl rfl rfl rfl (Nat.le_of_ble_eq_true rfl) (Nat.le_of_ble_eq_true rfl) k4 ?_
    show mq_G mq_X10_far (17, [some (.ref 77), some (.int x1), some (.int x2), some (.int x3)], [.int r4], M1) res
    refine mz_Go.steps (n := 1) (k2 := (if r4 = 0 then 28 else 20, [some (.ref 77), some (.int x1), some (.int x2), some (.int x3)], [], M1)) (P := []) rfl mz_o0 ?_
    refine mz_Go.ite (fun c17 => ?_) (fun c17 => ?_)
    · replace h := h.1 c17
      refine mz_Go.steps (n := 1) (k2 := (29, [some (.ref 77), some (.int x1), some (.int x2), some (.int x3)], [.int (-1)], M1)) (P := []) rfl mz_o0 ?_
      rw [h]
      exact mz_Go.iret (rfl : mz_find 29 (mz_rows mq_X10_far) = some (29, .ireturn, 1, 0, 0, 0)) rfl
    · replace h := h.2 c17
      refine mz_Go.steps (n := 2) (k2 := (22, [some (.ref 77), some (.int x1), some (.int x2), some (.int x3)], [.int x3, .ref 77], M1)) (P := []) rfl mz_o0 ?_
      obtain ⟨r6, k6, h⟩ := h
      refine mz_Go.callV (As := [.int x3]) (rest := []) (rfl : mz_find 22 (mz_rows mq_X10_far) = some (22, .invokevirtual 183, 3, 156, 0, 194)) (rfl : mz_nth mq_tab 156 = some mq_X10_isElement) rfl rfl rfl rfl (Nat.le_of_ble_eq_true rfl) (Nat.le_of_ble_eq_true rfl) k6 ?_
      show mq_G mq_X10_far (25, [some (.ref 77), some (.int x1), some (.int x2), some (.int x3)], [.int r6], M1) res
      refine mz_Go.steps (n := 1) (k2 := (if ¬ r6 = 0 then 30 else 28, [some (.ref 77), some (.int x1), some (.int x2), some (.int x3)], [], M1)) (P := []) rfl mz_o0 ?_
      refine mz_Go.ite (fun c25 => ?_) (fun c25 => ?_)
      · replace h := h.1 c25
        refine mz_Go.steps (n := 2) (k2 := (32, [some (.ref 77), some (.int x1), some (.int x2), some (.int x3)], [.int x1, .ref 77], M1)) (P := []) rfl mz_o0 ?_
        obtain ⟨M8, k8, h⟩ := h
        refine mz_Go.callV (As := [.int x1]) (rest := []) (rfl : mz_find 32 (mz_rows mq_X10_far) = some (32, .invokevirtual 250, 3, 168, 0, 217)) (rfl : mz_nth mq_tab 168 = some mq_X10_looksAt) rfl rfl rfl rfl (Nat.le_of_ble_eq_true rfl) (Nat.le_of_ble_eq_true rfl) k8 ?_
        show mq_G mq_X10_far (35, [some (.ref 77), some (.int x1), some (.int x2), some (.int x3)], [], M8) res
        obtain ⟨M9, e9⟩ : ∃ y, y = mz_wr M8 77 (upd (M8.1 77) 9 0) := ⟨_, rfl⟩
        replace h := h M9 e9
        refine mz_Go.steps (n := 3) (k2 := (40, [some (.ref 77), some (.int x1), some (.int x2), some (.int x3)], [], (mz_wr M8 77 (upd (M8.1 77) 9 0)))) (P := []) rfl mz_o0 ?_
        rw [← e9]
        obtain ⟨q10, q11, h⟩ := h
        refine mz_Go.steps (n := 11) (k2 := (55, [some (.ref 77), some (.int x1), some (.int x2), some (.int x3)], [.long (((M9.1 88 x2.toNatClampNeg) ^^^ (M9.1 88 x3.toNatClampNeg)).toInt64), .ref 77], M9)) (P := [vp_in x2 256, vp_in x3 256]) rfl (mz_o2 q10 q11) ?_
        obtain ⟨M12, k12, h⟩ := h
        refine mz_Go.callV (As := [.long (((M9.1 88 x2.toNatClampNeg) ^^^ (M9.1 88 x3.toNatClampNeg)).toInt64)]) (rest := []) (rfl : mz_find 55 (mz_rows mq_X10_far) = some (55, .invokevirtual 194, 3, 135, 0, 198)) (rfl : mz_nth mq_tab 135 = some mq_X10_tell) rfl rfl rfl rfl (Nat.le_of_ble_eq_true rfl) (Nat.le_of_ble_eq_true rfl) k12 ?_
        show mq_G mq_X10_far (58, [some (.ref 77), some (.int x1), some (.int x2), some (.int x3)], [], M12) res
        obtain ⟨q13, q14, h⟩ := h
        refine mz_Go.steps (n := 11) (k2 := (73, [some (.ref 77), some (.int x1), some (.int x2), some (.int x3)], [.long (((M12.1 88 x2.toNatClampNeg) &&& (M12.1 88 x3.toNatClampNeg)).toInt64), .ref 77], M12)) (P := [vp_in x2 256, vp_in x3 256]) rfl (mz_o2 q13 q14) ?_
        obtain ⟨M15, k15, h⟩ := h
        refine mz_Go.callV (As := [.long (((M12.1 88 x2.toNatClampNeg) &&& (M12.1 88 x3.toNatClampNeg)).toInt64)]) (rest := []) (rfl : mz_find 73 (mz_rows mq_X10_far) = some (73, .invokevirtual 194, 3, 135, 0, 198)) (rfl : mz_nth mq_tab 135 = some mq_X10_tell) rfl rfl rfl rfl (Nat.le_of_ble_eq_true rfl) (Nat.le_of_ble_eq_true rfl) k15 ?_
        show mq_G mq_X10_far (76, [some (.ref 77), some (.int x1), some (.int x2), some (.int x3)], [], M15) res
        obtain ⟨q16, q17, h⟩ := h
        refine mz_Go.steps (n := 9) (k2 := (89, [some (.ref 77), some (.int x1), some (.int x2), some (.int x3)], [.int ((M15.1 88 x2.toNatClampNeg) ^^^ (M15.1 88 x3.toNatClampNeg))], M15)) (P := [vp_in x2 256, vp_in x3 256]) rfl (mz_o2 q16 q17) ?_
        obtain ⟨r18, k18, h⟩ := h
        refine mz_Go.callS (As := [.int ((M15.1 88 x2.toNatClampNeg) ^^^ (M15.1 88 x3.toNatClampNeg))]) (rest := []) (rfl : mz_find 89 (mz_rows mq_X10_far) = some (89, .invokestatic 129, 3, 136, 0, 173)) (rfl : mz_nth mq_tab 136 = some mq_X10_bits) (by decide) rfl rfl rfl (Nat.le_of_ble_eq_true rfl) (Nat.le_of_ble_eq_true rfl) k18 ?_
        show mq_G mq_X10_far (92, [some (.ref 77), some (.int x1), some (.int x2), some (.int x3)], [.int r18], M15) res
        rw [h]
        exact mz_Go.iret (rfl : mz_find 92 (mz_rows mq_X10_far) = some (92, .ireturn, 1, 0, 0, 0)) rfl
      · replace h := h.2 c25
        refine mz_Go.steps (n := 1) (k2 := (29, [some (.ref 77), some (.int x1), some (.int x2), some (.int x3)], [.int (-1)], M1)) (P := []) rfl mz_o0 ?_
        rw [h]
        exact mz_Go.iret (rfl : mz_find 29 (mz_rows mq_X10_far) = some (29, .ireturn, 1, 0, 0, 0)) rfl
set_option maxRecDepth 100000 in
set_option maxHeartbeats 4000000 in
theorem t_X10_steady_0 (x1 : Int32) (M : mz_M) {res : mz_O} (h :
    (∀ M1 : mz_M, M1 = mz_wr M 77 (upd (M.1 77) 10 0) →
    (∃ (r2 : Int32), (mq_C mq_X10_isSlot [.int x1] M1 (some (.int r2), M1)) ∧
    ((¬ r2 = 0 →
      (∃ (M4 : mz_M), (mq_C mq_X10_looksAt [.ref 77, .int x1] M1 (none, M4)) ∧
      mq_G mq_X10_steady (31, [some (.ref 77), some (.int x1), some (.int 0), some (.int (-1)), some (.int ((M4.1 77 12) - 1))], [], M4) res)) ∧
    (¬ (¬ r2 = 0) →
      res = (some (.int (-1)), M1)))))) :
    mq_G mq_X10_steady (0, [some (.ref 77), some (.int x1), none, none, none], [], M) res := by
  obtain ⟨M1, e1⟩ : ∃ y, y = mz_wr M 77 (upd (M.1 77) 10 0) := ⟨_, rfl⟩
  replace h := h M1 e1
  refine mz_Go.steps (n := 3) (k2 := (5, [some (.ref 77), some (.int x1), none, none, none], [], (mz_wr M 77 (upd (M.1 77) 10 0)))) (P := []) rfl mz_o0 ?_
  rw [← e1]
  refine mz_Go.steps (n := 1) (k2 := (6, [some (.ref 77), some (.int x1), none, none, none], [.int x1], M1)) (P := []) rfl mz_o0 ?_
  obtain ⟨r2, k2, h⟩ := h
  refine mz_Go.callS (As := [.int x1]) (rest := []) (rfl : mz_find 6 (mz_rows mq_X10_steady) = some (6, .invokestatic 244, 3, 158, 0, 215)) (rfl : mz_nth mq_tab 158 = some mq_X10_isSlot) (by decide) rfl rfl rfl (Nat.le_of_ble_eq_true rfl) (Nat.le_of_ble_eq_true rfl) k2 ?_
  show mq_G mq_X10_steady (9, [some (.ref 77), some (.int x1), none, none, none], [.int r2], M1) res
  refine mz_Go.steps (n := 1) (k2 := (if ¬ r2 = 0 then 14 else 12, [some (.ref 77), some (.int x1), none, none, none], [], M1)) (P := []) rfl mz_o0 ?_
  refine mz_Go.ite (fun c9 => ?_) (fun c9 => ?_)
  · replace h := h.1 c9
    refine mz_Go.steps (n := 2) (k2 := (16, [some (.ref 77), some (.int x1), none, none, none], [.int x1, .ref 77], M1)) (P := []) rfl mz_o0 ?_
    obtain ⟨M4, k4, h⟩ := h
    refine mz_Go.callV (As := [.int x1]) (rest := []) (rfl : mz_find 16 (mz_rows mq_X10_steady) = some (16, .invokevirtual 250, 3, 168, 0, 217)) (rfl : mz_nth mq_tab 168 = some mq_X10_looksAt) rfl rfl rfl rfl (Nat.le_of_ble_eq_true rfl) (Nat.le_of_ble_eq_true rfl) k4 ?_
    show mq_G mq_X10_steady (19, [some (.ref 77), some (.int x1), none, none, none], [], M4) res
    refine mz_Go.steps (n := 9) (k2 := (31, [some (.ref 77), some (.int x1), some (.int 0), some (.int (-1)), some (.int ((M4.1 77 12) - 1))], [], M4)) (P := []) rfl mz_o0 ?_
    exact h
  · replace h := h.2 c9
    refine mz_Go.steps (n := 1) (k2 := (13, [some (.ref 77), some (.int x1), none, none, none], [.int (-1)], M1)) (P := []) rfl mz_o0 ?_
    rw [h]
    exact mz_Go.iret (rfl : mz_find 13 (mz_rows mq_X10_steady) = some (13, .ireturn, 1, 0, 0, 0)) rfl
set_option maxRecDepth 100000 in
set_option maxHeartbeats 4000000 in
theorem t_X10_steady_31 (o1 : Option Value) (x2 : Int32) (x3 : Int32) (x4 : Int32) (M : mz_M) {res : mz_O} (h :
    ((x4 < 0 →
      (∀ M2 : mz_M, M2 = mz_wr M 77 (upd (M.1 77) 9 0) →
      (∃ (M3 : mz_M), (mq_C mq_X10_tell [.ref 77, .long (x3.toInt64)] M2 (none, M3)) ∧
      res = (some (.int x2), M3)))) ∧
    (¬ (x4 < 0) →
      (vp_in x4 256) ∧
      (∃ (r5 : Int32), (mq_C mq_X10_bits [.int (M.1 88 x4.toNatClampNeg)] M (some (.int r5), M)) ∧
      (∃ (r6 : Int32), (mq_C mq_X10_times [.ref 77, .int x4, .int x4] M (some (.int r6), M)) ∧
      (vp_in r6 256) ∧
      (∃ (r8 : Int32), (mq_C mq_X10_bits [.int (M.1 88 r6.toNatClampNeg)] M (some (.int r8), M)) ∧
      ((¬ r5 = r8 →
        mq_G mq_X10_steady (31, [some (.ref 77), o1, some (.int x2), some (.int x4), some (.int (x4 + (-1)))], [], M) res) ∧
      (¬ (¬ r5 = r8) →
        mq_G mq_X10_steady (31, [some (.ref 77), (mz_nw o1), some (.int (x2 + 1)), some (.int x3), some (.int (x4 + (-1)))], [], M) res)))))))) :
    mq_G mq_X10_steady (31, [some (.ref 77), o1, some (.int x2), some (.int x3), some (.int x4)], [], M) res := by
  refine mz_Go.steps (n := 2) (k2 := (if x4 < 0 then 80 else 36, [some (.ref 77), o1, some (.int x2), some (.int x3), some (.int x4)], [], M)) (P := []) rfl mz_o0 ?_
  refine mz_Go.ite (fun c33 => ?_) (fun c33 => ?_)
  · replace h := h.1 c33
    obtain ⟨M2, e2⟩ : ∃ y, y = mz_wr M 77 (upd (M.1 77) 9 0) := ⟨_, rfl⟩
    replace h := h M2 e2
    refine mz_Go.steps (n := 3) (k2 := (85, [some (.ref 77), o1, some (.int x2), some (.int x3), some (.int x4)], [], (mz_wr M 77 (upd (M.1 77) 9 0)))) (P := []) rfl mz_o0 ?_
    rw [← e2]
    refine mz_Go.steps (n := 3) (k2 := (88, [some (.ref 77), o1, some (.int x2), some (.int x3), some (.int x4)], [.long (x3.toInt64), .ref 77], M2)) (P := []) rfl mz_o0 ?_
    obtain ⟨M3, k3, h⟩ := h
    refine mz_Go.callV (As := [.long (x3.toInt64)]) (rest := []) (rfl : mz_find 88 (mz_rows mq_X10_steady) = some (88, .invokevirtual 194, 3, 135, 0, 198)) (rfl : mz_nth mq_tab 135 = some mq_X10_tell) rfl rfl rfl rfl (Nat.le_of_ble_eq_true rfl) (Nat.le_of_ble_eq_true rfl) k3 ?_
    show mq_G mq_X10_steady (91, [some (.ref 77), o1, some (.int x2), some (.int x3), some (.int x4)], [], M3) res
    refine mz_Go.steps (n := 1) (k2 := (92, [some (.ref 77), o1, some (.int x2), some (.int x3), some (.int x4)], [.int x2], M3)) (P := []) rfl mz_o0 ?_
    rw [h]
    exact mz_Go.iret (rfl : mz_find 92 (mz_rows mq_X10_steady) = some (92, .ireturn, 1, 0, 0, 0)) rfl
  · replace h := h.2 c33
    obtain ⟨q4, h⟩ := h
    refine mz_Go.steps (n := 4) (k2 := (43, [some (.ref 77), o1, some (.int x2), some (.int x3), some (.int x4)], [.int (M.1 88 x4.toNatClampNeg)], M)) (P := [vp_in x4 256]) rfl (mz_o1 q4) ?_
    obtain ⟨r5, k5, h⟩ := h
    refine mz_Go.callS (As := [.int (M.1 88 x4.toNatClampNeg)]) (rest := []) (rfl : mz_find 43 (mz_rows mq_X10_steady) = some (43, .invokestatic 129, 3, 136, 0, 173)) (rfl : mz_nth mq_tab 136 = some mq_X10_bits) (by decide) rfl rfl rfl (Nat.le_of_ble_eq_true rfl) (Nat.le_of_ble_eq_true rfl) k5 ?_
    show mq_G mq_X10_steady (46, [some (.ref 77), o1, some (.int x2), some (.int x3), some (.int x4)], [.int r5], M) res
    refine mz_Go.steps (n := 5) (k2 := (55, [some (.ref 77), o1, some (.int x2), some (.int x3), some (.int x4)], [.int x4, .int x4, .ref 77, .ref 88, .int r5], M)) (P := []) rfl mz_o0 ?_
    obtain ⟨r6, k6, h⟩ := h
    refine mz_Go.callV (As := [.int x4, .int x4]) (rest := [.ref 88, .int r5]) (rfl : mz_find 55 (mz_rows mq_X10_steady) = some (55, .invokevirtual 92, 3, 147, 0, 156)) (rfl : mz_nth mq_tab 147 = some mq_X10_times) rfl rfl rfl rfl (Nat.le_of_ble_eq_true rfl) (Nat.le_of_ble_eq_true rfl) k6 ?_
    show mq_G mq_X10_steady (58, [some (.ref 77), o1, some (.int x2), some (.int x3), some (.int x4)], [.int r6, .ref 88, .int r5], M) res
    obtain ⟨q7, h⟩ := h
    refine mz_Go.steps (n := 1) (k2 := (59, [some (.ref 77), o1, some (.int x2), some (.int x3), some (.int x4)], [.int (M.1 88 r6.toNatClampNeg), .int r5], M)) (P := [vp_in r6 256]) rfl (mz_o1 q7) ?_
    obtain ⟨r8, k8, h⟩ := h
    refine mz_Go.callS (As := [.int (M.1 88 r6.toNatClampNeg)]) (rest := [.int r5]) (rfl : mz_find 59 (mz_rows mq_X10_steady) = some (59, .invokestatic 129, 3, 136, 0, 173)) (rfl : mz_nth mq_tab 136 = some mq_X10_bits) (by decide) rfl rfl rfl (Nat.le_of_ble_eq_true rfl) (Nat.le_of_ble_eq_true rfl) k8 ?_
    show mq_G mq_X10_steady (62, [some (.ref 77), o1, some (.int x2), some (.int x3), some (.int x4)], [.int r8, .int r5], M) res
    refine mz_Go.steps (n := 1) (k2 := (if ¬ r5 = r8 then 71 else 65, [some (.ref 77), o1, some (.int x2), some (.int x3), some (.int x4)], [], M)) (P := []) rfl mz_o0 ?_
    refine mz_Go.ite (fun c62 => ?_) (fun c62 => ?_)
    · replace h := h.1 c62
      refine mz_Go.steps (n := 4) (k2 := (31, [some (.ref 77), o1, some (.int x2), some (.int x4), some (.int (x4 + (-1)))], [], M)) (P := []) rfl mz_o0 ?_
      exact h
    · replace h := h.2 c62
      refine mz_Go.steps (n := 4) (k2 := (31, [some (.ref 77), (mz_nw o1), some (.int (x2 + 1)), some (.int x3), some (.int (x4 + (-1)))], [], M)) (P := []) rfl mz_o0 ?_
      exact h
set_option maxRecDepth 100000 in
set_option maxHeartbeats 4000000 in
theorem t_X10_bestScale_0 (x1 : Int32) (M : mz_M) {res : mz_O} (h :
    (∀ M1 : mz_M, M1 = mz_wr M 77 (upd (M.1 77) 10 0) →
    (∃ (r2 : Int32), (mq_C mq_X10_isSlot [.int x1] M1 (some (.int r2), M1)) ∧
    ((¬ r2 = 0 →
      mq_G mq_X10_bestScale (21, [some (.ref 77), some (.int x1), some (.int (-1)), some (.int 0), some (.int 1), none], [], M1) res) ∧
    (¬ (¬ r2 = 0) →
      res = (some (.int (-1)), M1)))))) :
    mq_G mq_X10_bestScale (0, [some (.ref 77), some (.int x1), none, none, none, none], [], M) res := by
  obtain ⟨M1, e1⟩ : ∃ y, y = mz_wr M 77 (upd (M.1 77) 10 0) := ⟨_, rfl⟩
  replace h := h M1 e1
  refine mz_Go.steps (n := 3) (k2 := (5, [some (.ref 77), some (.int x1), none, none, none, none], [], (mz_wr M 77 (upd (M.1 77) 10 0)))) (P := []) rfl mz_o0 ?_
  rw [← e1]
  refine mz_Go.steps (n := 1) (k2 := (6, [some (.ref 77), some (.int x1), none, none, none, none], [.int x1], M1)) (P := []) rfl mz_o0 ?_
  obtain ⟨r2, k2, h⟩ := h
  refine mz_Go.callS (As := [.int x1]) (rest := []) (rfl : mz_find 6 (mz_rows mq_X10_bestScale) = some (6, .invokestatic 244, 3, 158, 0, 215)) (rfl : mz_nth mq_tab 158 = some mq_X10_isSlot) (by decide) rfl rfl rfl (Nat.le_of_ble_eq_true rfl) (Nat.le_of_ble_eq_true rfl) k2 ?_
  show mq_G mq_X10_bestScale (9, [some (.ref 77), some (.int x1), none, none, none, none], [.int r2], M1) res
  refine mz_Go.steps (n := 1) (k2 := (if ¬ r2 = 0 then 14 else 12, [some (.ref 77), some (.int x1), none, none, none, none], [], M1)) (P := []) rfl mz_o0 ?_
  refine mz_Go.ite (fun c9 => ?_) (fun c9 => ?_)
  · replace h := h.1 c9
    refine mz_Go.steps (n := 6) (k2 := (21, [some (.ref 77), some (.int x1), some (.int (-1)), some (.int 0), some (.int 1), none], [], M1)) (P := []) rfl mz_o0 ?_
    exact h
  · replace h := h.2 c9
    refine mz_Go.steps (n := 1) (k2 := (13, [some (.ref 77), some (.int x1), none, none, none, none], [.int (-1)], M1)) (P := []) rfl mz_o0 ?_
    rw [h]
    exact mz_Go.iret (rfl : mz_find 13 (mz_rows mq_X10_bestScale) = some (13, .ireturn, 1, 0, 0, 0)) rfl
set_option maxRecDepth 100000 in
set_option maxHeartbeats 4000000 in
theorem t_X10_bestScale_21 (x1 : Int32) (x2 : Int32) (x3 : Int32) (x4 : Int32) (o5 : Option Value) (M : mz_M) {res : mz_O} (h :
    (((M.1 77 12) ≤ x4 →
      (∀ M2 : mz_M, M2 = mz_wr M 77 (upd (M.1 77) 9 0) →
      (∃ (M3 : mz_M), (mq_C mq_X10_tell [.ref 77, .long (x3.toInt64)] M2 (none, M3)) ∧
      res = (some (.int x2), M3)))) ∧
    (¬ ((M.1 77 12) ≤ x4) →
      mq_G mq_X10_bestScale (33, [some (.ref 77), some (.int x1), some (.int x2), some (.int x3), some (.int x4), some (.int 0)], [], M) res))) :
    mq_G mq_X10_bestScale (21, [some (.ref 77), some (.int x1), some (.int x2), some (.int x3), some (.int x4), o5], [], M) res := by
  refine mz_Go.steps (n := 4) (k2 := (if (M.1 77 12) ≤ x4 then 104 else 30, [some (.ref 77), some (.int x1), some (.int x2), some (.int x3), some (.int x4), o5], [], M)) (P := []) rfl mz_o0 ?_
  refine mz_Go.ite (fun c27 => ?_) (fun c27 => ?_)
  · replace h := h.1 c27
    obtain ⟨M2, e2⟩ : ∃ y, y = mz_wr M 77 (upd (M.1 77) 9 0) := ⟨_, rfl⟩
    replace h := h M2 e2
    refine mz_Go.steps (n := 3) (k2 := (109, [some (.ref 77), some (.int x1), some (.int x2), some (.int x3), some (.int x4), o5], [], (mz_wr M 77 (upd (M.1 77) 9 0)))) (P := []) rfl mz_o0 ?_
    rw [← e2]
    refine mz_Go.steps (n := 3) (k2 := (112, [some (.ref 77), some (.int x1), some (.int x2), some (.int x3), some (.int x4), o5], [.long (x3.toInt64), .ref 77], M2)) (P := []) rfl mz_o0 ?_
    obtain ⟨M3, k3, h⟩ := h
    refine mz_Go.callV (As := [.long (x3.toInt64)]) (rest := []) (rfl : mz_find 112 (mz_rows mq_X10_bestScale) = some (112, .invokevirtual 194, 3, 135, 0, 198)) (rfl : mz_nth mq_tab 135 = some mq_X10_tell) rfl rfl rfl rfl (Nat.le_of_ble_eq_true rfl) (Nat.le_of_ble_eq_true rfl) k3 ?_
    show mq_G mq_X10_bestScale (115, [some (.ref 77), some (.int x1), some (.int x2), some (.int x3), some (.int x4), o5], [], M3) res
    refine mz_Go.steps (n := 1) (k2 := (116, [some (.ref 77), some (.int x1), some (.int x2), some (.int x3), some (.int x4), o5], [.int x2], M3)) (P := []) rfl mz_o0 ?_
    rw [h]
    exact mz_Go.iret (rfl : mz_find 116 (mz_rows mq_X10_bestScale) = some (116, .ireturn, 1, 0, 0, 0)) rfl
  · replace h := h.2 c27
    refine mz_Go.steps (n := 2) (k2 := (33, [some (.ref 77), some (.int x1), some (.int x2), some (.int x3), some (.int x4), some (.int 0)], [], M)) (P := []) rfl mz_o0 ?_
    exact h
set_option maxRecDepth 100000 in
set_option maxHeartbeats 4000000 in
theorem t_X10_bestScale_33 (x1 : Int32) (x2 : Int32) (x3 : Int32) (x4 : Int32) (x5 : Int32) (M : mz_M) {res : mz_O} (h :
    (((M.1 77 11) ≤ x5 →
      (∃ (M2 : mz_M), (mq_C mq_X10_someIsBase [.ref 77] M (none, M2)) ∧
      (∃ (r3 : Int32), (mq_C mq_X10_complexityNow [.ref 77] M2 (some (.int r3), M2)) ∧
      ((x2 = (-1) →
        mq_G mq_X10_bestScale (21, [some (.ref 77), some (.int x1), some (.int x4), some (.int r3), some (.int (x4 + 1)), some (.int r3)], [], M2) res) ∧
      (¬ (x2 = (-1)) →
        ((r3 < x3 →
          mq_G mq_X10_bestScale (21, [some (.ref 77), some (.int x1), some (.int x4), some (.int r3), some (.int (x4 + 1)), some (.int r3)], [], M2) res) ∧
        (¬ (r3 < x3) →
          mq_G mq_X10_bestScale (21, [some (.ref 77), some (.int x1), some (.int x2), some (.int x3), some (.int (x4 + 1)), some (.int r3)], [], M2) res))))))) ∧
    (¬ ((M.1 77 11) ≤ x5) →
      (∃ (r6 : Int32), (mq_C mq_X10_baseAt [.ref 77, .int x1, .int x5] M (some (.int r6), M)) ∧
      (∃ (r7 : Int32), (mq_C mq_X10_times [.ref 77, .int x4, .int r6] M (some (.int r7), M)) ∧
      (vp_in x5 8) ∧
      (∀ M8 : mz_M, M8 = mz_wr M 84 (upd (M.1 84) x5.toNatClampNeg r7) →
      mq_G mq_X10_bestScale (33, [some (.ref 77), some (.int x1), some (.int x2), some (.int x3), some (.int x4), some (.int (x5 + 1))], [], M8) res)))))) :
    mq_G mq_X10_bestScale (33, [some (.ref 77), some (.int x1), some (.int x2), some (.int x3), some (.int x4), some (.int x5)], [], M) res := by
  refine mz_Go.steps (n := 4) (k2 := (if (M.1 77 11) ≤ x5 then 68 else 42, [some (.ref 77), some (.int x1), some (.int x2), some (.int x3), some (.int x4), some (.int x5)], [], M)) (P := []) rfl mz_o0 ?_
  refine mz_Go.ite (fun c39 => ?_) (fun c39 => ?_)
  · replace h := h.1 c39
    refine mz_Go.steps (n := 1) (k2 := (69, [some (.ref 77), some (.int x1), some (.int x2), some (.int x3), some (.int x4), some (.int x5)], [.ref 77], M)) (P := []) rfl mz_o0 ?_
    obtain ⟨M2, k2, h⟩ := h
    refine mz_Go.callV (As := []) (rest := []) (rfl : mz_find 69 (mz_rows mq_X10_bestScale) = some (69, .invokevirtual 226, 3, 172, 0, 209)) (rfl : mz_nth mq_tab 172 = some mq_X10_someIsBase) rfl rfl rfl rfl (Nat.le_of_ble_eq_true rfl) (Nat.le_of_ble_eq_true rfl) k2 ?_
    show mq_G mq_X10_bestScale (72, [some (.ref 77), some (.int x1), some (.int x2), some (.int x3), some (.int x4), some (.int x5)], [], M2) res
    refine mz_Go.steps (n := 1) (k2 := (73, [some (.ref 77), some (.int x1), some (.int x2), some (.int x3), some (.int x4), some (.int x5)], [.ref 77], M2)) (P := []) rfl mz_o0 ?_
    obtain ⟨r3, k3, h⟩ := h
    refine mz_Go.callV (As := []) (rest := []) (rfl : mz_find 73 (mz_rows mq_X10_bestScale) = some (73, .invokevirtual 142, 3, 169, 0, 178)) (rfl : mz_nth mq_tab 169 = some mq_X10_complexityNow) rfl rfl rfl rfl (Nat.le_of_ble_eq_true rfl) (Nat.le_of_ble_eq_true rfl) k3 ?_
    show mq_G mq_X10_bestScale (76, [some (.ref 77), some (.int x1), some (.int x2), some (.int x3), some (.int x4), some (.int x5)], [.int r3], M2) res
    refine mz_Go.steps (n := 4) (k2 := (if x2 = (-1) then 92 else 83, [some (.ref 77), some (.int x1), some (.int x2), some (.int x3), some (.int x4), some (.int r3)], [], M2)) (P := []) rfl mz_o0 ?_
    refine mz_Go.ite (fun c80 => ?_) (fun c80 => ?_)
    · replace h := h.1 c80
      refine mz_Go.steps (n := 6) (k2 := (21, [some (.ref 77), some (.int x1), some (.int x4), some (.int r3), some (.int (x4 + 1)), some (.int r3)], [], M2)) (P := []) rfl mz_o0 ?_
      exact h
    · replace h := h.2 c80
      refine mz_Go.steps (n := 3) (k2 := (if r3 < x3 then 92 else 89, [some (.ref 77), some (.int x1), some (.int x2), some (.int x3), some (.int x4), some (.int r3)], [], M2)) (P := []) rfl mz_o0 ?_
      refine mz_Go.ite (fun c86 => ?_) (fun c86 => ?_)
      · replace h := h.1 c86
        refine mz_Go.steps (n := 6) (k2 := (21, [some (.ref 77), some (.int x1), some (.int x4), some (.int r3), some (.int (x4 + 1)), some (.int r3)], [], M2)) (P := []) rfl mz_o0 ?_
        exact h
      · replace h := h.2 c86
        refine mz_Go.steps (n := 3) (k2 := (21, [some (.ref 77), some (.int x1), some (.int x2), some (.int x3), some (.int (x4 + 1)), some (.int r3)], [], M2)) (P := []) rfl mz_o0 ?_
        exact h
  · replace h := h.2 c39
    refine mz_Go.steps (n := 8) (k2 := (55, [some (.ref 77), some (.int x1), some (.int x2), some (.int x3), some (.int x4), some (.int x5)], [.int x5, .int x1, .ref 77, .int x4, .ref 77, .int x5, .ref 84], M)) (P := []) rfl mz_o0 ?_
    obtain ⟨r6, k6, h⟩ := h
    refine mz_Go.callV (As := [.int x1, .int x5]) (rest := [.int x4, .ref 77, .int x5, .ref 84]) (rfl : mz_find 55 (mz_rows mq_X10_bestScale) = some (55, .invokevirtual 123, 3, 167, 0, 171)) (rfl : mz_nth mq_tab 167 = some mq_X10_baseAt) rfl rfl rfl rfl (Nat.le_of_ble_eq_true rfl) (Nat.le_of_ble_eq_true rfl) k6 ?_
    show mq_G mq_X10_bestScale (58, [some (.ref 77), some (.int x1), some (.int x2), some (.int x3), some (.int x4), some (.int x5)], [.int r6, .int x4, .ref 77, .int x5, .ref 84], M) res
    obtain ⟨r7, k7, h⟩ := h
    refine mz_Go.callV (As := [.int x4, .int r6]) (rest := [.int x5, .ref 84]) (rfl : mz_find 58 (mz_rows mq_X10_bestScale) = some (58, .invokevirtual 92, 3, 147, 0, 156)) (rfl : mz_nth mq_tab 147 = some mq_X10_times) rfl rfl rfl rfl (Nat.le_of_ble_eq_true rfl) (Nat.le_of_ble_eq_true rfl) k7 ?_
    show mq_G mq_X10_bestScale (61, [some (.ref 77), some (.int x1), some (.int x2), some (.int x3), some (.int x4), some (.int x5)], [.int r7, .int x5, .ref 84], M) res
    obtain ⟨q9, h⟩ := h
    obtain ⟨M8, e8⟩ : ∃ y, y = mz_wr M 84 (upd (M.1 84) x5.toNatClampNeg r7) := ⟨_, rfl⟩
    replace h := h M8 e8
    refine mz_Go.steps (n := 1) (k2 := (62, [some (.ref 77), some (.int x1), some (.int x2), some (.int x3), some (.int x4), some (.int x5)], [], (mz_wr M 84 (upd (M.1 84) x5.toNatClampNeg r7)))) (P := [vp_in x5 8]) rfl (mz_o1 q9) ?_
    rw [← e8]
    refine mz_Go.steps (n := 2) (k2 := (33, [some (.ref 77), some (.int x1), some (.int x2), some (.int x3), some (.int x4), some (.int (x5 + 1))], [], M8)) (P := []) rfl mz_o0 ?_
    exact h
set_option maxRecDepth 100000 in
set_option maxHeartbeats 4000000 in
theorem t_X10_same_0 (x1 : Int32) (x2 : Int32) (M : mz_M) {res : mz_O} (h :
    (∀ M1 : mz_M, M1 = mz_wr M 77 (upd (M.1 77) 10 0) →
    (∃ (r2 : Int32), (mq_C mq_X10_isSlot [.int x1] M1 (some (.int r2), M1)) ∧
    ((r2 = 0 →
      res = (some (.int (-1)), M1)) ∧
    (¬ (r2 = 0) →
      (∃ (r4 : Int32), (mq_C mq_X10_isSlot [.int x2] M1 (some (.int r4), M1)) ∧
      ((¬ r4 = 0 →
        mq_G mq_X10_same (29, [some (.ref 77), some (.int x1), some (.int x2), some (.int 0), some (.int 0), some (.int 0), none], [], M1) res) ∧
      (¬ (¬ r4 = 0) →
        res = (some (.int (-1)), M1))))))))) :
    mq_G mq_X10_same (0, [some (.ref 77), some (.int x1), some (.int x2), none, none, none, none], [], M) res := by
  obtain ⟨M1, e1⟩ : ∃ y, y = mz_wr M 77 (upd (M.1 77) 10 0) := ⟨_, rfl⟩
  replace h := h M1 e1
  refine mz_Go.steps (n := 3) (k2 := (5, [some (.ref 77), some (.int x1), some (.int x2), none, none, none, none], [], (mz_wr M 77 (upd (M.1 77) 10 0)))) (P := []) rfl mz_o0 ?_
  rw [← e1]
  refine mz_Go.steps (n := 1) (k2 := (6, [some (.ref 77), some (.int x1), some (.int x2), none, none, none, none], [.int x1], M1)) (P := []) rfl mz_o0 ?_
  obtain ⟨r2, k2, h⟩ := h
  refine mz_Go.callS (As := [.int x1]) (rest := []) (rfl : mz_find 6 (mz_rows mq_X10_same) = some (6, .invokestatic 244, 3, 158, 0, 215)) (rfl : mz_nth mq_tab 158 = some mq_X10_isSlot) (by decide) rfl rfl rfl (Nat.le_of_ble_eq_true rfl) (Nat.le_of_ble_eq_true rfl) k2 ?_
  show mq_G mq_X10_same (9, [some (.ref 77), some (.int x1), some (.int x2), none, none, none, none], [.int r2], M1) res
  refine mz_Go.steps (n := 1) (k2 := (if r2 = 0 then 19 else 12, [some (.ref 77), some (.int x1), some (.int x2), none, none, none, none], [], M1)) (P := []) rfl mz_o0 ?_
  refine mz_Go.ite (fun c9 => ?_) (fun c9 => ?_)
  · replace h := h.1 c9
    refine mz_Go.steps (n := 1) (k2 := (20, [some (.ref 77), some (.int x1), some (.int x2), none, none, none, none], [.int (-1)], M1)) (P := []) rfl mz_o0 ?_
    rw [h]
    exact mz_Go.iret (rfl : mz_find 20 (mz_rows mq_X10_same) = some (20, .ireturn, 1, 0, 0, 0)) rfl
  · replace h := h.2 c9
    refine mz_Go.steps (n := 1) (k2 := (13, [some (.ref 77), some (.int x1), some (.int x2), none, none, none, none], [.int x2], M1)) (P := []) rfl mz_o0 ?_
    obtain ⟨r4, k4, h⟩ := h
    refine mz_Go.callS (As := [.int x2]) (rest := []) (rfl : mz_find 13 (mz_rows mq_X10_same) = some (13, .invokestatic 244, 3, 158, 0, 215)) (rfl : mz_nth mq_tab 158 = some mq_X10_isSlot) (by decide) rfl rfl rfl (Nat.le_of_ble_eq_true rfl) (Nat.le_of_ble_eq_true rfl) k4 ?_
    show mq_G mq_X10_same (16, [some (.ref 77), some (.int x1), some (.int x2), none, none, none, none], [.int r4], M1) res
    refine mz_Go.steps (n := 1) (k2 := (if ¬ r4 = 0 then 21 else 19, [some (.ref 77), some (.int x1), some (.int x2), none, none, none, none], [], M1)) (P := []) rfl mz_o0 ?_
    refine mz_Go.ite (fun c16 => ?_) (fun c16 => ?_)
    · replace h := h.1 c16
      refine mz_Go.steps (n := 6) (k2 := (29, [some (.ref 77), some (.int x1), some (.int x2), some (.int 0), some (.int 0), some (.int 0), none], [], M1)) (P := []) rfl mz_o0 ?_
      exact h
    · replace h := h.2 c16
      refine mz_Go.steps (n := 1) (k2 := (20, [some (.ref 77), some (.int x1), some (.int x2), none, none, none, none], [.int (-1)], M1)) (P := []) rfl mz_o0 ?_
      rw [h]
      exact mz_Go.iret (rfl : mz_find 20 (mz_rows mq_X10_same) = some (20, .ireturn, 1, 0, 0, 0)) rfl
set_option maxRecDepth 100000 in
set_option maxHeartbeats 4000000 in
theorem t_X10_same_29 (x1 : Int32) (x2 : Int32) (x3 : Int32) (x4 : Int32) (x5 : Int32) (o6 : Option Value) (M : mz_M) {res : mz_O} (h :
    (((M.1 77 11) ≤ x5 →
      (∀ M2 : mz_M, M2 = mz_wr M 77 (upd (M.1 77) 9 0) →
      (∃ (M3 : mz_M), (mq_C mq_X10_tell [.ref 77, .long (x3.toInt64)] M2 (none, M3)) ∧
      (∃ (M4 : mz_M), (mq_C mq_X10_tell [.ref 77, .long (x4.toInt64)] M3 (none, M4)) ∧
      ((¬ x3 = (M4.1 77 11) →
        res = (some (.int 0), M4)) ∧
      (¬ (¬ x3 = (M4.1 77 11)) →
        res = (some (.int 1), M4))))))) ∧
    (¬ ((M.1 77 11) ≤ x5) →
      mq_G mq_X10_same (41, [some (.ref 77), some (.int x1), some (.int x2), some (.int x3), some (.int x4), some (.int x5), some (.int 0)], [], M) res))) :
    mq_G mq_X10_same (29, [some (.ref 77), some (.int x1), some (.int x2), some (.int x3), some (.int x4), some (.int x5), o6], [], M) res := by
  refine mz_Go.steps (n := 4) (k2 := (if (M.1 77 11) ≤ x5 then 114 else 38, [some (.ref 77), some (.int x1), some (.int x2), some (.int x3), some (.int x4), some (.int x5), o6], [], M)) (P := []) rfl mz_o0 ?_
  refine mz_Go.ite (fun c35 => ?_) (fun c35 => ?_)
  · replace h := h.1 c35
    obtain ⟨M2, e2⟩ : ∃ y, y = mz_wr M 77 (upd (M.1 77) 9 0) := ⟨_, rfl⟩
    replace h := h M2 e2
    refine mz_Go.steps (n := 3) (k2 := (119, [some (.ref 77), some (.int x1), some (.int x2), some (.int x3), some (.int x4), some (.int x5), o6], [], (mz_wr M 77 (upd (M.1 77) 9 0)))) (P := []) rfl mz_o0 ?_
    rw [← e2]
    refine mz_Go.steps (n := 3) (k2 := (122, [some (.ref 77), some (.int x1), some (.int x2), some (.int x3), some (.int x4), some (.int x5), o6], [.long (x3.toInt64), .ref 77], M2)) (P := []) rfl mz_o0 ?_
    obtain ⟨M3, k3, h⟩ := h
    refine mz_Go.callV (As := [.long (x3.toInt64)]) (rest := []) (rfl : mz_find 122 (mz_rows mq_X10_same) = some (122, .invokevirtual 194, 3, 135, 0, 198)) (rfl : mz_nth mq_tab 135 = some mq_X10_tell) rfl rfl rfl rfl (Nat.le_of_ble_eq_true rfl) (Nat.le_of_ble_eq_true rfl) k3 ?_
    show mq_G mq_X10_same (125, [some (.ref 77), some (.int x1), some (.int x2), some (.int x3), some (.int x4), some (.int x5), o6], [], M3) res
    refine mz_Go.steps (n := 3) (k2 := (129, [some (.ref 77), some (.int x1), some (.int x2), some (.int x3), some (.int x4), some (.int x5), o6], [.long (x4.toInt64), .ref 77], M3)) (P := []) rfl mz_o0 ?_
    obtain ⟨M4, k4, h⟩ := h
    refine mz_Go.callV (As := [.long (x4.toInt64)]) (rest := []) (rfl : mz_find 129 (mz_rows mq_X10_same) = some (129, .invokevirtual 194, 3, 135, 0, 198)) (rfl : mz_nth mq_tab 135 = some mq_X10_tell) rfl rfl rfl rfl (Nat.le_of_ble_eq_true rfl) (Nat.le_of_ble_eq_true rfl) k4 ?_
    show mq_G mq_X10_same (132, [some (.ref 77), some (.int x1), some (.int x2), some (.int x3), some (.int x4), some (.int x5), o6], [], M4) res
    refine mz_Go.steps (n := 4) (k2 := (if ¬ x3 = (M4.1 77 11) then 144 else 140, [some (.ref 77), some (.int x1), some (.int x2), some (.int x3), some (.int x4), some (.int x5), o6], [], M4)) (P := []) rfl mz_o0 ?_
    refine mz_Go.ite (fun c137 => ?_) (fun c137 => ?_)
    · replace h := h.1 c137
      refine mz_Go.steps (n := 1) (k2 := (145, [some (.ref 77), some (.int x1), some (.int x2), some (.int x3), some (.int x4), some (.int x5), o6], [.int 0], M4)) (P := []) rfl mz_o0 ?_
      rw [h]
      exact mz_Go.iret (rfl : mz_find 145 (mz_rows mq_X10_same) = some (145, .ireturn, 1, 0, 0, 0)) rfl
    · replace h := h.2 c137
      refine mz_Go.steps (n := 2) (k2 := (145, [some (.ref 77), some (.int x1), some (.int x2), some (.int x3), some (.int x4), some (.int x5), o6], [.int 1], M4)) (P := []) rfl mz_o0 ?_
      rw [h]
      exact mz_Go.iret (rfl : mz_find 145 (mz_rows mq_X10_same) = some (145, .ireturn, 1, 0, 0, 0)) rfl
  · replace h := h.2 c35
    refine mz_Go.steps (n := 2) (k2 := (41, [some (.ref 77), some (.int x1), some (.int x2), some (.int x3), some (.int x4), some (.int x5), some (.int 0)], [], M)) (P := []) rfl mz_o0 ?_
    exact h
set_option maxRecDepth 100000 in
set_option maxHeartbeats 4000000 in
theorem t_X10_same_41 (x1 : Int32) (x2 : Int32) (x3 : Int32) (x4 : Int32) (x5 : Int32) (x6 : Int32) (M : mz_M) {res : mz_O} (h :
    (((M.1 77 11) ≤ x6 →
      (∃ (r2 : Int32), (mq_C mq_X10_baseAt [.ref 77, .int x1, .int x5] M (some (.int r2), M)) ∧
      (∃ (r3 : Int32), (mq_C mq_X10_baseAt [.ref 77, .int x2, .int x5] M (some (.int r3), M)) ∧
      ((¬ r2 = r3 →
        mq_G mq_X10_same (29, [some (.ref 77), some (.int x1), some (.int x2), some (.int x3), some (.int (x4 + 0)), some (.int (x5 + 1)), some (.int x6)], [], M) res) ∧
      (¬ (¬ r2 = r3) →
        mq_G mq_X10_same (29, [some (.ref 77), some (.int x1), some (.int x2), some (.int x3), some (.int (x4 + 1)), some (.int (x5 + 1)), some (.int x6)], [], M) res))))) ∧
    (¬ ((M.1 77 11) ≤ x6) →
      (∃ (r5 : Int32), (mq_C mq_X10_baseAt [.ref 77, .int x1, .int x5] M (some (.int r5), M)) ∧
      (∃ (r6 : Int32), (mq_C mq_X10_baseAt [.ref 77, .int x2, .int x6] M (some (.int r6), M)) ∧
      ((¬ r5 = r6 →
        mq_G mq_X10_same (41, [some (.ref 77), some (.int x1), some (.int x2), some (.int (x3 + 0)), some (.int x4), some (.int x5), some (.int (x6 + 1))], [], M) res) ∧
      (¬ (¬ r5 = r6) →
        mq_G mq_X10_same (41, [some (.ref 77), some (.int x1), some (.int x2), some (.int (x3 + 1)), some (.int x4), some (.int x5), some (.int (x6 + 1))], [], M) res))))))) :
    mq_G mq_X10_same (41, [some (.ref 77), some (.int x1), some (.int x2), some (.int x3), some (.int x4), some (.int x5), some (.int x6)], [], M) res := by
  refine mz_Go.steps (n := 4) (k2 := (if (M.1 77 11) ≤ x6 then 81 else 50, [some (.ref 77), some (.int x1), some (.int x2), some (.int x3), some (.int x4), some (.int x5), some (.int x6)], [], M)) (P := []) rfl mz_o0 ?_
  refine mz_Go.ite (fun c47 => ?_) (fun c47 => ?_)
  · replace h := h.1 c47
    refine mz_Go.steps (n := 4) (k2 := (87, [some (.ref 77), some (.int x1), some (.int x2), some (.int x3), some (.int x4), some (.int x5), some (.int x6)], [.int x5, .int x1, .ref 77, .int x4], M)) (P := []) rfl mz_o0 ?_
    obtain ⟨r2, k2, h⟩ := h
    refine mz_Go.callV (As := [.int x1, .int x5]) (rest := [.int x4]) (rfl : mz_find 87 (mz_rows mq_X10_same) = some (87, .invokevirtual 123, 3, 167, 0, 171)) (rfl : mz_nth mq_tab 167 = some mq_X10_baseAt) rfl rfl rfl rfl (Nat.le_of_ble_eq_true rfl) (Nat.le_of_ble_eq_true rfl) k2 ?_
    show mq_G mq_X10_same (90, [some (.ref 77), some (.int x1), some (.int x2), some (.int x3), some (.int x4), some (.int x5), some (.int x6)], [.int r2, .int x4], M) res
    refine mz_Go.steps (n := 3) (k2 := (94, [some (.ref 77), some (.int x1), some (.int x2), some (.int x3), some (.int x4), some (.int x5), some (.int x6)], [.int x5, .int x2, .ref 77, .int r2, .int x4], M)) (P := []) rfl mz_o0 ?_
    obtain ⟨r3, k3, h⟩ := h
    refine mz_Go.callV (As := [.int x2, .int x5]) (rest := [.int r2, .int x4]) (rfl : mz_find 94 (mz_rows mq_X10_same) = some (94, .invokevirtual 123, 3, 167, 0, 171)) (rfl : mz_nth mq_tab 167 = some mq_X10_baseAt) rfl rfl rfl rfl (Nat.le_of_ble_eq_true rfl) (Nat.le_of_ble_eq_true rfl) k3 ?_
    show mq_G mq_X10_same (97, [some (.ref 77), some (.int x1), some (.int x2), some (.int x3), some (.int x4), some (.int x5), some (.int x6)], [.int r3, .int r2, .int x4], M) res
    refine mz_Go.steps (n := 1) (k2 := (if ¬ r2 = r3 then 104 else 100, [some (.ref 77), some (.int x1), some (.int x2), some (.int x3), some (.int x4), some (.int x5), some (.int x6)], [.int x4], M)) (P := []) rfl mz_o0 ?_
    refine mz_Go.ite (fun c97 => ?_) (fun c97 => ?_)
    · replace h := h.1 c97
      refine mz_Go.steps (n := 5) (k2 := (29, [some (.ref 77), some (.int x1), some (.int x2), some (.int x3), some (.int (x4 + 0)), some (.int (x5 + 1)), some (.int x6)], [], M)) (P := []) rfl mz_o0 ?_
      exact h
    · replace h := h.2 c97
      refine mz_Go.steps (n := 6) (k2 := (29, [some (.ref 77), some (.int x1), some (.int x2), some (.int x3), some (.int (x4 + 1)), some (.int (x5 + 1)), some (.int x6)], [], M)) (P := []) rfl mz_o0 ?_
      exact h
  · replace h := h.2 c47
    refine mz_Go.steps (n := 4) (k2 := (55, [some (.ref 77), some (.int x1), some (.int x2), some (.int x3), some (.int x4), some (.int x5), some (.int x6)], [.int x5, .int x1, .ref 77, .int x3], M)) (P := []) rfl mz_o0 ?_
    obtain ⟨r5, k5, h⟩ := h
    refine mz_Go.callV (As := [.int x1, .int x5]) (rest := [.int x3]) (rfl : mz_find 55 (mz_rows mq_X10_same) = some (55, .invokevirtual 123, 3, 167, 0, 171)) (rfl : mz_nth mq_tab 167 = some mq_X10_baseAt) rfl rfl rfl rfl (Nat.le_of_ble_eq_true rfl) (Nat.le_of_ble_eq_true rfl) k5 ?_
    show mq_G mq_X10_same (58, [some (.ref 77), some (.int x1), some (.int x2), some (.int x3), some (.int x4), some (.int x5), some (.int x6)], [.int r5, .int x3], M) res
    refine mz_Go.steps (n := 3) (k2 := (62, [some (.ref 77), some (.int x1), some (.int x2), some (.int x3), some (.int x4), some (.int x5), some (.int x6)], [.int x6, .int x2, .ref 77, .int r5, .int x3], M)) (P := []) rfl mz_o0 ?_
    obtain ⟨r6, k6, h⟩ := h
    refine mz_Go.callV (As := [.int x2, .int x6]) (rest := [.int r5, .int x3]) (rfl : mz_find 62 (mz_rows mq_X10_same) = some (62, .invokevirtual 123, 3, 167, 0, 171)) (rfl : mz_nth mq_tab 167 = some mq_X10_baseAt) rfl rfl rfl rfl (Nat.le_of_ble_eq_true rfl) (Nat.le_of_ble_eq_true rfl) k6 ?_
    show mq_G mq_X10_same (65, [some (.ref 77), some (.int x1), some (.int x2), some (.int x3), some (.int x4), some (.int x5), some (.int x6)], [.int r6, .int r5, .int x3], M) res
    refine mz_Go.steps (n := 1) (k2 := (if ¬ r5 = r6 then 72 else 68, [some (.ref 77), some (.int x1), some (.int x2), some (.int x3), some (.int x4), some (.int x5), some (.int x6)], [.int x3], M)) (P := []) rfl mz_o0 ?_
    refine mz_Go.ite (fun c65 => ?_) (fun c65 => ?_)
    · replace h := h.1 c65
      refine mz_Go.steps (n := 5) (k2 := (41, [some (.ref 77), some (.int x1), some (.int x2), some (.int (x3 + 0)), some (.int x4), some (.int x5), some (.int (x6 + 1))], [], M)) (P := []) rfl mz_o0 ?_
      exact h
    · replace h := h.2 c65
      refine mz_Go.steps (n := 6) (k2 := (41, [some (.ref 77), some (.int x1), some (.int x2), some (.int (x3 + 1)), some (.int x4), some (.int x5), some (.int (x6 + 1))], [], M)) (P := []) rfl mz_o0 ?_
      exact h
set_option maxRecDepth 100000 in
set_option maxHeartbeats 4000000 in
theorem t_X10_dualAt_0 (x1 : Int32) (x2 : Int32) (M : mz_M) {res : mz_O} (h :
    mq_G mq_X10_dualAt (2, [some (.ref 77), some (.int x1), some (.int x2), some (.int 1), none, none], [], M) res) :
    mq_G mq_X10_dualAt (0, [some (.ref 77), some (.int x1), some (.int x2), none, none, none], [], M) res := by
  refine mz_Go.steps (n := 2) (k2 := (2, [some (.ref 77), some (.int x1), some (.int x2), some (.int 1), none, none], [], M)) (P := []) rfl mz_o0 ?_
  exact h
set_option maxRecDepth 100000 in
set_option maxHeartbeats 4000000 in
theorem t_X10_dualAt_2 (x1 : Int32) (x2 : Int32) (x3 : Int32) (o4 : Option Value) (o5 : Option Value) (M : mz_M) {res : mz_O} (h :
    (((M.1 77 12) ≤ x3 →
      res = (some (.int 0), M)) ∧
    (¬ ((M.1 77 12) ≤ x3) →
      mq_G mq_X10_dualAt (16, [some (.ref 77), some (.int x1), some (.int x2), some (.int x3), some (.int 1), some (.int 0)], [], M) res))) :
    mq_G mq_X10_dualAt (2, [some (.ref 77), some (.int x1), some (.int x2), some (.int x3), o4, o5], [], M) res := by
  refine mz_Go.steps (n := 4) (k2 := (if (M.1 77 12) ≤ x3 then 87 else 10, [some (.ref 77), some (.int x1), some (.int x2), some (.int x3), o4, o5], [], M)) (P := []) rfl mz_o0 ?_
  refine mz_Go.ite (fun c7 => ?_) (fun c7 => ?_)
  · replace h := h.1 c7
    refine mz_Go.steps (n := 1) (k2 := (88, [some (.ref 77), some (.int x1), some (.int x2), some (.int x3), o4, o5], [.int 0], M)) (P := []) rfl mz_o0 ?_
    rw [h]
    exact mz_Go.iret (rfl : mz_find 88 (mz_rows mq_X10_dualAt) = some (88, .ireturn, 1, 0, 0, 0)) rfl
  · replace h := h.2 c7
    refine mz_Go.steps (n := 4) (k2 := (16, [some (.ref 77), some (.int x1), some (.int x2), some (.int x3), some (.int 1), some (.int 0)], [], M)) (P := []) rfl mz_o0 ?_
    exact h
set_option maxRecDepth 100000 in
set_option maxHeartbeats 4000000 in
theorem t_X10_dualAt_16 (x1 : Int32) (x2 : Int32) (x3 : Int32) (x4 : Int32) (x5 : Int32) (M : mz_M) {res : mz_O} (h :
    (((M.1 77 11) ≤ x5 →
      ((x4 = 0 →
        mq_G mq_X10_dualAt (2, [some (.ref 77), some (.int x1), some (.int x2), some (.int (x3 + 1)), some (.int x4), some (.int x5)], [], M) res) ∧
      (¬ (x4 = 0) →
        res = (some (.int x3), M)))) ∧
    (¬ ((M.1 77 11) ≤ x5) →
      ((x4 = 0 →
        ((x4 = 0 →
          mq_G mq_X10_dualAt (2, [some (.ref 77), some (.int x1), some (.int x2), some (.int (x3 + 1)), some (.int x4), some (.int x5)], [], M) res) ∧
        (¬ (x4 = 0) →
          res = (some (.int x3), M)))) ∧
      (¬ (x4 = 0) →
        (∃ (r5 : Int32), (mq_C mq_X10_baseAt [.ref 77, .int x1, .int x5] M (some (.int r5), M)) ∧
        (∃ (r6 : Int32), (mq_C mq_X10_times [.ref 77, .int r5, .int x3] M (some (.int r6), M)) ∧
        (∃ (r7 : Int32), (mq_C mq_X10_traceTo [.ref 77, .int r6, .int 1] M (some (.int r7), M)) ∧
        ((¬ x5 = x2 →
          ((¬ r7 = 0 →
            mq_G mq_X10_dualAt (16, [some (.ref 77), some (.int x1), some (.int x2), some (.int x3), some (.int 0), some (.int (x5 + 1))], [], M) res) ∧
          (¬ (¬ r7 = 0) →
            mq_G mq_X10_dualAt (16, [some (.ref 77), some (.int x1), some (.int x2), some (.int x3), some (.int 1), some (.int (x5 + 1))], [], M) res))) ∧
        (¬ (¬ x5 = x2) →
          ((¬ r7 = 1 →
            mq_G mq_X10_dualAt (16, [some (.ref 77), some (.int x1), some (.int x2), some (.int x3), some (.int 0), some (.int (x5 + 1))], [], M) res) ∧
          (¬ (¬ r7 = 1) →
            mq_G mq_X10_dualAt (16, [some (.ref 77), some (.int x1), some (.int x2), some (.int x3), some (.int 1), some (.int (x5 + 1))], [], M) res)))))))))))) :
    mq_G mq_X10_dualAt (16, [some (.ref 77), some (.int x1), some (.int x2), some (.int x3), some (.int x4), some (.int x5)], [], M) res := by
  refine mz_Go.steps (n := 4) (k2 := (if (M.1 77 11) ≤ x5 then 74 else 25, [some (.ref 77), some (.int x1), some (.int x2), some (.int x3), some (.int x4), some (.int x5)], [], M)) (P := []) rfl mz_o0 ?_
  refine mz_Go.ite (fun c22 => ?_) (fun c22 => ?_)
  · replace h := h.1 c22
    refine mz_Go.steps (n := 2) (k2 := (if x4 = 0 then 81 else 79, [some (.ref 77), some (.int x1), some (.int x2), some (.int x3), some (.int x4), some (.int x5)], [], M)) (P := []) rfl mz_o0 ?_
    refine mz_Go.ite (fun c76 => ?_) (fun c76 => ?_)
    · replace h := h.1 c76
      refine mz_Go.steps (n := 2) (k2 := (2, [some (.ref 77), some (.int x1), some (.int x2), some (.int (x3 + 1)), some (.int x4), some (.int x5)], [], M)) (P := []) rfl mz_o0 ?_
      exact h
    · replace h := h.2 c76
      refine mz_Go.steps (n := 1) (k2 := (80, [some (.ref 77), some (.int x1), some (.int x2), some (.int x3), some (.int x4), some (.int x5)], [.int x3], M)) (P := []) rfl mz_o0 ?_
      rw [h]
      exact mz_Go.iret (rfl : mz_find 80 (mz_rows mq_X10_dualAt) = some (80, .ireturn, 1, 0, 0, 0)) rfl
  · replace h := h.2 c22
    refine mz_Go.steps (n := 2) (k2 := (if x4 = 0 then 74 else 30, [some (.ref 77), some (.int x1), some (.int x2), some (.int x3), some (.int x4), some (.int x5)], [], M)) (P := []) rfl mz_o0 ?_
    refine mz_Go.ite (fun c27 => ?_) (fun c27 => ?_)
    · replace h := h.1 c27
      refine mz_Go.steps (n := 2) (k2 := (if x4 = 0 then 81 else 79, [some (.ref 77), some (.int x1), some (.int x2), some (.int x3), some (.int x4), some (.int x5)], [], M)) (P := []) rfl mz_o0 ?_
      refine mz_Go.ite (fun c76 => ?_) (fun c76 => ?_)
      · replace h := h.1 c76
        refine mz_Go.steps (n := 2) (k2 := (2, [some (.ref 77), some (.int x1), some (.int x2), some (.int (x3 + 1)), some (.int x4), some (.int x5)], [], M)) (P := []) rfl mz_o0 ?_
        exact h
      · replace h := h.2 c76
        refine mz_Go.steps (n := 1) (k2 := (80, [some (.ref 77), some (.int x1), some (.int x2), some (.int x3), some (.int x4), some (.int x5)], [.int x3], M)) (P := []) rfl mz_o0 ?_
        rw [h]
        exact mz_Go.iret (rfl : mz_find 80 (mz_rows mq_X10_dualAt) = some (80, .ireturn, 1, 0, 0, 0)) rfl
    · replace h := h.2 c27
      refine mz_Go.steps (n := 5) (k2 := (36, [some (.ref 77), some (.int x1), some (.int x2), some (.int x3), some (.int x4), some (.int x5)], [.int x5, .int x1, .ref 77, .ref 77, .ref 77], M)) (P := []) rfl mz_o0 ?_
      obtain ⟨r5, k5, h⟩ := h
      refine mz_Go.callV (As := [.int x1, .int x5]) (rest := [.ref 77, .ref 77]) (rfl : mz_find 36 (mz_rows mq_X10_dualAt) = some (36, .invokevirtual 123, 3, 167, 0, 171)) (rfl : mz_nth mq_tab 167 = some mq_X10_baseAt) rfl rfl rfl rfl (Nat.le_of_ble_eq_true rfl) (Nat.le_of_ble_eq_true rfl) k5 ?_
      show mq_G mq_X10_dualAt (39, [some (.ref 77), some (.int x1), some (.int x2), some (.int x3), some (.int x4), some (.int x5)], [.int r5, .ref 77, .ref 77], M) res
      refine mz_Go.steps (n := 1) (k2 := (40, [some (.ref 77), some (.int x1), some (.int x2), some (.int x3), some (.int x4), some (.int x5)], [.int x3, .int r5, .ref 77, .ref 77], M)) (P := []) rfl mz_o0 ?_
      obtain ⟨r6, k6, h⟩ := h
      refine mz_Go.callV (As := [.int r5, .int x3]) (rest := [.ref 77]) (rfl : mz_find 40 (mz_rows mq_X10_dualAt) = some (40, .invokevirtual 92, 3, 147, 0, 156)) (rfl : mz_nth mq_tab 147 = some mq_X10_times) rfl rfl rfl rfl (Nat.le_of_ble_eq_true rfl) (Nat.le_of_ble_eq_true rfl) k6 ?_
      show mq_G mq_X10_dualAt (43, [some (.ref 77), some (.int x1), some (.int x2), some (.int x3), some (.int x4), some (.int x5)], [.int r6, .ref 77], M) res
      refine mz_Go.steps (n := 1) (k2 := (44, [some (.ref 77), some (.int x1), some (.int x2), some (.int x3), some (.int x4), some (.int x5)], [.int 1, .int r6, .ref 77], M)) (P := []) rfl mz_o0 ?_
      obtain ⟨r7, k7, h⟩ := h
      refine mz_Go.callV (As := [.int r6, .int 1]) (rest := []) (rfl : mz_find 44 (mz_rows mq_X10_dualAt) = some (44, .invokevirtual 209, 3, 154, 0, 203)) (rfl : mz_nth mq_tab 154 = some mq_X10_traceTo) rfl rfl rfl rfl (Nat.le_of_ble_eq_true rfl) (Nat.le_of_ble_eq_true rfl) k7 ?_
      show mq_G mq_X10_dualAt (47, [some (.ref 77), some (.int x1), some (.int x2), some (.int x3), some (.int x4), some (.int x5)], [.int r7], M) res
      refine mz_Go.steps (n := 3) (k2 := (if ¬ x5 = x2 then 57 else 53, [some (.ref 77), some (.int x1), some (.int x2), some (.int x3), some (.int x4), some (.int x5)], [.int r7], M)) (P := []) rfl mz_o0 ?_
      refine mz_Go.ite (fun c50 => ?_) (fun c50 => ?_)
      · replace h := h.1 c50
        refine mz_Go.steps (n := 2) (k2 := (if ¬ r7 = 0 then 65 else 61, [some (.ref 77), some (.int x1), some (.int x2), some (.int x3), some (.int x4), some (.int x5)], [], M)) (P := []) rfl mz_o0 ?_
        refine mz_Go.ite (fun c58 => ?_) (fun c58 => ?_)
        · replace h := h.1 c58
          refine mz_Go.steps (n := 4) (k2 := (16, [some (.ref 77), some (.int x1), some (.int x2), some (.int x3), some (.int 0), some (.int (x5 + 1))], [], M)) (P := []) rfl mz_o0 ?_
          exact h
        · replace h := h.2 c58
          refine mz_Go.steps (n := 5) (k2 := (16, [some (.ref 77), some (.int x1), some (.int x2), some (.int x3), some (.int 1), some (.int (x5 + 1))], [], M)) (P := []) rfl mz_o0 ?_
          exact h
      · replace h := h.2 c50
        refine mz_Go.steps (n := 3) (k2 := (if ¬ r7 = 1 then 65 else 61, [some (.ref 77), some (.int x1), some (.int x2), some (.int x3), some (.int x4), some (.int x5)], [], M)) (P := []) rfl mz_o0 ?_
        refine mz_Go.ite (fun c58 => ?_) (fun c58 => ?_)
        · replace h := h.1 c58
          refine mz_Go.steps (n := 4) (k2 := (16, [some (.ref 77), some (.int x1), some (.int x2), some (.int x3), some (.int 0), some (.int (x5 + 1))], [], M)) (P := []) rfl mz_o0 ?_
          exact h
        · replace h := h.2 c58
          refine mz_Go.steps (n := 5) (k2 := (16, [some (.ref 77), some (.int x1), some (.int x2), some (.int x3), some (.int 1), some (.int (x5 + 1))], [], M)) (P := []) rfl mz_o0 ?_
          exact h
set_option maxRecDepth 100000 in
set_option maxHeartbeats 4000000 in
theorem t_X10_takesDual_0 (x1 : Int32) (M : mz_M) {res : mz_O} (h :
    mq_G mq_X10_takesDual (2, [some (.ref 77), some (.int x1), some (.int 0)], [], M) res) :
    mq_G mq_X10_takesDual (0, [some (.ref 77), some (.int x1), none], [], M) res := by
  refine mz_Go.steps (n := 2) (k2 := (2, [some (.ref 77), some (.int x1), some (.int 0)], [], M)) (P := []) rfl mz_o0 ?_
  exact h
set_option maxRecDepth 100000 in
set_option maxHeartbeats 4000000 in
theorem t_X10_takesDual_2 (x1 : Int32) (x2 : Int32) (M : mz_M) {res : mz_O} (h :
    (((M.1 77 11) ≤ x2 →
      res = (none, M)) ∧
    (¬ ((M.1 77 11) ≤ x2) →
      (∃ (r2 : Int32), (mq_C mq_X10_dualAt [.ref 77, .int x1, .int x2] M (some (.int r2), M)) ∧
      (vp_in x2 8) ∧
      (∀ M3 : mz_M, M3 = mz_wr M 89 (upd (M.1 89) x2.toNatClampNeg r2) →
      mq_G mq_X10_takesDual (2, [some (.ref 77), some (.int x1), some (.int (x2 + 1))], [], M3) res))))) :
    mq_G mq_X10_takesDual (2, [some (.ref 77), some (.int x1), some (.int x2)], [], M) res := by
  refine mz_Go.steps (n := 4) (k2 := (if (M.1 77 11) ≤ x2 then 28 else 10, [some (.ref 77), some (.int x1), some (.int x2)], [], M)) (P := []) rfl mz_o0 ?_
  refine mz_Go.ite (fun c7 => ?_) (fun c7 => ?_)
  · replace h := h.1 c7
    rw [h]
    exact mz_Go.vret (rfl : mz_find 28 (mz_rows mq_X10_takesDual) = some (28, .return_, 1, 0, 0, 0)) rfl
  · replace h := h.2 c7
    refine mz_Go.steps (n := 6) (k2 := (18, [some (.ref 77), some (.int x1), some (.int x2)], [.int x2, .int x1, .ref 77, .int x2, .ref 89], M)) (P := []) rfl mz_o0 ?_
    obtain ⟨r2, k2, h⟩ := h
    refine mz_Go.callV (As := [.int x1, .int x2]) (rest := [.int x2, .ref 89]) (rfl : mz_find 18 (mz_rows mq_X10_takesDual) = some (18, .invokevirtual 268, 3, 233, 0, 224)) (rfl : mz_nth mq_tab 233 = some mq_X10_dualAt) rfl rfl rfl rfl (Nat.le_of_ble_eq_true rfl) (Nat.le_of_ble_eq_true rfl) k2 ?_
    show mq_G mq_X10_takesDual (21, [some (.ref 77), some (.int x1), some (.int x2)], [.int r2, .int x2, .ref 89], M) res
    obtain ⟨q4, h⟩ := h
    obtain ⟨M3, e3⟩ : ∃ y, y = mz_wr M 89 (upd (M.1 89) x2.toNatClampNeg r2) := ⟨_, rfl⟩
    replace h := h M3 e3
    refine mz_Go.steps (n := 1) (k2 := (22, [some (.ref 77), some (.int x1), some (.int x2)], [], (mz_wr M 89 (upd (M.1 89) x2.toNatClampNeg r2)))) (P := [vp_in x2 8]) rfl (mz_o1 q4) ?_
    rw [← e3]
    refine mz_Go.steps (n := 2) (k2 := (2, [some (.ref 77), some (.int x1), some (.int (x2 + 1))], [], M3)) (P := []) rfl mz_o0 ?_
    exact h
set_option maxRecDepth 100000 in
set_option maxHeartbeats 4000000 in
theorem t_X10_dual_0 (x1 : Int32) (x2 : Int32) (M : mz_M) {res : mz_O} (h :
    (∀ M1 : mz_M, M1 = mz_wr M 77 (upd (M.1 77) 10 0) →
    (∃ (r2 : Int32), (mq_C mq_X10_isSlot [.int x1] M1 (some (.int r2), M1)) ∧
    ((r2 = 0 →
      res = (some (.int (-1)), M1)) ∧
    (¬ (r2 = 0) →
      (∃ (r4 : Int32), (mq_C mq_X10_isSlot [.int x2] M1 (some (.int r4), M1)) ∧
      ((¬ r4 = 0 →
        (∃ (M6 : mz_M), (mq_C mq_X10_takesDual [.ref 77, .int x1] M1 (none, M6)) ∧
        (∀ M7 : mz_M, M7 = mz_wr M6 77 (upd (M6.1 77) 9 0) →
        mq_G mq_X10_dual (33, [some (.ref 77), some (.int x1), some (.int x2), some (.int 0)], [], M7) res))) ∧
      (¬ (¬ r4 = 0) →
        res = (some (.int (-1)), M1))))))))) :
    mq_G mq_X10_dual (0, [some (.ref 77), some (.int x1), some (.int x2), none], [], M) res := by
  obtain ⟨M1, e1⟩ : ∃ y, y = mz_wr M 77 (upd (M.1 77) 10 0) := ⟨_, rfl⟩
  replace h := h M1 e1
  refine mz_Go.steps (n := 3) (k2 := (5, [some (.ref 77), some (.int x1), some (.int x2), none], [], (mz_wr M 77 (upd (M.1 77) 10 0)))) (P := []) rfl mz_o0 ?_
  rw [← e1]
  refine mz_Go.steps (n := 1) (k2 := (6, [some (.ref 77), some (.int x1), some (.int x2), none], [.int x1], M1)) (P := []) rfl mz_o0 ?_
  obtain ⟨r2, k2, h⟩ := h
  refine mz_Go.callS (As := [.int x1]) (rest := []) (rfl : mz_find 6 (mz_rows mq_X10_dual) = some (6, .invokestatic 244, 3, 158, 0, 215)) (rfl : mz_nth mq_tab 158 = some mq_X10_isSlot) (by decide) rfl rfl rfl (Nat.le_of_ble_eq_true rfl) (Nat.le_of_ble_eq_true rfl) k2 ?_
  show mq_G mq_X10_dual (9, [some (.ref 77), some (.int x1), some (.int x2), none], [.int r2], M1) res
  refine mz_Go.steps (n := 1) (k2 := (if r2 = 0 then 19 else 12, [some (.ref 77), some (.int x1), some (.int x2), none], [], M1)) (P := []) rfl mz_o0 ?_
  refine mz_Go.ite (fun c9 => ?_) (fun c9 => ?_)
  · replace h := h.1 c9
    refine mz_Go.steps (n := 1) (k2 := (20, [some (.ref 77), some (.int x1), some (.int x2), none], [.int (-1)], M1)) (P := []) rfl mz_o0 ?_
    rw [h]
    exact mz_Go.iret (rfl : mz_find 20 (mz_rows mq_X10_dual) = some (20, .ireturn, 1, 0, 0, 0)) rfl
  · replace h := h.2 c9
    refine mz_Go.steps (n := 1) (k2 := (13, [some (.ref 77), some (.int x1), some (.int x2), none], [.int x2], M1)) (P := []) rfl mz_o0 ?_
    obtain ⟨r4, k4, h⟩ := h
    refine mz_Go.callS (As := [.int x2]) (rest := []) (rfl : mz_find 13 (mz_rows mq_X10_dual) = some (13, .invokestatic 244, 3, 158, 0, 215)) (rfl : mz_nth mq_tab 158 = some mq_X10_isSlot) (by decide) rfl rfl rfl (Nat.le_of_ble_eq_true rfl) (Nat.le_of_ble_eq_true rfl) k4 ?_
    show mq_G mq_X10_dual (16, [some (.ref 77), some (.int x1), some (.int x2), none], [.int r4], M1) res
    refine mz_Go.steps (n := 1) (k2 := (if ¬ r4 = 0 then 21 else 19, [some (.ref 77), some (.int x1), some (.int x2), none], [], M1)) (P := []) rfl mz_o0 ?_
    refine mz_Go.ite (fun c16 => ?_) (fun c16 => ?_)
    · replace h := h.1 c16
      refine mz_Go.steps (n := 2) (k2 := (23, [some (.ref 77), some (.int x1), some (.int x2), none], [.int x1, .ref 77], M1)) (P := []) rfl mz_o0 ?_
      obtain ⟨M6, k6, h⟩ := h
      refine mz_Go.callV (As := [.int x1]) (rest := []) (rfl : mz_find 23 (mz_rows mq_X10_dual) = some (23, .invokevirtual 271, 3, 234, 0, 225)) (rfl : mz_nth mq_tab 234 = some mq_X10_takesDual) rfl rfl rfl rfl (Nat.le_of_ble_eq_true rfl) (Nat.le_of_ble_eq_true rfl) k6 ?_
      show mq_G mq_X10_dual (26, [some (.ref 77), some (.int x1), some (.int x2), none], [], M6) res
      obtain ⟨M7, e7⟩ : ∃ y, y = mz_wr M6 77 (upd (M6.1 77) 9 0) := ⟨_, rfl⟩
      replace h := h M7 e7
      refine mz_Go.steps (n := 3) (k2 := (31, [some (.ref 77), some (.int x1), some (.int x2), none], [], (mz_wr M6 77 (upd (M6.1 77) 9 0)))) (P := []) rfl mz_o0 ?_
      rw [← e7]
      refine mz_Go.steps (n := 2) (k2 := (33, [some (.ref 77), some (.int x1), some (.int x2), some (.int 0)], [], M7)) (P := []) rfl mz_o0 ?_
      exact h
    · replace h := h.2 c16
      refine mz_Go.steps (n := 1) (k2 := (20, [some (.ref 77), some (.int x1), some (.int x2), none], [.int (-1)], M1)) (P := []) rfl mz_o0 ?_
      rw [h]
      exact mz_Go.iret (rfl : mz_find 20 (mz_rows mq_X10_dual) = some (20, .ireturn, 1, 0, 0, 0)) rfl
set_option maxRecDepth 100000 in
set_option maxHeartbeats 4000000 in
theorem t_X10_dual_33 (o1 : Option Value) (x2 : Int32) (x3 : Int32) (M : mz_M) {res : mz_O} (h :
    (((M.1 77 11) ≤ x3 →
      (∃ (M2 : mz_M), (mq_C mq_X10_someIsBase [.ref 77] M (none, M2)) ∧
      (∃ (r3 : Int32) (M3 : mz_M), (mq_C mq_X10_holds [.ref 77, .int x2] M2 (some (.int r3), M3)) ∧
      res = (some (.int r3), M3)))) ∧
    (¬ ((M.1 77 11) ≤ x3) →
      (vp_in x3 8) ∧
      (vp_in x3 8) ∧
      (∀ M4 : mz_M, M4 = mz_wr M 84 (upd (M.1 84) x3.toNatClampNeg (M.1 89 x3.toNatClampNeg)) →
      (vp_in x3 8) ∧
      (∃ (M8 : mz_M), (mq_C mq_X10_tell [.ref 77, .long ((M4.1 89 x3.toNatClampNeg).toInt64)] M4 (none, M8)) ∧
      mq_G mq_X10_dual (33, [some (.ref 77), o1, some (.int x2), some (.int (x3 + 1))], [], M8) res))))) :
    mq_G mq_X10_dual (33, [some (.ref 77), o1, some (.int x2), some (.int x3)], [], M) res := by
  refine mz_Go.steps (n := 4) (k2 := (if (M.1 77 11) ≤ x3 then 70 else 41, [some (.ref 77), o1, some (.int x2), some (.int x3)], [], M)) (P := []) rfl mz_o0 ?_
  refine mz_Go.ite (fun c38 => ?_) (fun c38 => ?_)
  · replace h := h.1 c38
    refine mz_Go.steps (n := 1) (k2 := (71, [some (.ref 77), o1, some (.int x2), some (.int x3)], [.ref 77], M)) (P := []) rfl mz_o0 ?_
    obtain ⟨M2, k2, h⟩ := h
    refine mz_Go.callV (As := []) (rest := []) (rfl : mz_find 71 (mz_rows mq_X10_dual) = some (71, .invokevirtual 226, 3, 172, 0, 209)) (rfl : mz_nth mq_tab 172 = some mq_X10_someIsBase) rfl rfl rfl rfl (Nat.le_of_ble_eq_true rfl) (Nat.le_of_ble_eq_true rfl) k2 ?_
    show mq_G mq_X10_dual (74, [some (.ref 77), o1, some (.int x2), some (.int x3)], [], M2) res
    refine mz_Go.steps (n := 2) (k2 := (76, [some (.ref 77), o1, some (.int x2), some (.int x3)], [.int x2, .ref 77], M2)) (P := []) rfl mz_o0 ?_
    obtain ⟨r3, M3, k3, h⟩ := h
    refine mz_Go.callV (As := [.int x2]) (rest := []) (rfl : mz_find 76 (mz_rows mq_X10_dual) = some (76, .invokevirtual 247, 3, 174, 0, 216)) (rfl : mz_nth mq_tab 174 = some mq_X10_holds) rfl rfl rfl rfl (Nat.le_of_ble_eq_true rfl) (Nat.le_of_ble_eq_true rfl) k3 ?_
    show mq_G mq_X10_dual (79, [some (.ref 77), o1, some (.int x2), some (.int x3)], [.int r3], M3) res
    rw [h]
    exact mz_Go.iret (rfl : mz_find 79 (mz_rows mq_X10_dual) = some (79, .ireturn, 1, 0, 0, 0)) rfl
  · replace h := h.2 c38
    obtain ⟨q5, q6, h⟩ := h
    obtain ⟨M4, e4⟩ : ∃ y, y = mz_wr M 84 (upd (M.1 84) x3.toNatClampNeg (M.1 89 x3.toNatClampNeg)) := ⟨_, rfl⟩
    replace h := h M4 e4
    refine mz_Go.steps (n := 8) (k2 := (53, [some (.ref 77), o1, some (.int x2), some (.int x3)], [], (mz_wr M 84 (upd (M.1 84) x3.toNatClampNeg (M.1 89 x3.toNatClampNeg))))) (P := [vp_in x3 8, vp_in x3 8]) rfl (mz_o2 q5 q6) ?_
    rw [← e4]
    obtain ⟨q7, h⟩ := h
    refine mz_Go.steps (n := 6) (k2 := (61, [some (.ref 77), o1, some (.int x2), some (.int x3)], [.long ((M4.1 89 x3.toNatClampNeg).toInt64), .ref 77], M4)) (P := [vp_in x3 8]) rfl (mz_o1 q7) ?_
    obtain ⟨M8, k8, h⟩ := h
    refine mz_Go.callV (As := [.long ((M4.1 89 x3.toNatClampNeg).toInt64)]) (rest := []) (rfl : mz_find 61 (mz_rows mq_X10_dual) = some (61, .invokevirtual 194, 3, 135, 0, 198)) (rfl : mz_nth mq_tab 135 = some mq_X10_tell) rfl rfl rfl rfl (Nat.le_of_ble_eq_true rfl) (Nat.le_of_ble_eq_true rfl) k8 ?_
    show mq_G mq_X10_dual (64, [some (.ref 77), o1, some (.int x2), some (.int x3)], [], M8) res
    refine mz_Go.steps (n := 2) (k2 := (33, [some (.ref 77), o1, some (.int x2), some (.int (x3 + 1))], [], M8)) (P := []) rfl mz_o0 ?_
    exact h
set_option maxRecDepth 100000 in
set_option maxHeartbeats 4000000 in
theorem t_X10_placeOf_0 (x1 : Int32) (x2 : Int32) (M : mz_M) {res : mz_O} (h :
    mq_G mq_X10_placeOf (2, [some (.ref 77), some (.int x1), some (.int x2), some (.int 0)], [], M) res) :
    mq_G mq_X10_placeOf (0, [some (.ref 77), some (.int x1), some (.int x2), none], [], M) res := by
  refine mz_Go.steps (n := 2) (k2 := (2, [some (.ref 77), some (.int x1), some (.int x2), some (.int 0)], [], M)) (P := []) rfl mz_o0 ?_
  exact h
set_option maxRecDepth 100000 in
set_option maxHeartbeats 4000000 in
theorem t_X10_placeOf_2 (x1 : Int32) (x2 : Int32) (x3 : Int32) (M : mz_M) {res : mz_O} (h :
    (((M.1 77 11) ≤ x3 →
      res = (some (.int (-1)), M)) ∧
    (¬ ((M.1 77 11) ≤ x3) →
      (∃ (r2 : Int32), (mq_C mq_X10_baseAt [.ref 77, .int x1, .int x3] M (some (.int r2), M)) ∧
      ((¬ r2 = x2 →
        mq_G mq_X10_placeOf (2, [some (.ref 77), some (.int x1), some (.int x2), some (.int (x3 + 1))], [], M) res) ∧
      (¬ (¬ r2 = x2) →
        res = (some (.int x3), M))))))) :
    mq_G mq_X10_placeOf (2, [some (.ref 77), some (.int x1), some (.int x2), some (.int x3)], [], M) res := by
  refine mz_Go.steps (n := 4) (k2 := (if (M.1 77 11) ≤ x3 then 28 else 10, [some (.ref 77), some (.int x1), some (.int x2), some (.int x3)], [], M)) (P := []) rfl mz_o0 ?_
  refine mz_Go.ite (fun c7 => ?_) (fun c7 => ?_)
  · replace h := h.1 c7
    refine mz_Go.steps (n := 1) (k2 := (29, [some (.ref 77), some (.int x1), some (.int x2), some (.int x3)], [.int (-1)], M)) (P := []) rfl mz_o0 ?_
    rw [h]
    exact mz_Go.iret (rfl : mz_find 29 (mz_rows mq_X10_placeOf) = some (29, .ireturn, 1, 0, 0, 0)) rfl
  · replace h := h.2 c7
    refine mz_Go.steps (n := 3) (k2 := (13, [some (.ref 77), some (.int x1), some (.int x2), some (.int x3)], [.int x3, .int x1, .ref 77], M)) (P := []) rfl mz_o0 ?_
    obtain ⟨r2, k2, h⟩ := h
    refine mz_Go.callV (As := [.int x1, .int x3]) (rest := []) (rfl : mz_find 13 (mz_rows mq_X10_placeOf) = some (13, .invokevirtual 123, 3, 167, 0, 171)) (rfl : mz_nth mq_tab 167 = some mq_X10_baseAt) rfl rfl rfl rfl (Nat.le_of_ble_eq_true rfl) (Nat.le_of_ble_eq_true rfl) k2 ?_
    show mq_G mq_X10_placeOf (16, [some (.ref 77), some (.int x1), some (.int x2), some (.int x3)], [.int r2], M) res
    refine mz_Go.steps (n := 2) (k2 := (if ¬ r2 = x2 then 22 else 20, [some (.ref 77), some (.int x1), some (.int x2), some (.int x3)], [], M)) (P := []) rfl mz_o0 ?_
    refine mz_Go.ite (fun c17 => ?_) (fun c17 => ?_)
    · replace h := h.1 c17
      refine mz_Go.steps (n := 2) (k2 := (2, [some (.ref 77), some (.int x1), some (.int x2), some (.int (x3 + 1))], [], M)) (P := []) rfl mz_o0 ?_
      exact h
    · replace h := h.2 c17
      refine mz_Go.steps (n := 1) (k2 := (21, [some (.ref 77), some (.int x1), some (.int x2), some (.int x3)], [.int x3], M)) (P := []) rfl mz_o0 ?_
      rw [h]
      exact mz_Go.iret (rfl : mz_find 21 (mz_rows mq_X10_placeOf) = some (21, .ireturn, 1, 0, 0, 0)) rfl
set_option maxRecDepth 100000 in
set_option maxHeartbeats 4000000 in
theorem t_X10_weakly_0 (x1 : Int32) (M : mz_M) {res : mz_O} (h :
    (∀ M1 : mz_M, M1 = mz_wr M 77 (upd (M.1 77) 10 0) →
    (∃ (r2 : Int32), (mq_C mq_X10_isSlot [.int x1] M1 (some (.int r2), M1)) ∧
    ((¬ r2 = 0 →
      (∃ (M4 : mz_M), (mq_C mq_X10_takesDual [.ref 77, .int x1] M1 (none, M4)) ∧
      mq_G mq_X10_weakly (21, [some (.ref 77), some (.int x1), some (.int 1), none, none], [], M4) res)) ∧
    (¬ (¬ r2 = 0) →
      res = (some (.int (-1)), M1)))))) :
    mq_G mq_X10_weakly (0, [some (.ref 77), some (.int x1), none, none, none], [], M) res := by
  obtain ⟨M1, e1⟩ : ∃ y, y = mz_wr M 77 (upd (M.1 77) 10 0) := ⟨_, rfl⟩
  replace h := h M1 e1
  refine mz_Go.steps (n := 3) (k2 := (5, [some (.ref 77), some (.int x1), none, none, none], [], (mz_wr M 77 (upd (M.1 77) 10 0)))) (P := []) rfl mz_o0 ?_
  rw [← e1]
  refine mz_Go.steps (n := 1) (k2 := (6, [some (.ref 77), some (.int x1), none, none, none], [.int x1], M1)) (P := []) rfl mz_o0 ?_
  obtain ⟨r2, k2, h⟩ := h
  refine mz_Go.callS (As := [.int x1]) (rest := []) (rfl : mz_find 6 (mz_rows mq_X10_weakly) = some (6, .invokestatic 244, 3, 158, 0, 215)) (rfl : mz_nth mq_tab 158 = some mq_X10_isSlot) (by decide) rfl rfl rfl (Nat.le_of_ble_eq_true rfl) (Nat.le_of_ble_eq_true rfl) k2 ?_
  show mq_G mq_X10_weakly (9, [some (.ref 77), some (.int x1), none, none, none], [.int r2], M1) res
  refine mz_Go.steps (n := 1) (k2 := (if ¬ r2 = 0 then 14 else 12, [some (.ref 77), some (.int x1), none, none, none], [], M1)) (P := []) rfl mz_o0 ?_
  refine mz_Go.ite (fun c9 => ?_) (fun c9 => ?_)
  · replace h := h.1 c9
    refine mz_Go.steps (n := 2) (k2 := (16, [some (.ref 77), some (.int x1), none, none, none], [.int x1, .ref 77], M1)) (P := []) rfl mz_o0 ?_
    obtain ⟨M4, k4, h⟩ := h
    refine mz_Go.callV (As := [.int x1]) (rest := []) (rfl : mz_find 16 (mz_rows mq_X10_weakly) = some (16, .invokevirtual 271, 3, 234, 0, 225)) (rfl : mz_nth mq_tab 234 = some mq_X10_takesDual) rfl rfl rfl rfl (Nat.le_of_ble_eq_true rfl) (Nat.le_of_ble_eq_true rfl) k4 ?_
    show mq_G mq_X10_weakly (19, [some (.ref 77), some (.int x1), none, none, none], [], M4) res
    refine mz_Go.steps (n := 2) (k2 := (21, [some (.ref 77), some (.int x1), some (.int 1), none, none], [], M4)) (P := []) rfl mz_o0 ?_
    exact h
  · replace h := h.2 c9
    refine mz_Go.steps (n := 1) (k2 := (13, [some (.ref 77), some (.int x1), none, none, none], [.int (-1)], M1)) (P := []) rfl mz_o0 ?_
    rw [h]
    exact mz_Go.iret (rfl : mz_find 13 (mz_rows mq_X10_weakly) = some (13, .ireturn, 1, 0, 0, 0)) rfl
set_option maxRecDepth 100000 in
set_option maxHeartbeats 4000000 in
theorem t_X10_weakly_21 (x1 : Int32) (x2 : Int32) (o3 : Option Value) (o4 : Option Value) (M : mz_M) {res : mz_O} (h :
    (((M.1 77 12) ≤ x2 →
      res = (some (.int (-2)), M)) ∧
    (¬ ((M.1 77 12) ≤ x2) →
      mq_G mq_X10_weakly (34, [some (.ref 77), some (.int x1), some (.int x2), some (.int 1), some (.int 0)], [], M) res))) :
    mq_G mq_X10_weakly (21, [some (.ref 77), some (.int x1), some (.int x2), o3, o4], [], M) res := by
  refine mz_Go.steps (n := 4) (k2 := (if (M.1 77 12) ≤ x2 then 140 else 29, [some (.ref 77), some (.int x1), some (.int x2), o3, o4], [], M)) (P := []) rfl mz_o0 ?_
  refine mz_Go.ite (fun c26 => ?_) (fun c26 => ?_)
  · replace h := h.1 c26
    refine mz_Go.steps (n := 1) (k2 := (142, [some (.ref 77), some (.int x1), some (.int x2), o3, o4], [.int (-2)], M)) (P := []) rfl mz_o0 ?_
    rw [h]
    exact mz_Go.iret (rfl : mz_find 142 (mz_rows mq_X10_weakly) = some (142, .ireturn, 1, 0, 0, 0)) rfl
  · replace h := h.2 c26
    refine mz_Go.steps (n := 4) (k2 := (34, [some (.ref 77), some (.int x1), some (.int x2), some (.int 1), some (.int 0)], [], M)) (P := []) rfl mz_o0 ?_
    exact h
set_option maxRecDepth 100000 in
set_option maxHeartbeats 4000000 in
theorem t_X10_weakly_34 (x1 : Int32) (x2 : Int32) (x3 : Int32) (x4 : Int32) (M : mz_M) {res : mz_O} (h :
    (((M.1 77 11) ≤ x4 →
      ((¬ x3 = 0 →
        (∀ M3 : mz_M, M3 = mz_wr M 77 (upd (M.1 77) 9 0) →
        mq_G mq_X10_weakly (95, [some (.ref 77), some (.int x1), some (.int x2), some (.int x3), some (.int 0)], [], M3) res)) ∧
      (¬ (¬ x3 = 0) →
        mq_G mq_X10_weakly (21, [some (.ref 77), some (.int x1), some (.int (x2 + 1)), some (.int x3), some (.int x4)], [], M) res))) ∧
    (¬ ((M.1 77 11) ≤ x4) →
      ((x3 = 0 →
        mq_G mq_X10_weakly (34, [some (.ref 77), some (.int x1), some (.int x2), some (.int 0), some (.int (x4 + 1))], [], M) res) ∧
      (¬ (x3 = 0) →
        (vp_in x4 8) ∧
        (∃ (r6 : Int32), (mq_C mq_X10_times [.ref 77, .int x2, .int (M.1 89 x4.toNatClampNeg)] M (some (.int r6), M)) ∧
        (∃ (r7 : Int32), (mq_C mq_X10_placeOf [.ref 77, .int x1, .int r6] M (some (.int r7), M)) ∧
        ((r7 = (-1) →
          mq_G mq_X10_weakly (34, [some (.ref 77), some (.int x1), some (.int x2), some (.int 0), some (.int (x4 + 1))], [], M) res) ∧
        (¬ (r7 = (-1)) →
          mq_G mq_X10_weakly (34, [some (.ref 77), some (.int x1), some (.int x2), some (.int 1), some (.int (x4 + 1))], [], M) res))))))))) :
    mq_G mq_X10_weakly (34, [some (.ref 77), some (.int x1), some (.int x2), some (.int x3), some (.int x4)], [], M) res := by
  refine mz_Go.steps (n := 4) (k2 := (if (M.1 77 11) ≤ x4 then 80 else 43, [some (.ref 77), some (.int x1), some (.int x2), some (.int x3), some (.int x4)], [], M)) (P := []) rfl mz_o0 ?_
  refine mz_Go.ite (fun c40 => ?_) (fun c40 => ?_)
  · replace h := h.1 c40
    refine mz_Go.steps (n := 2) (k2 := (if ¬ x3 = 0 then 87 else 84, [some (.ref 77), some (.int x1), some (.int x2), some (.int x3), some (.int x4)], [], M)) (P := []) rfl mz_o0 ?_
    refine mz_Go.ite (fun c81 => ?_) (fun c81 => ?_)
    · replace h := h.1 c81
      obtain ⟨M3, e3⟩ : ∃ y, y = mz_wr M 77 (upd (M.1 77) 9 0) := ⟨_, rfl⟩
      replace h := h M3 e3
      refine mz_Go.steps (n := 3) (k2 := (92, [some (.ref 77), some (.int x1), some (.int x2), some (.int x3), some (.int x4)], [], (mz_wr M 77 (upd (M.1 77) 9 0)))) (P := []) rfl mz_o0 ?_
      rw [← e3]
      refine mz_Go.steps (n := 2) (k2 := (95, [some (.ref 77), some (.int x1), some (.int x2), some (.int x3), some (.int 0)], [], M3)) (P := []) rfl mz_o0 ?_
      exact h
    · replace h := h.2 c81
      refine mz_Go.steps (n := 3) (k2 := (21, [some (.ref 77), some (.int x1), some (.int (x2 + 1)), some (.int x3), some (.int x4)], [], M)) (P := []) rfl mz_o0 ?_
      exact h
  · replace h := h.2 c40
    refine mz_Go.steps (n := 2) (k2 := (if x3 = 0 then 72 else 47, [some (.ref 77), some (.int x1), some (.int x2), some (.int x3), some (.int x4)], [], M)) (P := []) rfl mz_o0 ?_
    refine mz_Go.ite (fun c44 => ?_) (fun c44 => ?_)
    · replace h := h.1 c44
      refine mz_Go.steps (n := 4) (k2 := (34, [some (.ref 77), some (.int x1), some (.int x2), some (.int 0), some (.int (x4 + 1))], [], M)) (P := []) rfl mz_o0 ?_
      exact h
    · replace h := h.2 c44
      obtain ⟨q5, h⟩ := h
      refine mz_Go.steps (n := 8) (k2 := (58, [some (.ref 77), some (.int x1), some (.int x2), some (.int x3), some (.int x4)], [.int (M.1 89 x4.toNatClampNeg), .int x2, .ref 77, .int x1, .ref 77], M)) (P := [vp_in x4 8]) rfl (mz_o1 q5) ?_
      obtain ⟨r6, k6, h⟩ := h
      refine mz_Go.callV (As := [.int x2, .int (M.1 89 x4.toNatClampNeg)]) (rest := [.int x1, .ref 77]) (rfl : mz_find 58 (mz_rows mq_X10_weakly) = some (58, .invokevirtual 92, 3, 147, 0, 156)) (rfl : mz_nth mq_tab 147 = some mq_X10_times) rfl rfl rfl rfl (Nat.le_of_ble_eq_true rfl) (Nat.le_of_ble_eq_true rfl) k6 ?_
      show mq_G mq_X10_weakly (61, [some (.ref 77), some (.int x1), some (.int x2), some (.int x3), some (.int x4)], [.int r6, .int x1, .ref 77], M) res
      obtain ⟨r7, k7, h⟩ := h
      refine mz_Go.callV (As := [.int x1, .int r6]) (rest := []) (rfl : mz_find 61 (mz_rows mq_X10_weakly) = some (61, .invokevirtual 274, 3, 236, 0, 226)) (rfl : mz_nth mq_tab 236 = some mq_X10_placeOf) rfl rfl rfl rfl (Nat.le_of_ble_eq_true rfl) (Nat.le_of_ble_eq_true rfl) k7 ?_
      show mq_G mq_X10_weakly (64, [some (.ref 77), some (.int x1), some (.int x2), some (.int x3), some (.int x4)], [.int r7], M) res
      refine mz_Go.steps (n := 2) (k2 := (if r7 = (-1) then 72 else 68, [some (.ref 77), some (.int x1), some (.int x2), some (.int x3), some (.int x4)], [], M)) (P := []) rfl mz_o0 ?_
      refine mz_Go.ite (fun c65 => ?_) (fun c65 => ?_)
      · replace h := h.1 c65
        refine mz_Go.steps (n := 4) (k2 := (34, [some (.ref 77), some (.int x1), some (.int x2), some (.int 0), some (.int (x4 + 1))], [], M)) (P := []) rfl mz_o0 ?_
        exact h
      · replace h := h.2 c65
        refine mz_Go.steps (n := 5) (k2 := (34, [some (.ref 77), some (.int x1), some (.int x2), some (.int 1), some (.int (x4 + 1))], [], M)) (P := []) rfl mz_o0 ?_
        exact h
set_option maxRecDepth 100000 in
set_option maxHeartbeats 4000000 in
theorem t_X10_weakly_95 (x1 : Int32) (x2 : Int32) (o3 : Option Value) (x4 : Int32) (M : mz_M) {res : mz_O} (h :
    (((M.1 77 11) ≤ x4 →
      res = (some (.int x2), M)) ∧
    (¬ ((M.1 77 11) ≤ x4) →
      (vp_in x4 8) ∧
      (∃ (r3 : Int32), (mq_C mq_X10_times [.ref 77, .int x2, .int (M.1 89 x4.toNatClampNeg)] M (some (.int r3), M)) ∧
      (∃ (r4 : Int32), (mq_C mq_X10_placeOf [.ref 77, .int x1, .int r3] M (some (.int r4), M)) ∧
      (∃ (M5 : mz_M), (mq_C mq_X10_tell [.ref 77, .long (r4.toInt64)] M (none, M5)) ∧
      mq_G mq_X10_weakly (95, [some (.ref 77), some (.int x1), some (.int x2), (mz_nw o3), some (.int (x4 + 1))], [], M5) res)))))) :
    mq_G mq_X10_weakly (95, [some (.ref 77), some (.int x1), some (.int x2), o3, some (.int x4)], [], M) res := by
  refine mz_Go.steps (n := 4) (k2 := (if (M.1 77 11) ≤ x4 then 132 else 104, [some (.ref 77), some (.int x1), some (.int x2), o3, some (.int x4)], [], M)) (P := []) rfl mz_o0 ?_
  refine mz_Go.ite (fun c101 => ?_) (fun c101 => ?_)
  · replace h := h.1 c101
    refine mz_Go.steps (n := 1) (k2 := (133, [some (.ref 77), some (.int x1), some (.int x2), o3, some (.int x4)], [.int x2], M)) (P := []) rfl mz_o0 ?_
    rw [h]
    exact mz_Go.iret (rfl : mz_find 133 (mz_rows mq_X10_weakly) = some (133, .ireturn, 1, 0, 0, 0)) rfl
  · replace h := h.2 c101
    obtain ⟨q2, h⟩ := h
    refine mz_Go.steps (n := 9) (k2 := (116, [some (.ref 77), some (.int x1), some (.int x2), o3, some (.int x4)], [.int (M.1 89 x4.toNatClampNeg), .int x2, .ref 77, .int x1, .ref 77, .ref 77], M)) (P := [vp_in x4 8]) rfl (mz_o1 q2) ?_
    obtain ⟨r3, k3, h⟩ := h
    refine mz_Go.callV (As := [.int x2, .int (M.1 89 x4.toNatClampNeg)]) (rest := [.int x1, .ref 77, .ref 77]) (rfl : mz_find 116 (mz_rows mq_X10_weakly) = some (116, .invokevirtual 92, 3, 147, 0, 156)) (rfl : mz_nth mq_tab 147 = some mq_X10_times) rfl rfl rfl rfl (Nat.le_of_ble_eq_true rfl) (Nat.le_of_ble_eq_true rfl) k3 ?_
    show mq_G mq_X10_weakly (119, [some (.ref 77), some (.int x1), some (.int x2), o3, some (.int x4)], [.int r3, .int x1, .ref 77, .ref 77], M) res
    obtain ⟨r4, k4, h⟩ := h
    refine mz_Go.callV (As := [.int x1, .int r3]) (rest := [.ref 77]) (rfl : mz_find 119 (mz_rows mq_X10_weakly) = some (119, .invokevirtual 274, 3, 236, 0, 226)) (rfl : mz_nth mq_tab 236 = some mq_X10_placeOf) rfl rfl rfl rfl (Nat.le_of_ble_eq_true rfl) (Nat.le_of_ble_eq_true rfl) k4 ?_
    show mq_G mq_X10_weakly (122, [some (.ref 77), some (.int x1), some (.int x2), o3, some (.int x4)], [.int r4, .ref 77], M) res
    refine mz_Go.steps (n := 1) (k2 := (123, [some (.ref 77), some (.int x1), some (.int x2), o3, some (.int x4)], [.long (r4.toInt64), .ref 77], M)) (P := []) rfl mz_o0 ?_
    obtain ⟨M5, k5, h⟩ := h
    refine mz_Go.callV (As := [.long (r4.toInt64)]) (rest := []) (rfl : mz_find 123 (mz_rows mq_X10_weakly) = some (123, .invokevirtual 194, 3, 135, 0, 198)) (rfl : mz_nth mq_tab 135 = some mq_X10_tell) rfl rfl rfl rfl (Nat.le_of_ble_eq_true rfl) (Nat.le_of_ble_eq_true rfl) k5 ?_
    show mq_G mq_X10_weakly (126, [some (.ref 77), some (.int x1), some (.int x2), o3, some (.int x4)], [], M5) res
    refine mz_Go.steps (n := 2) (k2 := (95, [some (.ref 77), some (.int x1), some (.int x2), (mz_nw o3), some (.int (x4 + 1))], [], M5)) (P := []) rfl mz_o0 ?_
    exact h
set_option maxRecDepth 100000 in
set_option maxHeartbeats 4000000 in
theorem t_X10_traces_0 (x1 : Int32) (M : mz_M) {res : mz_O} (h :
    (∀ M1 : mz_M, M1 = mz_wr M 77 (upd (M.1 77) 10 0) →
    (∃ (r2 : Int32), (mq_C mq_X10_isSlot [.int x1] M1 (some (.int r2), M1)) ∧
    ((¬ r2 = 0 →
      (∀ M4 : mz_M, M4 = mz_wr M1 77 (upd (M1.1 77) 9 0) →
      mq_G mq_X10_traces (23, [some (.ref 77), some (.int x1), some (.int 1), some (.int 0), none, none], [], M4) res)) ∧
    (¬ (¬ r2 = 0) →
      res = (some (.int (-1)), M1)))))) :
    mq_G mq_X10_traces (0, [some (.ref 77), some (.int x1), none, none, none, none], [], M) res := by
  obtain ⟨M1, e1⟩ : ∃ y, y = mz_wr M 77 (upd (M.1 77) 10 0) := ⟨_, rfl⟩
  replace h := h M1 e1
  refine mz_Go.steps (n := 3) (k2 := (5, [some (.ref 77), some (.int x1), none, none, none, none], [], (mz_wr M 77 (upd (M.1 77) 10 0)))) (P := []) rfl mz_o0 ?_
  rw [← e1]
  refine mz_Go.steps (n := 1) (k2 := (6, [some (.ref 77), some (.int x1), none, none, none, none], [.int x1], M1)) (P := []) rfl mz_o0 ?_
  obtain ⟨r2, k2, h⟩ := h
  refine mz_Go.callS (As := [.int x1]) (rest := []) (rfl : mz_find 6 (mz_rows mq_X10_traces) = some (6, .invokestatic 244, 3, 158, 0, 215)) (rfl : mz_nth mq_tab 158 = some mq_X10_isSlot) (by decide) rfl rfl rfl (Nat.le_of_ble_eq_true rfl) (Nat.le_of_ble_eq_true rfl) k2 ?_
  show mq_G mq_X10_traces (9, [some (.ref 77), some (.int x1), none, none, none, none], [.int r2], M1) res
  refine mz_Go.steps (n := 1) (k2 := (if ¬ r2 = 0 then 14 else 12, [some (.ref 77), some (.int x1), none, none, none, none], [], M1)) (P := []) rfl mz_o0 ?_
  refine mz_Go.ite (fun c9 => ?_) (fun c9 => ?_)
  · replace h := h.1 c9
    obtain ⟨M4, e4⟩ : ∃ y, y = mz_wr M1 77 (upd (M1.1 77) 9 0) := ⟨_, rfl⟩
    replace h := h M4 e4
    refine mz_Go.steps (n := 5) (k2 := (21, [some (.ref 77), some (.int x1), some (.int 1), none, none, none], [], (mz_wr M1 77 (upd (M1.1 77) 9 0)))) (P := []) rfl mz_o0 ?_
    rw [← e4]
    refine mz_Go.steps (n := 2) (k2 := (23, [some (.ref 77), some (.int x1), some (.int 1), some (.int 0), none, none], [], M4)) (P := []) rfl mz_o0 ?_
    exact h
  · replace h := h.2 c9
    refine mz_Go.steps (n := 1) (k2 := (13, [some (.ref 77), some (.int x1), none, none, none, none], [.int (-1)], M1)) (P := []) rfl mz_o0 ?_
    rw [h]
    exact mz_Go.iret (rfl : mz_find 13 (mz_rows mq_X10_traces) = some (13, .ireturn, 1, 0, 0, 0)) rfl
set_option maxRecDepth 100000 in
set_option maxHeartbeats 4000000 in
theorem t_X10_traces_23 (x1 : Int32) (x2 : Int32) (x3 : Int32) (o4 : Option Value) (o5 : Option Value) (M : mz_M) {res : mz_O} (h :
    (((M.1 77 11) ≤ x3 →
      ((x2 = 0 →
        res = (some (.int 0), M)) ∧
      (¬ (x2 = 0) →
        res = (some (.int 1), M)))) ∧
    (¬ ((M.1 77 11) ≤ x3) →
      mq_G mq_X10_traces (37, [some (.ref 77), some (.int x1), some (.int x2), some (.int x3), some (.int 0), some (.int 0)], [], M) res))) :
    mq_G mq_X10_traces (23, [some (.ref 77), some (.int x1), some (.int x2), some (.int x3), o4, o5], [], M) res := by
  refine mz_Go.steps (n := 4) (k2 := (if (M.1 77 11) ≤ x3 then 113 else 31, [some (.ref 77), some (.int x1), some (.int x2), some (.int x3), o4, o5], [], M)) (P := []) rfl mz_o0 ?_
  refine mz_Go.ite (fun c28 => ?_) (fun c28 => ?_)
  · replace h := h.1 c28
    refine mz_Go.steps (n := 2) (k2 := (if x2 = 0 then 121 else 117, [some (.ref 77), some (.int x1), some (.int x2), some (.int x3), o4, o5], [], M)) (P := []) rfl mz_o0 ?_
    refine mz_Go.ite (fun c114 => ?_) (fun c114 => ?_)
    · replace h := h.1 c114
      refine mz_Go.steps (n := 1) (k2 := (122, [some (.ref 77), some (.int x1), some (.int x2), some (.int x3), o4, o5], [.int 0], M)) (P := []) rfl mz_o0 ?_
      rw [h]
      exact mz_Go.iret (rfl : mz_find 122 (mz_rows mq_X10_traces) = some (122, .ireturn, 1, 0, 0, 0)) rfl
    · replace h := h.2 c114
      refine mz_Go.steps (n := 2) (k2 := (122, [some (.ref 77), some (.int x1), some (.int x2), some (.int x3), o4, o5], [.int 1], M)) (P := []) rfl mz_o0 ?_
      rw [h]
      exact mz_Go.iret (rfl : mz_find 122 (mz_rows mq_X10_traces) = some (122, .ireturn, 1, 0, 0, 0)) rfl
  · replace h := h.2 c28
    refine mz_Go.steps (n := 4) (k2 := (37, [some (.ref 77), some (.int x1), some (.int x2), some (.int x3), some (.int 0), some (.int 0)], [], M)) (P := []) rfl mz_o0 ?_
    exact h
set_option maxRecDepth 100000 in
set_option maxHeartbeats 4000000 in
theorem t_X10_traces_37 (x1 : Int32) (x2 : Int32) (x3 : Int32) (x4 : Int32) (x5 : Int32) (M : mz_M) {res : mz_O} (h :
    (((M.1 77 11) ≤ x5 →
      ((x2 = 0 →
        (∃ (M3 : mz_M), (mq_C mq_X10_tell [.ref 77, .long (x4.toInt64)] M (none, M3)) ∧
        mq_G mq_X10_traces (23, [some (.ref 77), some (.int x1), some (.int 0), some (.int (x3 + 1)), some (.int x4), some (.int x5)], [], M3) res)) ∧
      (¬ (x2 = 0) →
        ((¬ x4 = ((1 : Int32) <<< (x3 &&& 31)) →
          (∃ (M5 : mz_M), (mq_C mq_X10_tell [.ref 77, .long (x4.toInt64)] M (none, M5)) ∧
          mq_G mq_X10_traces (23, [some (.ref 77), some (.int x1), some (.int 0), some (.int (x3 + 1)), some (.int x4), some (.int x5)], [], M5) res)) ∧
        (¬ (¬ x4 = ((1 : Int32) <<< (x3 &&& 31))) →
          (∃ (M6 : mz_M), (mq_C mq_X10_tell [.ref 77, .long (x4.toInt64)] M (none, M6)) ∧
          mq_G mq_X10_traces (23, [some (.ref 77), some (.int x1), some (.int 1), some (.int (x3 + 1)), some (.int x4), some (.int x5)], [], M6) res)))))) ∧
    (¬ ((M.1 77 11) ≤ x5) →
      (∃ (r7 : Int32), (mq_C mq_X10_baseAt [.ref 77, .int x1, .int x3] M (some (.int r7), M)) ∧
      (∃ (r8 : Int32), (mq_C mq_X10_baseAt [.ref 77, .int x1, .int x5] M (some (.int r8), M)) ∧
      (∃ (r9 : Int32), (mq_C mq_X10_times [.ref 77, .int r7, .int r8] M (some (.int r9), M)) ∧
      (∃ (r10 : Int32), (mq_C mq_X10_traceTo [.ref 77, .int r9, .int 1] M (some (.int r10), M)) ∧
      mq_G mq_X10_traces (37, [some (.ref 77), some (.int x1), some (.int x2), some (.int x3), some (.int (x4 ||| (r10 <<< (x5 &&& 31)))), some (.int (x5 + 1))], [], M) res))))))) :
    mq_G mq_X10_traces (37, [some (.ref 77), some (.int x1), some (.int x2), some (.int x3), some (.int x4), some (.int x5)], [], M) res := by
  refine mz_Go.steps (n := 4) (k2 := (if (M.1 77 11) ≤ x5 then 82 else 46, [some (.ref 77), some (.int x1), some (.int x2), some (.int x3), some (.int x4), some (.int x5)], [], M)) (P := []) rfl mz_o0 ?_
  refine mz_Go.ite (fun c43 => ?_) (fun c43 => ?_)
  · replace h := h.1 c43
    refine mz_Go.steps (n := 2) (k2 := (if x2 = 0 then 98 else 86, [some (.ref 77), some (.int x1), some (.int x2), some (.int x3), some (.int x4), some (.int x5)], [], M)) (P := []) rfl mz_o0 ?_
    refine mz_Go.ite (fun c83 => ?_) (fun c83 => ?_)
    · replace h := h.1 c83
      refine mz_Go.steps (n := 5) (k2 := (104, [some (.ref 77), some (.int x1), some (.int 0), some (.int x3), some (.int x4), some (.int x5)], [.long (x4.toInt64), .ref 77], M)) (P := []) rfl mz_o0 ?_
      obtain ⟨M3, k3, h⟩ := h
      refine mz_Go.callV (As := [.long (x4.toInt64)]) (rest := []) (rfl : mz_find 104 (mz_rows mq_X10_traces) = some (104, .invokevirtual 194, 3, 135, 0, 198)) (rfl : mz_nth mq_tab 135 = some mq_X10_tell) rfl rfl rfl rfl (Nat.le_of_ble_eq_true rfl) (Nat.le_of_ble_eq_true rfl) k3 ?_
      show mq_G mq_X10_traces (107, [some (.ref 77), some (.int x1), some (.int 0), some (.int x3), some (.int x4), some (.int x5)], [], M3) res
      refine mz_Go.steps (n := 2) (k2 := (23, [some (.ref 77), some (.int x1), some (.int 0), some (.int (x3 + 1)), some (.int x4), some (.int x5)], [], M3)) (P := []) rfl mz_o0 ?_
      exact h
    · replace h := h.2 c83
      refine mz_Go.steps (n := 5) (k2 := (if ¬ x4 = ((1 : Int32) <<< (x3 &&& 31)) then 98 else 94, [some (.ref 77), some (.int x1), some (.int x2), some (.int x3), some (.int x4), some (.int x5)], [], M)) (P := []) rfl mz_o0 ?_
      refine mz_Go.ite (fun c91 => ?_) (fun c91 => ?_)
      · replace h := h.1 c91
        refine mz_Go.steps (n := 5) (k2 := (104, [some (.ref 77), some (.int x1), some (.int 0), some (.int x3), some (.int x4), some (.int x5)], [.long (x4.toInt64), .ref 77], M)) (P := []) rfl mz_o0 ?_
        obtain ⟨M5, k5, h⟩ := h
        refine mz_Go.callV (As := [.long (x4.toInt64)]) (rest := []) (rfl : mz_find 104 (mz_rows mq_X10_traces) = some (104, .invokevirtual 194, 3, 135, 0, 198)) (rfl : mz_nth mq_tab 135 = some mq_X10_tell) rfl rfl rfl rfl (Nat.le_of_ble_eq_true rfl) (Nat.le_of_ble_eq_true rfl) k5 ?_
        show mq_G mq_X10_traces (107, [some (.ref 77), some (.int x1), some (.int 0), some (.int x3), some (.int x4), some (.int x5)], [], M5) res
        refine mz_Go.steps (n := 2) (k2 := (23, [some (.ref 77), some (.int x1), some (.int 0), some (.int (x3 + 1)), some (.int x4), some (.int x5)], [], M5)) (P := []) rfl mz_o0 ?_
        exact h
      · replace h := h.2 c91
        refine mz_Go.steps (n := 6) (k2 := (104, [some (.ref 77), some (.int x1), some (.int 1), some (.int x3), some (.int x4), some (.int x5)], [.long (x4.toInt64), .ref 77], M)) (P := []) rfl mz_o0 ?_
        obtain ⟨M6, k6, h⟩ := h
        refine mz_Go.callV (As := [.long (x4.toInt64)]) (rest := []) (rfl : mz_find 104 (mz_rows mq_X10_traces) = some (104, .invokevirtual 194, 3, 135, 0, 198)) (rfl : mz_nth mq_tab 135 = some mq_X10_tell) rfl rfl rfl rfl (Nat.le_of_ble_eq_true rfl) (Nat.le_of_ble_eq_true rfl) k6 ?_
        show mq_G mq_X10_traces (107, [some (.ref 77), some (.int x1), some (.int 1), some (.int x3), some (.int x4), some (.int x5)], [], M6) res
        refine mz_Go.steps (n := 2) (k2 := (23, [some (.ref 77), some (.int x1), some (.int 1), some (.int (x3 + 1)), some (.int x4), some (.int x5)], [], M6)) (P := []) rfl mz_o0 ?_
        exact h
  · replace h := h.2 c43
    refine mz_Go.steps (n := 6) (k2 := (53, [some (.ref 77), some (.int x1), some (.int x2), some (.int x3), some (.int x4), some (.int x5)], [.int x3, .int x1, .ref 77, .ref 77, .ref 77, .int x4], M)) (P := []) rfl mz_o0 ?_
    obtain ⟨r7, k7, h⟩ := h
    refine mz_Go.callV (As := [.int x1, .int x3]) (rest := [.ref 77, .ref 77, .int x4]) (rfl : mz_find 53 (mz_rows mq_X10_traces) = some (53, .invokevirtual 123, 3, 167, 0, 171)) (rfl : mz_nth mq_tab 167 = some mq_X10_baseAt) rfl rfl rfl rfl (Nat.le_of_ble_eq_true rfl) (Nat.le_of_ble_eq_true rfl) k7 ?_
    show mq_G mq_X10_traces (56, [some (.ref 77), some (.int x1), some (.int x2), some (.int x3), some (.int x4), some (.int x5)], [.int r7, .ref 77, .ref 77, .int x4], M) res
    refine mz_Go.steps (n := 3) (k2 := (60, [some (.ref 77), some (.int x1), some (.int x2), some (.int x3), some (.int x4), some (.int x5)], [.int x5, .int x1, .ref 77, .int r7, .ref 77, .ref 77, .int x4], M)) (P := []) rfl mz_o0 ?_
    obtain ⟨r8, k8, h⟩ := h
    refine mz_Go.callV (As := [.int x1, .int x5]) (rest := [.int r7, .ref 77, .ref 77, .int x4]) (rfl : mz_find 60 (mz_rows mq_X10_traces) = some (60, .invokevirtual 123, 3, 167, 0, 171)) (rfl : mz_nth mq_tab 167 = some mq_X10_baseAt) rfl rfl rfl rfl (Nat.le_of_ble_eq_true rfl) (Nat.le_of_ble_eq_true rfl) k8 ?_
    show mq_G mq_X10_traces (63, [some (.ref 77), some (.int x1), some (.int x2), some (.int x3), some (.int x4), some (.int x5)], [.int r8, .int r7, .ref 77, .ref 77, .int x4], M) res
    obtain ⟨r9, k9, h⟩ := h
    refine mz_Go.callV (As := [.int r7, .int r8]) (rest := [.ref 77, .int x4]) (rfl : mz_find 63 (mz_rows mq_X10_traces) = some (63, .invokevirtual 92, 3, 147, 0, 156)) (rfl : mz_nth mq_tab 147 = some mq_X10_times) rfl rfl rfl rfl (Nat.le_of_ble_eq_true rfl) (Nat.le_of_ble_eq_true rfl) k9 ?_
    show mq_G mq_X10_traces (66, [some (.ref 77), some (.int x1), some (.int x2), some (.int x3), some (.int x4), some (.int x5)], [.int r9, .ref 77, .int x4], M) res
    refine mz_Go.steps (n := 1) (k2 := (67, [some (.ref 77), some (.int x1), some (.int x2), some (.int x3), some (.int x4), some (.int x5)], [.int 1, .int r9, .ref 77, .int x4], M)) (P := []) rfl mz_o0 ?_
    obtain ⟨r10, k10, h⟩ := h
    refine mz_Go.callV (As := [.int r9, .int 1]) (rest := [.int x4]) (rfl : mz_find 67 (mz_rows mq_X10_traces) = some (67, .invokevirtual 209, 3, 154, 0, 203)) (rfl : mz_nth mq_tab 154 = some mq_X10_traceTo) rfl rfl rfl rfl (Nat.le_of_ble_eq_true rfl) (Nat.le_of_ble_eq_true rfl) k10 ?_
    show mq_G mq_X10_traces (70, [some (.ref 77), some (.int x1), some (.int x2), some (.int x3), some (.int x4), some (.int x5)], [.int r10, .int x4], M) res
    refine mz_Go.steps (n := 6) (k2 := (37, [some (.ref 77), some (.int x1), some (.int x2), some (.int x3), some (.int (x4 ||| (r10 <<< (x5 &&& 31)))), some (.int (x5 + 1))], [], M)) (P := []) rfl mz_o0 ?_
    exact h
set_option maxRecDepth 100000 in
set_option maxHeartbeats 4000000 in
theorem t_X10_tower_0 (x1 : Int32) (x2 : Int32) (x3 : Int32) (M : mz_M) {res : mz_O} (h :
    (∀ M1 : mz_M, M1 = mz_wr M 77 (upd (M.1 77) 10 0) →
    (∃ (r2 : Int32), (mq_C mq_X10_isSlot [.int x1] M1 (some (.int r2), M1)) ∧
    ((r2 = 0 →
      res = (some (.int (-1)), M1)) ∧
    (¬ (r2 = 0) →
      (∃ (r4 : Int32), (mq_C mq_X10_isPart [.ref 77, .int x2] M1 (some (.int r4), M1)) ∧
      ((r4 = 0 →
        res = (some (.int (-1)), M1)) ∧
      (¬ (r4 = 0) →
        (∃ (r6 : Int32), (mq_C mq_X10_isElement [.ref 77, .int x3] M1 (some (.int r6), M1)) ∧
        ((¬ r6 = 0 →
          (∃ (M8 : mz_M), (mq_C mq_X10_takesSubbase [.ref 77, .int x2] M1 (none, M8)) ∧
          mq_G mq_X10_tower (41, [some (.ref 77), some (.int x1), some (.int x2), some (.int x3), some (.int 0), some (.int 0), none], [], M8) res)) ∧
        (¬ (¬ r6 = 0) →
          res = (some (.int (-1)), M1)))))))))))) :
    mq_G mq_X10_tower (0, [some (.ref 77), some (.int x1), some (.int x2), some (.int x3), none, none, none], [], M) res := by
  obtain ⟨M1, e1⟩ : ∃ y, y = mz_wr M 77 (upd (M.1 77) 10 0) := ⟨_, rfl⟩
  replace h := h M1 e1
  refine mz_Go.steps (n := 3) (k2 := (5, [some (.ref 77), some (.int x1), some (.int x2), some (.int x3), none, none, none], [], (mz_wr M 77 (upd (M.1 77) 10 0)))) (P := []) rfl mz_o0 ?_
  rw [← e1]
  refine mz_Go.steps (n := 1) (k2 := (6, [some (.ref 77), some (.int x1), some (.int x2), some (.int x3), none, none, none], [.int x1], M1)) (P := []) rfl mz_o0 ?_
  obtain ⟨r2, k2, h⟩ := h
  refine mz_Go.callS (As := [.int x1]) (rest := []) (rfl : mz_find 6 (mz_rows mq_X10_tower) = some (6, .invokestatic 244, 3, 158, 0, 215)) (rfl : mz_nth mq_tab 158 = some mq_X10_isSlot) (by decide) rfl rfl rfl (Nat.le_of_ble_eq_true rfl) (Nat.le_of_ble_eq_true rfl) k2 ?_
  show mq_G mq_X10_tower (9, [some (.ref 77), some (.int x1), some (.int x2), some (.int x3), none, none, none], [.int r2], M1) res
  refine mz_Go.steps (n := 1) (k2 := (if r2 = 0 then 28 else 12, [some (.ref 77), some (.int x1), some (.int x2), some (.int x3), none, none, none], [], M1)) (P := []) rfl mz_o0 ?_
  refine mz_Go.ite (fun c9 => ?_) (fun c9 => ?_)
  · replace h := h.1 c9
    refine mz_Go.steps (n := 1) (k2 := (29, [some (.ref 77), some (.int x1), some (.int x2), some (.int x3), none, none, none], [.int (-1)], M1)) (P := []) rfl mz_o0 ?_
    rw [h]
    exact mz_Go.iret (rfl : mz_find 29 (mz_rows mq_X10_tower) = some (29, .ireturn, 1, 0, 0, 0)) rfl
  · replace h := h.2 c9
    refine mz_Go.steps (n := 2) (k2 := (14, [some (.ref 77), some (.int x1), some (.int x2), some (.int x3), none, none, none], [.int x2, .ref 77], M1)) (P := []) rfl mz_o0 ?_
    obtain ⟨r4, k4, h⟩ := h
    refine mz_Go.callV (As := [.int x2]) (rest := []) (rfl : mz_find 14 (mz_rows mq_X10_tower) = some (14, .invokevirtual 206, 3, 157, 0, 202)) (rfl : mz_nth mq_tab 157 = some mq_X10_isPart) rfl rfl rfl rfl (Nat.le_of_ble_eq_true rfl) (Nat.le_of_ble_eq_true rfl) k4 ?_
    show mq_G mq_X10_tower (17, [some (.ref 77), some (.int x1), some (.int x2), some (.int x3), none, none, none], [.int r4], M1) res
    refine mz_Go.steps (n := 1) (k2 := (if r4 = 0 then 28 else 20, [some (.ref 77), some (.int x1), some (.int x2), some (.int x3), none, none, none], [], M1)) (P := []) rfl mz_o0 ?_
    refine mz_Go.ite (fun c17 => ?_) (fun c17 => ?_)
    · replace h := h.1 c17
      refine mz_Go.steps (n := 1) (k2 := (29, [some (.ref 77), some (.int x1), some (.int x2), some (.int x3), none, none, none], [.int (-1)], M1)) (P := []) rfl mz_o0 ?_
      rw [h]
      exact mz_Go.iret (rfl : mz_find 29 (mz_rows mq_X10_tower) = some (29, .ireturn, 1, 0, 0, 0)) rfl
    · replace h := h.2 c17
      refine mz_Go.steps (n := 2) (k2 := (22, [some (.ref 77), some (.int x1), some (.int x2), some (.int x3), none, none, none], [.int x3, .ref 77], M1)) (P := []) rfl mz_o0 ?_
      obtain ⟨r6, k6, h⟩ := h
      refine mz_Go.callV (As := [.int x3]) (rest := []) (rfl : mz_find 22 (mz_rows mq_X10_tower) = some (22, .invokevirtual 183, 3, 156, 0, 194)) (rfl : mz_nth mq_tab 156 = some mq_X10_isElement) rfl rfl rfl rfl (Nat.le_of_ble_eq_true rfl) (Nat.le_of_ble_eq_true rfl) k6 ?_
      show mq_G mq_X10_tower (25, [some (.ref 77), some (.int x1), some (.int x2), some (.int x3), none, none, none], [.int r6], M1) res
      refine mz_Go.steps (n := 1) (k2 := (if ¬ r6 = 0 then 30 else 28, [some (.ref 77), some (.int x1), some (.int x2), some (.int x3), none, none, none], [], M1)) (P := []) rfl mz_o0 ?_
      refine mz_Go.ite (fun c25 => ?_) (fun c25 => ?_)
      · replace h := h.1 c25
        refine mz_Go.steps (n := 2) (k2 := (32, [some (.ref 77), some (.int x1), some (.int x2), some (.int x3), none, none, none], [.int x2, .ref 77], M1)) (P := []) rfl mz_o0 ?_
        obtain ⟨M8, k8, h⟩ := h
        refine mz_Go.callV (As := [.int x2]) (rest := []) (rfl : mz_find 32 (mz_rows mq_X10_tower) = some (32, .invokevirtual 117, 3, 163, 0, 167)) (rfl : mz_nth mq_tab 163 = some mq_X10_takesSubbase) rfl rfl rfl rfl (Nat.le_of_ble_eq_true rfl) (Nat.le_of_ble_eq_true rfl) k8 ?_
        show mq_G mq_X10_tower (35, [some (.ref 77), some (.int x1), some (.int x2), some (.int x3), none, none, none], [], M8) res
        refine mz_Go.steps (n := 4) (k2 := (41, [some (.ref 77), some (.int x1), some (.int x2), some (.int x3), some (.int 0), some (.int 0), none], [], M8)) (P := []) rfl mz_o0 ?_
        exact h
      · replace h := h.2 c25
        refine mz_Go.steps (n := 1) (k2 := (29, [some (.ref 77), some (.int x1), some (.int x2), some (.int x3), none, none, none], [.int (-1)], M1)) (P := []) rfl mz_o0 ?_
        rw [h]
        exact mz_Go.iret (rfl : mz_find 29 (mz_rows mq_X10_tower) = some (29, .ireturn, 1, 0, 0, 0)) rfl
set_option maxRecDepth 100000 in
set_option maxHeartbeats 4000000 in
theorem t_X10_tower_41 (x1 : Int32) (x2 : Int32) (x3 : Int32) (x4 : Int32) (x5 : Int32) (o6 : Option Value) (M : mz_M) {res : mz_O} (h :
    (¬ x2 = 0) ∧
    ((((M.1 77 11) / x2) ≤ x5 →
      (∃ (r3 : Int32) (M3 : mz_M), (mq_C mq_X10_rank [.ref 77, .int (M.1 77 11)] M (some (.int r3), M3)) ∧
      (((M3.1 77 11) ≤ r3 →
        (∃ (M5 : mz_M), (mq_C mq_X10_someIsBase [.ref 77] M3 (none, M5)) ∧
        (∃ (r6 : Int32) (M6 : mz_M), (mq_C mq_X10_holds [.ref 77, .int x1] M5 (some (.int r6), M6)) ∧
        res = (some (.int r6), M6)))) ∧
      (¬ ((M3.1 77 11) ≤ r3) →
        res = (some (.int (-2)), M3))))) ∧
    (¬ (((M.1 77 11) / x2) ≤ x5) →
      mq_G mq_X10_tower (55, [some (.ref 77), some (.int x1), some (.int x2), some (.int x3), some (.int x4), some (.int x5), some (.int 0)], [], M) res))) :
    mq_G mq_X10_tower (41, [some (.ref 77), some (.int x1), some (.int x2), some (.int x3), some (.int x4), some (.int x5), o6], [], M) res := by
  obtain ⟨q2, h⟩ := h
  refine mz_Go.steps (n := 6) (k2 := (if ((M.1 77 11) / x2) ≤ x5 then 101 else 52, [some (.ref 77), some (.int x1), some (.int x2), some (.int x3), some (.int x4), some (.int x5), o6], [], M)) (P := [¬ x2 = 0]) rfl (mz_o1 q2) ?_
  refine mz_Go.ite (fun c49 => ?_) (fun c49 => ?_)
  · replace h := h.1 c49
    refine mz_Go.steps (n := 3) (k2 := (106, [some (.ref 77), some (.int x1), some (.int x2), some (.int x3), some (.int x4), some (.int x5), o6], [.int (M.1 77 11), .ref 77], M)) (P := []) rfl mz_o0 ?_
    obtain ⟨r3, M3, k3, h⟩ := h
    refine mz_Go.callV (As := [.int (M.1 77 11)]) (rest := []) (rfl : mz_find 106 (mz_rows mq_X10_tower) = some (106, .invokevirtual 114, 3, 160, 0, 165)) (rfl : mz_nth mq_tab 160 = some mq_X10_rank) rfl rfl rfl rfl (Nat.le_of_ble_eq_true rfl) (Nat.le_of_ble_eq_true rfl) k3 ?_
    show mq_G mq_X10_tower (109, [some (.ref 77), some (.int x1), some (.int x2), some (.int x3), some (.int x4), some (.int x5), o6], [.int r3], M3) res
    refine mz_Go.steps (n := 3) (k2 := (if (M3.1 77 11) ≤ r3 then 119 else 116, [some (.ref 77), some (.int x1), some (.int x2), some (.int x3), some (.int x4), some (.int x5), o6], [], M3)) (P := []) rfl mz_o0 ?_
    refine mz_Go.ite (fun c113 => ?_) (fun c113 => ?_)
    · replace h := h.1 c113
      refine mz_Go.steps (n := 1) (k2 := (120, [some (.ref 77), some (.int x1), some (.int x2), some (.int x3), some (.int x4), some (.int x5), o6], [.ref 77], M3)) (P := []) rfl mz_o0 ?_
      obtain ⟨M5, k5, h⟩ := h
      refine mz_Go.callV (As := []) (rest := []) (rfl : mz_find 120 (mz_rows mq_X10_tower) = some (120, .invokevirtual 226, 3, 172, 0, 209)) (rfl : mz_nth mq_tab 172 = some mq_X10_someIsBase) rfl rfl rfl rfl (Nat.le_of_ble_eq_true rfl) (Nat.le_of_ble_eq_true rfl) k5 ?_
      show mq_G mq_X10_tower (123, [some (.ref 77), some (.int x1), some (.int x2), some (.int x3), some (.int x4), some (.int x5), o6], [], M5) res
      refine mz_Go.steps (n := 2) (k2 := (125, [some (.ref 77), some (.int x1), some (.int x2), some (.int x3), some (.int x4), some (.int x5), o6], [.int x1, .ref 77], M5)) (P := []) rfl mz_o0 ?_
      obtain ⟨r6, M6, k6, h⟩ := h
      refine mz_Go.callV (As := [.int x1]) (rest := []) (rfl : mz_find 125 (mz_rows mq_X10_tower) = some (125, .invokevirtual 247, 3, 174, 0, 216)) (rfl : mz_nth mq_tab 174 = some mq_X10_holds) rfl rfl rfl rfl (Nat.le_of_ble_eq_true rfl) (Nat.le_of_ble_eq_true rfl) k6 ?_
      show mq_G mq_X10_tower (128, [some (.ref 77), some (.int x1), some (.int x2), some (.int x3), some (.int x4), some (.int x5), o6], [.int r6], M6) res
      rw [h]
      exact mz_Go.iret (rfl : mz_find 128 (mz_rows mq_X10_tower) = some (128, .ireturn, 1, 0, 0, 0)) rfl
    · replace h := h.2 c113
      refine mz_Go.steps (n := 1) (k2 := (118, [some (.ref 77), some (.int x1), some (.int x2), some (.int x3), some (.int x4), some (.int x5), o6], [.int (-2)], M3)) (P := []) rfl mz_o0 ?_
      rw [h]
      exact mz_Go.iret (rfl : mz_find 118 (mz_rows mq_X10_tower) = some (118, .ireturn, 1, 0, 0, 0)) rfl
  · replace h := h.2 c49
    refine mz_Go.steps (n := 2) (k2 := (55, [some (.ref 77), some (.int x1), some (.int x2), some (.int x3), some (.int x4), some (.int x5), some (.int 0)], [], M)) (P := []) rfl mz_o0 ?_
    exact h
set_option maxRecDepth 100000 in
set_option maxHeartbeats 4000000 in
theorem t_X10_tower_55 (x1 : Int32) (x2 : Int32) (x3 : Int32) (x4 : Int32) (x5 : Int32) (x6 : Int32) (M : mz_M) {res : mz_O} (h :
    ((x2 ≤ x6 →
      mq_G mq_X10_tower (41, [some (.ref 77), some (.int x1), some (.int x2), some (.int x3), some (.int x4), some (.int (x5 + 1)), some (.int x6)], [], M) res) ∧
    (¬ (x2 ≤ x6) →
      (vp_in x6 8) ∧
      (∃ (r3 : Int32), (mq_C mq_X10_powered [.ref 77, .int x3, .int x5] M (some (.int r3), M)) ∧
      (∃ (r4 : Int32), (mq_C mq_X10_times [.ref 77, .int (M.1 86 x6.toNatClampNeg), .int r3] M (some (.int r4), M)) ∧
      (vp_in x4 8) ∧
      (∀ M5 : mz_M, M5 = mz_wr M 84 (upd (M.1 84) x4.toNatClampNeg r4) →
      mq_G mq_X10_tower (55, [some (.ref 77), some (.int x1), some (.int x2), some (.int x3), some (.int (x4 + 1)), some (.int x5), some (.int (x6 + 1))], [], M5) res)))))) :
    mq_G mq_X10_tower (55, [some (.ref 77), some (.int x1), some (.int x2), some (.int x3), some (.int x4), some (.int x5), some (.int x6)], [], M) res := by
  refine mz_Go.steps (n := 3) (k2 := (if x2 ≤ x6 then 95 else 61, [some (.ref 77), some (.int x1), some (.int x2), some (.int x3), some (.int x4), some (.int x5), some (.int x6)], [], M)) (P := []) rfl mz_o0 ?_
  refine mz_Go.ite (fun c58 => ?_) (fun c58 => ?_)
  · replace h := h.1 c58
    refine mz_Go.steps (n := 2) (k2 := (41, [some (.ref 77), some (.int x1), some (.int x2), some (.int x3), some (.int x4), some (.int (x5 + 1)), some (.int x6)], [], M)) (P := []) rfl mz_o0 ?_
    exact h
  · replace h := h.2 c58
    obtain ⟨q2, h⟩ := h
    refine mz_Go.steps (n := 11) (k2 := (79, [some (.ref 77), some (.int x1), some (.int x2), some (.int x3), some (.int x4), some (.int x5), some (.int x6)], [.int x5, .int x3, .ref 77, .int (M.1 86 x6.toNatClampNeg), .ref 77, .int x4, .ref 84], M)) (P := [vp_in x6 8]) rfl (mz_o1 q2) ?_
    obtain ⟨r3, k3, h⟩ := h
    refine mz_Go.callV (As := [.int x3, .int x5]) (rest := [.int (M.1 86 x6.toNatClampNeg), .ref 77, .int x4, .ref 84]) (rfl : mz_find 79 (mz_rows mq_X10_tower) = some (79, .invokevirtual 95, 3, 149, 0, 157)) (rfl : mz_nth mq_tab 149 = some mq_X10_powered) rfl rfl rfl rfl (Nat.le_of_ble_eq_true rfl) (Nat.le_of_ble_eq_true rfl) k3 ?_
    show mq_G mq_X10_tower (82, [some (.ref 77), some (.int x1), some (.int x2), some (.int x3), some (.int x4), some (.int x5), some (.int x6)], [.int r3, .int (M.1 86 x6.toNatClampNeg), .ref 77, .int x4, .ref 84], M) res
    obtain ⟨r4, k4, h⟩ := h
    refine mz_Go.callV (As := [.int (M.1 86 x6.toNatClampNeg), .int r3]) (rest := [.int x4, .ref 84]) (rfl : mz_find 82 (mz_rows mq_X10_tower) = some (82, .invokevirtual 92, 3, 147, 0, 156)) (rfl : mz_nth mq_tab 147 = some mq_X10_times) rfl rfl rfl rfl (Nat.le_of_ble_eq_true rfl) (Nat.le_of_ble_eq_true rfl) k4 ?_
    show mq_G mq_X10_tower (85, [some (.ref 77), some (.int x1), some (.int x2), some (.int x3), some (.int x4), some (.int x5), some (.int x6)], [.int r4, .int x4, .ref 84], M) res
    obtain ⟨q6, h⟩ := h
    obtain ⟨M5, e5⟩ : ∃ y, y = mz_wr M 84 (upd (M.1 84) x4.toNatClampNeg r4) := ⟨_, rfl⟩
    replace h := h M5 e5
    refine mz_Go.steps (n := 1) (k2 := (86, [some (.ref 77), some (.int x1), some (.int x2), some (.int x3), some (.int x4), some (.int x5), some (.int x6)], [], (mz_wr M 84 (upd (M.1 84) x4.toNatClampNeg r4)))) (P := [vp_in x4 8]) rfl (mz_o1 q6) ?_
    rw [← e5]
    refine mz_Go.steps (n := 3) (k2 := (55, [some (.ref 77), some (.int x1), some (.int x2), some (.int x3), some (.int (x4 + 1)), some (.int x5), some (.int (x6 + 1))], [], M5)) (P := []) rfl mz_o0 ?_
    exact h
set_option maxRecDepth 100000 in
set_option maxHeartbeats 4000000 in
theorem t_X10_isUnder_0 (x1 : Int32) (M : mz_M) {res : mz_O} (h :
    ((x1 ≤ 1 →
      res = (some (.int 0), M)) ∧
    (¬ (x1 ≤ 1) →
      ((512 ≤ x1 →
        res = (some (.int 0), M)) ∧
      (¬ (512 ≤ x1) →
        (∃ (r3 : Int32), (mq_C mq_X10_degree [.int x1] M (some (.int r3), M)) ∧
        (∃ (r4 : Int32), (mq_C mq_X10_isPart [.ref 77, .int r3] M (some (.int r4), M)) ∧
        ((r4 = 0 →
          res = (some (.int 0), M)) ∧
        (¬ (r4 = 0) →
          res = (some (.int 1), M)))))))))) :
    mq_G mq_X10_isUnder (0, [some (.ref 77), some (.int x1)], [], M) res := by
  refine mz_Go.steps (n := 3) (k2 := (if x1 ≤ 1 then 27 else 5, [some (.ref 77), some (.int x1)], [], M)) (P := []) rfl mz_o0 ?_
  refine mz_Go.ite (fun c2 => ?_) (fun c2 => ?_)
  · replace h := h.1 c2
    refine mz_Go.steps (n := 1) (k2 := (28, [some (.ref 77), some (.int x1)], [.int 0], M)) (P := []) rfl mz_o0 ?_
    rw [h]
    exact mz_Go.zret (rfl : mz_find 28 (mz_rows mq_X10_isUnder) = some (28, .ireturn, 1, 0, 0, 0)) rfl (Or.inl rfl)
  · replace h := h.2 c2
    refine mz_Go.steps (n := 3) (k2 := (if 512 ≤ x1 then 27 else 12, [some (.ref 77), some (.int x1)], [], M)) (P := []) rfl mz_o0 ?_
    refine mz_Go.ite (fun c9 => ?_) (fun c9 => ?_)
    · replace h := h.1 c9
      refine mz_Go.steps (n := 1) (k2 := (28, [some (.ref 77), some (.int x1)], [.int 0], M)) (P := []) rfl mz_o0 ?_
      rw [h]
      exact mz_Go.zret (rfl : mz_find 28 (mz_rows mq_X10_isUnder) = some (28, .ireturn, 1, 0, 0, 0)) rfl (Or.inl rfl)
    · replace h := h.2 c9
      refine mz_Go.steps (n := 2) (k2 := (14, [some (.ref 77), some (.int x1)], [.int x1, .ref 77], M)) (P := []) rfl mz_o0 ?_
      obtain ⟨r3, k3, h⟩ := h
      refine mz_Go.callS (As := [.int x1]) (rest := [.ref 77]) (rfl : mz_find 14 (mz_rows mq_X10_isUnder) = some (14, .invokestatic 69, 3, 139, 0, 148)) (rfl : mz_nth mq_tab 139 = some mq_X10_degree) (by decide) rfl rfl rfl (Nat.le_of_ble_eq_true rfl) (Nat.le_of_ble_eq_true rfl) k3 ?_
      show mq_G mq_X10_isUnder (17, [some (.ref 77), some (.int x1)], [.int r3, .ref 77], M) res
      obtain ⟨r4, k4, h⟩ := h
      refine mz_Go.callV (As := [.int r3]) (rest := []) (rfl : mz_find 17 (mz_rows mq_X10_isUnder) = some (17, .invokevirtual 206, 3, 157, 0, 202)) (rfl : mz_nth mq_tab 157 = some mq_X10_isPart) rfl rfl rfl rfl (Nat.le_of_ble_eq_true rfl) (Nat.le_of_ble_eq_true rfl) k4 ?_
      show mq_G mq_X10_isUnder (20, [some (.ref 77), some (.int x1)], [.int r4], M) res
      refine mz_Go.steps (n := 1) (k2 := (if r4 = 0 then 27 else 23, [some (.ref 77), some (.int x1)], [], M)) (P := []) rfl mz_o0 ?_
      refine mz_Go.ite (fun c20 => ?_) (fun c20 => ?_)
      · replace h := h.1 c20
        refine mz_Go.steps (n := 1) (k2 := (28, [some (.ref 77), some (.int x1)], [.int 0], M)) (P := []) rfl mz_o0 ?_
        rw [h]
        exact mz_Go.zret (rfl : mz_find 28 (mz_rows mq_X10_isUnder) = some (28, .ireturn, 1, 0, 0, 0)) rfl (Or.inl rfl)
      · replace h := h.2 c20
        refine mz_Go.steps (n := 2) (k2 := (28, [some (.ref 77), some (.int x1)], [.int 1], M)) (P := []) rfl mz_o0 ?_
        rw [h]
        exact mz_Go.zret (rfl : mz_find 28 (mz_rows mq_X10_isUnder) = some (28, .ireturn, 1, 0, 0, 0)) rfl (Or.inr rfl)
set_option maxRecDepth 100000 in
set_option maxHeartbeats 4000000 in
theorem t_X10_fits_0 (x1 : Int32) (M : mz_M) {res : mz_O} (h :
    (∀ M1 : mz_M, M1 = mz_wr M 77 (upd (M.1 77) 10 0) →
    (∃ (r2 : Int32), (mq_C mq_X10_isUnder [.ref 77, .int x1] M1 (some (.int r2), M1)) ∧
    ((¬ r2 = 0 →
      (∃ (r4 : Int32), (mq_C mq_X10_isIrreducible [.int x1] M1 (some (.int r4), M1)) ∧
      ((¬ r4 = 0 →
        (∀ M6 : mz_M, M6 = mz_wr M1 77 (upd (M1.1 77) 9 0) →
        mq_G mq_X10_fits (32, [some (.ref 77), some (.int x1), some (.int 0)], [], M6) res)) ∧
      (¬ (¬ r4 = 0) →
        res = (some (.int (-2)), M1))))) ∧
    (¬ (¬ r2 = 0) →
      res = (some (.int (-1)), M1)))))) :
    mq_G mq_X10_fits (0, [some (.ref 77), some (.int x1), none], [], M) res := by
  obtain ⟨M1, e1⟩ : ∃ y, y = mz_wr M 77 (upd (M.1 77) 10 0) := ⟨_, rfl⟩
  replace h := h M1 e1
  refine mz_Go.steps (n := 3) (k2 := (5, [some (.ref 77), some (.int x1), none], [], (mz_wr M 77 (upd (M.1 77) 10 0)))) (P := []) rfl mz_o0 ?_
  rw [← e1]
  refine mz_Go.steps (n := 2) (k2 := (7, [some (.ref 77), some (.int x1), none], [.int x1, .ref 77], M1)) (P := []) rfl mz_o0 ?_
  obtain ⟨r2, k2, h⟩ := h
  refine mz_Go.callV (As := [.int x1]) (rest := []) (rfl : mz_find 7 (mz_rows mq_X10_fits) = some (7, .invokevirtual 277, 3, 240, 0, 227)) (rfl : mz_nth mq_tab 240 = some mq_X10_isUnder) rfl rfl rfl rfl (Nat.le_of_ble_eq_true rfl) (Nat.le_of_ble_eq_true rfl) k2 ?_
  show mq_G mq_X10_fits (10, [some (.ref 77), some (.int x1), none], [.int r2], M1) res
  refine mz_Go.steps (n := 1) (k2 := (if ¬ r2 = 0 then 15 else 13, [some (.ref 77), some (.int x1), none], [], M1)) (P := []) rfl mz_o0 ?_
  refine mz_Go.ite (fun c10 => ?_) (fun c10 => ?_)
  · replace h := h.1 c10
    refine mz_Go.steps (n := 1) (k2 := (16, [some (.ref 77), some (.int x1), none], [.int x1], M1)) (P := []) rfl mz_o0 ?_
    obtain ⟨r4, k4, h⟩ := h
    refine mz_Go.callS (As := [.int x1]) (rest := []) (rfl : mz_find 16 (mz_rows mq_X10_fits) = some (16, .invokestatic 176, 3, 144, 0, 190)) (rfl : mz_nth mq_tab 144 = some mq_X10_isIrreducible) (by decide) rfl rfl rfl (Nat.le_of_ble_eq_true rfl) (Nat.le_of_ble_eq_true rfl) k4 ?_
    show mq_G mq_X10_fits (19, [some (.ref 77), some (.int x1), none], [.int r4], M1) res
    refine mz_Go.steps (n := 1) (k2 := (if ¬ r4 = 0 then 25 else 22, [some (.ref 77), some (.int x1), none], [], M1)) (P := []) rfl mz_o0 ?_
    refine mz_Go.ite (fun c19 => ?_) (fun c19 => ?_)
    · replace h := h.1 c19
      obtain ⟨M6, e6⟩ : ∃ y, y = mz_wr M1 77 (upd (M1.1 77) 9 0) := ⟨_, rfl⟩
      replace h := h M6 e6
      refine mz_Go.steps (n := 3) (k2 := (30, [some (.ref 77), some (.int x1), none], [], (mz_wr M1 77 (upd (M1.1 77) 9 0)))) (P := []) rfl mz_o0 ?_
      rw [← e6]
      refine mz_Go.steps (n := 2) (k2 := (32, [some (.ref 77), some (.int x1), some (.int 0)], [], M6)) (P := []) rfl mz_o0 ?_
      exact h
    · replace h := h.2 c19
      refine mz_Go.steps (n := 1) (k2 := (24, [some (.ref 77), some (.int x1), none], [.int (-2)], M1)) (P := []) rfl mz_o0 ?_
      rw [h]
      exact mz_Go.iret (rfl : mz_find 24 (mz_rows mq_X10_fits) = some (24, .ireturn, 1, 0, 0, 0)) rfl
  · replace h := h.2 c10
    refine mz_Go.steps (n := 1) (k2 := (14, [some (.ref 77), some (.int x1), none], [.int (-1)], M1)) (P := []) rfl mz_o0 ?_
    rw [h]
    exact mz_Go.iret (rfl : mz_find 14 (mz_rows mq_X10_fits) = some (14, .ireturn, 1, 0, 0, 0)) rfl
set_option maxRecDepth 100000 in
set_option maxHeartbeats 4000000 in
theorem t_X10_fits_32 (x1 : Int32) (x2 : Int32) (M : mz_M) {res : mz_O} (h :
    (((M.1 77 12) ≤ x2 →
      res = (some (.int (M.1 77 9)), M)) ∧
    (¬ ((M.1 77 12) ≤ x2) →
      (∃ (r2 : Int32), (mq_C mq_X10_rooted [.ref 77, .int x1, .int x2] M (some (.int r2), M)) ∧
      ((¬ r2 = 0 →
        mq_G mq_X10_fits (32, [some (.ref 77), some (.int x1), some (.int (x2 + 1))], [], M) res) ∧
      (¬ (¬ r2 = 0) →
        (∃ (M4 : mz_M), (mq_C mq_X10_tell [.ref 77, .long (x2.toInt64)] M (none, M4)) ∧
        mq_G mq_X10_fits (32, [some (.ref 77), some (.int x1), some (.int (x2 + 1))], [], M4) res))))))) :
    mq_G mq_X10_fits (32, [some (.ref 77), some (.int x1), some (.int x2)], [], M) res := by
  refine mz_Go.steps (n := 4) (k2 := (if (M.1 77 12) ≤ x2 then 61 else 40, [some (.ref 77), some (.int x1), some (.int x2)], [], M)) (P := []) rfl mz_o0 ?_
  refine mz_Go.ite (fun c37 => ?_) (fun c37 => ?_)
  · replace h := h.1 c37
    refine mz_Go.steps (n := 2) (k2 := (65, [some (.ref 77), some (.int x1), some (.int x2)], [.int (M.1 77 9)], M)) (P := []) rfl mz_o0 ?_
    rw [h]
    exact mz_Go.iret (rfl : mz_find 65 (mz_rows mq_X10_fits) = some (65, .ireturn, 1, 0, 0, 0)) rfl
  · replace h := h.2 c37
    refine mz_Go.steps (n := 3) (k2 := (43, [some (.ref 77), some (.int x1), some (.int x2)], [.int x2, .int x1, .ref 77], M)) (P := []) rfl mz_o0 ?_
    obtain ⟨r2, k2, h⟩ := h
    refine mz_Go.callV (As := [.int x1, .int x2]) (rest := []) (rfl : mz_find 43 (mz_rows mq_X10_fits) = some (43, .invokevirtual 203, 3, 188, 0, 201)) (rfl : mz_nth mq_tab 188 = some mq_X10_rooted) rfl rfl rfl rfl (Nat.le_of_ble_eq_true rfl) (Nat.le_of_ble_eq_true rfl) k2 ?_
    show mq_G mq_X10_fits (46, [some (.ref 77), some (.int x1), some (.int x2)], [.int r2], M) res
    refine mz_Go.steps (n := 1) (k2 := (if ¬ r2 = 0 then 55 else 49, [some (.ref 77), some (.int x1), some (.int x2)], [], M)) (P := []) rfl mz_o0 ?_
    refine mz_Go.ite (fun c46 => ?_) (fun c46 => ?_)
    · replace h := h.1 c46
      refine mz_Go.steps (n := 2) (k2 := (32, [some (.ref 77), some (.int x1), some (.int (x2 + 1))], [], M)) (P := []) rfl mz_o0 ?_
      exact h
    · replace h := h.2 c46
      refine mz_Go.steps (n := 3) (k2 := (52, [some (.ref 77), some (.int x1), some (.int x2)], [.long (x2.toInt64), .ref 77], M)) (P := []) rfl mz_o0 ?_
      obtain ⟨M4, k4, h⟩ := h
      refine mz_Go.callV (As := [.long (x2.toInt64)]) (rest := []) (rfl : mz_find 52 (mz_rows mq_X10_fits) = some (52, .invokevirtual 194, 3, 135, 0, 198)) (rfl : mz_nth mq_tab 135 = some mq_X10_tell) rfl rfl rfl rfl (Nat.le_of_ble_eq_true rfl) (Nat.le_of_ble_eq_true rfl) k4 ?_
      show mq_G mq_X10_fits (55, [some (.ref 77), some (.int x1), some (.int x2)], [], M4) res
      refine mz_Go.steps (n := 2) (k2 := (32, [some (.ref 77), some (.int x1), some (.int (x2 + 1))], [], M4)) (P := []) rfl mz_o0 ?_
      exact h
set_option maxRecDepth 100000 in
set_option maxHeartbeats 4000000 in
theorem t_X10_maps_0 (x1 : Int32) (x2 : Int32) (x3 : Int32) (M : mz_M) {res : mz_O} (h :
    (∀ M1 : mz_M, M1 = mz_wr M 77 (upd (M.1 77) 10 0) →
    (∃ (r2 : Int32), (mq_C mq_X10_isUnder [.ref 77, .int x1] M1 (some (.int r2), M1)) ∧
    ((r2 = 0 →
      res = (some (.int (-1)), M1)) ∧
    (¬ (r2 = 0) →
      (∃ (r4 : Int32), (mq_C mq_X10_isIrreducible [.int x1] M1 (some (.int r4), M1)) ∧
      ((r4 = 0 →
        res = (some (.int (-1)), M1)) ∧
      (¬ (r4 = 0) →
        (∃ (r6 : Int32), (mq_C mq_X10_isElement [.ref 77, .int x2] M1 (some (.int r6), M1)) ∧
        ((r6 = 0 →
          res = (some (.int (-1)), M1)) ∧
        (¬ (r6 = 0) →
          (∃ (r8 : Int32), (mq_C mq_X10_degree [.int x1] M1 (some (.int r8), M1)) ∧
          (∃ (r9 : Int32), (mq_C mq_X10_in [.long (x3.toInt64), .long ((0 : Int32).toInt64), .long ((((1 : Int32) <<< (r8 &&& 31)) - 1).toInt64)] M1 (some (.int r9), M1)) ∧
          ((¬ r9 = 0 →
            (∃ (r11 : Int32), (mq_C mq_X10_rooted [.ref 77, .int x1, .int x2] M1 (some (.int r11), M1)) ∧
            ((¬ r11 = 0 →
              res = (some (.int (-2)), M1)) ∧
            (¬ (¬ r11 = 0) →
              (∃ (r13 : Int32), (mq_C mq_X10_rooted [.ref 77, .int x3, .int x2] M1 (some (.int r13), M1)) ∧
              res = (some (.int r13), M1)))))) ∧
          (¬ (¬ r9 = 0) →
            res = (some (.int (-1)), M1)))))))))))))))) :
    mq_G mq_X10_maps (0, [some (.ref 77), some (.int x1), some (.int x2), some (.int x3)], [], M) res := by
  obtain ⟨M1, e1⟩ : ∃ y, y = mz_wr M 77 (upd (M.1 77) 10 0) := ⟨_, rfl⟩
  replace h := h M1 e1
  refine mz_Go.steps (n := 3) (k2 := (5, [some (.ref 77), some (.int x1), some (.int x2), some (.int x3)], [], (mz_wr M 77 (upd (M.1 77) 10 0)))) (P := []) rfl mz_o0 ?_
  rw [← e1]
  refine mz_Go.steps (n := 2) (k2 := (7, [some (.ref 77), some (.int x1), some (.int x2), some (.int x3)], [.int x1, .ref 77], M1)) (P := []) rfl mz_o0 ?_
  obtain ⟨r2, k2, h⟩ := h
  refine mz_Go.callV (As := [.int x1]) (rest := []) (rfl : mz_find 7 (mz_rows mq_X10_maps) = some (7, .invokevirtual 277, 3, 240, 0, 227)) (rfl : mz_nth mq_tab 240 = some mq_X10_isUnder) rfl rfl rfl rfl (Nat.le_of_ble_eq_true rfl) (Nat.le_of_ble_eq_true rfl) k2 ?_
  show mq_G mq_X10_maps (10, [some (.ref 77), some (.int x1), some (.int x2), some (.int x3)], [.int r2], M1) res
  refine mz_Go.steps (n := 1) (k2 := (if r2 = 0 then 46 else 13, [some (.ref 77), some (.int x1), some (.int x2), some (.int x3)], [], M1)) (P := []) rfl mz_o0 ?_
  refine mz_Go.ite (fun c10 => ?_) (fun c10 => ?_)
  · replace h := h.1 c10
    refine mz_Go.steps (n := 1) (k2 := (47, [some (.ref 77), some (.int x1), some (.int x2), some (.int x3)], [.int (-1)], M1)) (P := []) rfl mz_o0 ?_
    rw [h]
    exact mz_Go.iret (rfl : mz_find 47 (mz_rows mq_X10_maps) = some (47, .ireturn, 1, 0, 0, 0)) rfl
  · replace h := h.2 c10
    refine mz_Go.steps (n := 1) (k2 := (14, [some (.ref 77), some (.int x1), some (.int x2), some (.int x3)], [.int x1], M1)) (P := []) rfl mz_o0 ?_
    obtain ⟨r4, k4, h⟩ := h
    refine mz_Go.callS (As := [.int x1]) (rest := []) (rfl : mz_find 14 (mz_rows mq_X10_maps) = some (14, .invokestatic 176, 3, 144, 0, 190)) (rfl : mz_nth mq_tab 144 = some mq_X10_isIrreducible) (by decide) rfl rfl rfl (Nat.le_of_ble_eq_true rfl) (Nat.le_of_ble_eq_true rfl) k4 ?_
    show mq_G mq_X10_maps (17, [some (.ref 77), some (.int x1), some (.int x2), some (.int x3)], [.int r4], M1) res
    refine mz_Go.steps (n := 1) (k2 := (if r4 = 0 then 46 else 20, [some (.ref 77), some (.int x1), some (.int x2), some (.int x3)], [], M1)) (P := []) rfl mz_o0 ?_
    refine mz_Go.ite (fun c17 => ?_) (fun c17 => ?_)
    · replace h := h.1 c17
      refine mz_Go.steps (n := 1) (k2 := (47, [some (.ref 77), some (.int x1), some (.int x2), some (.int x3)], [.int (-1)], M1)) (P := []) rfl mz_o0 ?_
      rw [h]
      exact mz_Go.iret (rfl : mz_find 47 (mz_rows mq_X10_maps) = some (47, .ireturn, 1, 0, 0, 0)) rfl
    · replace h := h.2 c17
      refine mz_Go.steps (n := 2) (k2 := (22, [some (.ref 77), some (.int x1), some (.int x2), some (.int x3)], [.int x2, .ref 77], M1)) (P := []) rfl mz_o0 ?_
      obtain ⟨r6, k6, h⟩ := h
      refine mz_Go.callV (As := [.int x2]) (rest := []) (rfl : mz_find 22 (mz_rows mq_X10_maps) = some (22, .invokevirtual 183, 3, 156, 0, 194)) (rfl : mz_nth mq_tab 156 = some mq_X10_isElement) rfl rfl rfl rfl (Nat.le_of_ble_eq_true rfl) (Nat.le_of_ble_eq_true rfl) k6 ?_
      show mq_G mq_X10_maps (25, [some (.ref 77), some (.int x1), some (.int x2), some (.int x3)], [.int r6], M1) res
      refine mz_Go.steps (n := 1) (k2 := (if r6 = 0 then 46 else 28, [some (.ref 77), some (.int x1), some (.int x2), some (.int x3)], [], M1)) (P := []) rfl mz_o0 ?_
      refine mz_Go.ite (fun c25 => ?_) (fun c25 => ?_)
      · replace h := h.1 c25
        refine mz_Go.steps (n := 1) (k2 := (47, [some (.ref 77), some (.int x1), some (.int x2), some (.int x3)], [.int (-1)], M1)) (P := []) rfl mz_o0 ?_
        rw [h]
        exact mz_Go.iret (rfl : mz_find 47 (mz_rows mq_X10_maps) = some (47, .ireturn, 1, 0, 0, 0)) rfl
      · replace h := h.2 c25
        refine mz_Go.steps (n := 5) (k2 := (33, [some (.ref 77), some (.int x1), some (.int x2), some (.int x3)], [.int x1, .int 1, .long ((0 : Int32).toInt64), .long (x3.toInt64)], M1)) (P := []) rfl mz_o0 ?_
        obtain ⟨r8, k8, h⟩ := h
        refine mz_Go.callS (As := [.int x1]) (rest := [.int 1, .long ((0 : Int32).toInt64), .long (x3.toInt64)]) (rfl : mz_find 33 (mz_rows mq_X10_maps) = some (33, .invokestatic 69, 3, 139, 0, 148)) (rfl : mz_nth mq_tab 139 = some mq_X10_degree) (by decide) rfl rfl rfl (Nat.le_of_ble_eq_true rfl) (Nat.le_of_ble_eq_true rfl) k8 ?_
        show mq_G mq_X10_maps (36, [some (.ref 77), some (.int x1), some (.int x2), some (.int x3)], [.int r8, .int 1, .long ((0 : Int32).toInt64), .long (x3.toInt64)], M1) res
        refine mz_Go.steps (n := 4) (k2 := (40, [some (.ref 77), some (.int x1), some (.int x2), some (.int x3)], [.long ((((1 : Int32) <<< (r8 &&& 31)) - 1).toInt64), .long ((0 : Int32).toInt64), .long (x3.toInt64)], M1)) (P := []) rfl mz_o0 ?_
        obtain ⟨r9, k9, h⟩ := h
        refine mz_Go.callS (As := [.long (x3.toInt64), .long ((0 : Int32).toInt64), .long ((((1 : Int32) <<< (r8 &&& 31)) - 1).toInt64)]) (rest := []) (rfl : mz_find 40 (mz_rows mq_X10_maps) = some (40, .invokestatic 65, 3, 133, 0, 147)) (rfl : mz_nth mq_tab 133 = some mq_X10_in) (by decide) rfl rfl rfl (Nat.le_of_ble_eq_true rfl) (Nat.le_of_ble_eq_true rfl) k9 ?_
        show mq_G mq_X10_maps (43, [some (.ref 77), some (.int x1), some (.int x2), some (.int x3)], [.int r9], M1) res
        refine mz_Go.steps (n := 1) (k2 := (if ¬ r9 = 0 then 48 else 46, [some (.ref 77), some (.int x1), some (.int x2), some (.int x3)], [], M1)) (P := []) rfl mz_o0 ?_
        refine mz_Go.ite (fun c43 => ?_) (fun c43 => ?_)
        · replace h := h.1 c43
          refine mz_Go.steps (n := 3) (k2 := (51, [some (.ref 77), some (.int x1), some (.int x2), some (.int x3)], [.int x2, .int x1, .ref 77], M1)) (P := []) rfl mz_o0 ?_
          obtain ⟨r11, k11, h⟩ := h
          refine mz_Go.callV (As := [.int x1, .int x2]) (rest := []) (rfl : mz_find 51 (mz_rows mq_X10_maps) = some (51, .invokevirtual 203, 3, 188, 0, 201)) (rfl : mz_nth mq_tab 188 = some mq_X10_rooted) rfl rfl rfl rfl (Nat.le_of_ble_eq_true rfl) (Nat.le_of_ble_eq_true rfl) k11 ?_
          show mq_G mq_X10_maps (54, [some (.ref 77), some (.int x1), some (.int x2), some (.int x3)], [.int r11], M1) res
          refine mz_Go.steps (n := 1) (k2 := (if ¬ r11 = 0 then 66 else 57, [some (.ref 77), some (.int x1), some (.int x2), some (.int x3)], [], M1)) (P := []) rfl mz_o0 ?_
          refine mz_Go.ite (fun c54 => ?_) (fun c54 => ?_)
          · replace h := h.1 c54
            refine mz_Go.steps (n := 1) (k2 := (68, [some (.ref 77), some (.int x1), some (.int x2), some (.int x3)], [.int (-2)], M1)) (P := []) rfl mz_o0 ?_
            rw [h]
            exact mz_Go.iret (rfl : mz_find 68 (mz_rows mq_X10_maps) = some (68, .ireturn, 1, 0, 0, 0)) rfl
          · replace h := h.2 c54
            refine mz_Go.steps (n := 3) (k2 := (60, [some (.ref 77), some (.int x1), some (.int x2), some (.int x3)], [.int x2, .int x3, .ref 77], M1)) (P := []) rfl mz_o0 ?_
            obtain ⟨r13, k13, h⟩ := h
            refine mz_Go.callV (As := [.int x3, .int x2]) (rest := []) (rfl : mz_find 60 (mz_rows mq_X10_maps) = some (60, .invokevirtual 203, 3, 188, 0, 201)) (rfl : mz_nth mq_tab 188 = some mq_X10_rooted) rfl rfl rfl rfl (Nat.le_of_ble_eq_true rfl) (Nat.le_of_ble_eq_true rfl) k13 ?_
            show mq_G mq_X10_maps (63, [some (.ref 77), some (.int x1), some (.int x2), some (.int x3)], [.int r13], M1) res
            refine mz_Go.steps (n := 1) (k2 := (68, [some (.ref 77), some (.int x1), some (.int x2), some (.int x3)], [.int r13], M1)) (P := []) rfl mz_o0 ?_
            rw [h]
            exact mz_Go.iret (rfl : mz_find 68 (mz_rows mq_X10_maps) = some (68, .ireturn, 1, 0, 0, 0)) rfl
        · replace h := h.2 c43
          refine mz_Go.steps (n := 1) (k2 := (47, [some (.ref 77), some (.int x1), some (.int x2), some (.int x3)], [.int (-1)], M1)) (P := []) rfl mz_o0 ?_
          rw [h]
          exact mz_Go.iret (rfl : mz_find 47 (mz_rows mq_X10_maps) = some (47, .ireturn, 1, 0, 0, 0)) rfl
set_option maxRecDepth 100000 in
set_option maxHeartbeats 4000000 in
theorem t_X10_isPrimitive_0 (x0 : Int32) (M : mz_M) {res : mz_O} (h :
    (∃ (r1 : Int32), (mq_C mq_X10_modulo [.int 2, .int x0] M (some (.int r1), M)) ∧
    mq_G mq_X10_isPrimitive (8, [some (.int x0), some (.int 1), some (.int r1)], [], M) res)) :
    mq_G mq_X10_isPrimitive (0, [some (.int x0), none, none], [], M) res := by
  refine mz_Go.steps (n := 4) (k2 := (4, [some (.int x0), some (.int 1), none], [.int x0, .int 2], M)) (P := []) rfl mz_o0 ?_
  obtain ⟨r1, k1, h⟩ := h
  refine mz_Go.callS (As := [.int 2, .int x0]) (rest := []) (rfl : mz_find 4 (mz_rows mq_X10_isPrimitive) = some (4, .invokestatic 73, 3, 140, 0, 149)) (rfl : mz_nth mq_tab 140 = some mq_X10_modulo) (by decide) rfl rfl rfl (Nat.le_of_ble_eq_true rfl) (Nat.le_of_ble_eq_true rfl) k1 ?_
  show mq_G mq_X10_isPrimitive (7, [some (.int x0), some (.int 1), none], [.int r1], M) res
  refine mz_Go.steps (n := 1) (k2 := (8, [some (.int x0), some (.int 1), some (.int r1)], [], M)) (P := []) rfl mz_o0 ?_
  exact h
set_option maxRecDepth 100000 in
set_option maxHeartbeats 4000000 in
theorem t_X10_isPrimitive_8 (x0 : Int32) (x1 : Int32) (x2 : Int32) (M : mz_M) {res : mz_O} (h :
    ((x2 = 1 →
      (∃ (r2 : Int32), (mq_C mq_X10_degree [.int x0] M (some (.int r2), M)) ∧
      ((¬ x1 = (((1 : Int32) <<< (r2 &&& 31)) - 1) →
        res = (some (.int 0), M)) ∧
      (¬ (¬ x1 = (((1 : Int32) <<< (r2 &&& 31)) - 1)) →
        res = (some (.int 1), M))))) ∧
    (¬ (x2 = 1) →
      (∃ (r4 : Int32), (mq_C mq_X10_modulo [.int (x2 <<< (1 &&& 31)), .int x0] M (some (.int r4), M)) ∧
      mq_G mq_X10_isPrimitive (8, [some (.int x0), some (.int (x1 + 1)), some (.int r4)], [], M) res)))) :
    mq_G mq_X10_isPrimitive (8, [some (.int x0), some (.int x1), some (.int x2)], [], M) res := by
  refine mz_Go.steps (n := 3) (k2 := (if x2 = 1 then 27 else 13, [some (.int x0), some (.int x1), some (.int x2)], [], M)) (P := []) rfl mz_o0 ?_
  refine mz_Go.ite (fun c10 => ?_) (fun c10 => ?_)
  · replace h := h.1 c10
    refine mz_Go.steps (n := 3) (k2 := (30, [some (.int x0), some (.int x1), some (.int x2)], [.int x0, .int 1, .int x1], M)) (P := []) rfl mz_o0 ?_
    obtain ⟨r2, k2, h⟩ := h
    refine mz_Go.callS (As := [.int x0]) (rest := [.int 1, .int x1]) (rfl : mz_find 30 (mz_rows mq_X10_isPrimitive) = some (30, .invokestatic 69, 3, 139, 0, 148)) (rfl : mz_nth mq_tab 139 = some mq_X10_degree) (by decide) rfl rfl rfl (Nat.le_of_ble_eq_true rfl) (Nat.le_of_ble_eq_true rfl) k2 ?_
    show mq_G mq_X10_isPrimitive (33, [some (.int x0), some (.int x1), some (.int x2)], [.int r2, .int 1, .int x1], M) res
    refine mz_Go.steps (n := 4) (k2 := (if ¬ x1 = (((1 : Int32) <<< (r2 &&& 31)) - 1) then 43 else 39, [some (.int x0), some (.int x1), some (.int x2)], [], M)) (P := []) rfl mz_o0 ?_
    refine mz_Go.ite (fun c36 => ?_) (fun c36 => ?_)
    · replace h := h.1 c36
      refine mz_Go.steps (n := 1) (k2 := (44, [some (.int x0), some (.int x1), some (.int x2)], [.int 0], M)) (P := []) rfl mz_o0 ?_
      rw [h]
      exact mz_Go.zret (rfl : mz_find 44 (mz_rows mq_X10_isPrimitive) = some (44, .ireturn, 1, 0, 0, 0)) rfl (Or.inl rfl)
    · replace h := h.2 c36
      refine mz_Go.steps (n := 2) (k2 := (44, [some (.int x0), some (.int x1), some (.int x2)], [.int 1], M)) (P := []) rfl mz_o0 ?_
      rw [h]
      exact mz_Go.zret (rfl : mz_find 44 (mz_rows mq_X10_isPrimitive) = some (44, .ireturn, 1, 0, 0, 0)) rfl (Or.inr rfl)
  · replace h := h.2 c10
    refine mz_Go.steps (n := 5) (k2 := (20, [some (.int x0), some (.int (x1 + 1)), some (.int x2)], [.int x0, .int (x2 <<< (1 &&& 31))], M)) (P := []) rfl mz_o0 ?_
    obtain ⟨r4, k4, h⟩ := h
    refine mz_Go.callS (As := [.int (x2 <<< (1 &&& 31)), .int x0]) (rest := []) (rfl : mz_find 20 (mz_rows mq_X10_isPrimitive) = some (20, .invokestatic 73, 3, 140, 0, 149)) (rfl : mz_nth mq_tab 140 = some mq_X10_modulo) (by decide) rfl rfl rfl (Nat.le_of_ble_eq_true rfl) (Nat.le_of_ble_eq_true rfl) k4 ?_
    show mq_G mq_X10_isPrimitive (23, [some (.int x0), some (.int (x1 + 1)), some (.int x2)], [.int r4], M) res
    refine mz_Go.steps (n := 2) (k2 := (8, [some (.int x0), some (.int (x1 + 1)), some (.int r4)], [], M)) (P := []) rfl mz_o0 ?_
    exact h
set_option maxRecDepth 100000 in
set_option maxHeartbeats 4000000 in
theorem t_X10_irreducibles_0 (x1 : Int32) (M : mz_M) {res : mz_O} (h :
    (∀ M1 : mz_M, M1 = mz_wr M 77 (upd (M.1 77) 10 0) →
    (∃ (r2 : Int32), (mq_C mq_X10_in [.long (x1.toInt64), .long ((1 : Int32).toInt64), .long ((8 : Int32).toInt64)] M1 (some (.int r2), M1)) ∧
    ((¬ r2 = 0 →
      mq_G mq_X10_irreducibles (31, [some (.ref 77), some (.int x1), some (.int 0), some (.int (-1)), some (.int 0), some (.int ((1 : Int32) <<< (x1 &&& 31)))], [], M1) res) ∧
    (¬ (¬ r2 = 0) →
      res = (some (.int (-1)), M1)))))) :
    mq_G mq_X10_irreducibles (0, [some (.ref 77), some (.int x1), none, none, none, none], [], M) res := by
  obtain ⟨M1, e1⟩ : ∃ y, y = mz_wr M 77 (upd (M.1 77) 10 0) := ⟨_, rfl⟩
  replace h := h M1 e1
  refine mz_Go.steps (n := 3) (k2 := (5, [some (.ref 77), some (.int x1), none, none, none, none], [], (mz_wr M 77 (upd (M.1 77) 10 0)))) (P := []) rfl mz_o0 ?_
  rw [← e1]
  refine mz_Go.steps (n := 4) (k2 := (11, [some (.ref 77), some (.int x1), none, none, none, none], [.long ((8 : Int32).toInt64), .long ((1 : Int32).toInt64), .long (x1.toInt64)], M1)) (P := []) rfl mz_o0 ?_
  obtain ⟨r2, k2, h⟩ := h
  refine mz_Go.callS (As := [.long (x1.toInt64), .long ((1 : Int32).toInt64), .long ((8 : Int32).toInt64)]) (rest := []) (rfl : mz_find 11 (mz_rows mq_X10_irreducibles) = some (11, .invokestatic 65, 3, 133, 0, 147)) (rfl : mz_nth mq_tab 133 = some mq_X10_in) (by decide) rfl rfl rfl (Nat.le_of_ble_eq_true rfl) (Nat.le_of_ble_eq_true rfl) k2 ?_
  show mq_G mq_X10_irreducibles (14, [some (.ref 77), some (.int x1), none, none, none, none], [.int r2], M1) res
  refine mz_Go.steps (n := 1) (k2 := (if ¬ r2 = 0 then 19 else 17, [some (.ref 77), some (.int x1), none, none, none, none], [], M1)) (P := []) rfl mz_o0 ?_
  refine mz_Go.ite (fun c14 => ?_) (fun c14 => ?_)
  · replace h := h.1 c14
    refine mz_Go.steps (n := 10) (k2 := (31, [some (.ref 77), some (.int x1), some (.int 0), some (.int (-1)), some (.int 0), some (.int ((1 : Int32) <<< (x1 &&& 31)))], [], M1)) (P := []) rfl mz_o0 ?_
    exact h
  · replace h := h.2 c14
    refine mz_Go.steps (n := 1) (k2 := (18, [some (.ref 77), some (.int x1), none, none, none, none], [.int (-1)], M1)) (P := []) rfl mz_o0 ?_
    rw [h]
    exact mz_Go.iret (rfl : mz_find 18 (mz_rows mq_X10_irreducibles) = some (18, .ireturn, 1, 0, 0, 0)) rfl
set_option maxRecDepth 100000 in
set_option maxHeartbeats 4000000 in
theorem t_X10_irreducibles_31 (x1 : Int32) (x2 : Int32) (x3 : Int32) (x4 : Int32) (x5 : Int32) (M : mz_M) {res : mz_O} (h :
    ((((2 : Int32) <<< (x1 &&& 31)) ≤ x5 →
      (∀ M2 : mz_M, M2 = mz_wr M 77 (upd (M.1 77) 9 0) →
      (∃ (M3 : mz_M), (mq_C mq_X10_tell [.ref 77, .long (x3.toInt64)] M2 (none, M3)) ∧
      (∃ (M4 : mz_M), (mq_C mq_X10_tell [.ref 77, .long (x4.toInt64)] M3 (none, M4)) ∧
      res = (some (.int x2), M4))))) ∧
    (¬ (((2 : Int32) <<< (x1 &&& 31)) ≤ x5) →
      (∃ (r5 : Int32), (mq_C mq_X10_isIrreducible [.int x5] M (some (.int r5), M)) ∧
      ((¬ r5 = 0 →
        ((¬ x2 = 0 →
          ((x1 ≤ 1 →
            mq_G mq_X10_irreducibles (31, [some (.ref 77), some (.int x1), some (.int (x2 + 1)), some (.int x3), some (.int (x4 + 0)), some (.int (x5 + 1))], [], M) res) ∧
          (¬ (x1 ≤ 1) →
            (∃ (r9 : Int32), (mq_C mq_X10_isPrimitive [.int x5] M (some (.int r9), M)) ∧
            ((r9 = 0 →
              mq_G mq_X10_irreducibles (31, [some (.ref 77), some (.int x1), some (.int (x2 + 1)), some (.int x3), some (.int (x4 + 0)), some (.int (x5 + 1))], [], M) res) ∧
            (¬ (r9 = 0) →
              mq_G mq_X10_irreducibles (31, [some (.ref 77), some (.int x1), some (.int (x2 + 1)), some (.int x3), some (.int (x4 + 1)), some (.int (x5 + 1))], [], M) res)))))) ∧
        (¬ (¬ x2 = 0) →
          ((x1 ≤ 1 →
            mq_G mq_X10_irreducibles (31, [some (.ref 77), some (.int x1), some (.int (x2 + 1)), some (.int x5), some (.int (x4 + 0)), some (.int (x5 + 1))], [], M) res) ∧
          (¬ (x1 ≤ 1) →
            (∃ (r12 : Int32), (mq_C mq_X10_isPrimitive [.int x5] M (some (.int r12), M)) ∧
            ((r12 = 0 →
              mq_G mq_X10_irreducibles (31, [some (.ref 77), some (.int x1), some (.int (x2 + 1)), some (.int x5), some (.int (x4 + 0)), some (.int (x5 + 1))], [], M) res) ∧
            (¬ (r12 = 0) →
              mq_G mq_X10_irreducibles (31, [some (.ref 77), some (.int x1), some (.int (x2 + 1)), some (.int x5), some (.int (x4 + 1)), some (.int (x5 + 1))], [], M) res)))))))) ∧
      (¬ (¬ r5 = 0) →
        mq_G mq_X10_irreducibles (31, [some (.ref 77), some (.int x1), some (.int x2), some (.int x3), some (.int x4), some (.int (x5 + 1))], [], M) res)))))) :
    mq_G mq_X10_irreducibles (31, [some (.ref 77), some (.int x1), some (.int x2), some (.int x3), some (.int x4), some (.int x5)], [], M) res := by
  refine mz_Go.steps (n := 5) (k2 := (if ((2 : Int32) <<< (x1 &&& 31)) ≤ x5 then 93 else 39, [some (.ref 77), some (.int x1), some (.int x2), some (.int x3), some (.int x4), some (.int x5)], [], M)) (P := []) rfl mz_o0 ?_
  refine mz_Go.ite (fun c36 => ?_) (fun c36 => ?_)
  · replace h := h.1 c36
    obtain ⟨M2, e2⟩ : ∃ y, y = mz_wr M 77 (upd (M.1 77) 9 0) := ⟨_, rfl⟩
    replace h := h M2 e2
    refine mz_Go.steps (n := 3) (k2 := (98, [some (.ref 77), some (.int x1), some (.int x2), some (.int x3), some (.int x4), some (.int x5)], [], (mz_wr M 77 (upd (M.1 77) 9 0)))) (P := []) rfl mz_o0 ?_
    rw [← e2]
    refine mz_Go.steps (n := 3) (k2 := (101, [some (.ref 77), some (.int x1), some (.int x2), some (.int x3), some (.int x4), some (.int x5)], [.long (x3.toInt64), .ref 77], M2)) (P := []) rfl mz_o0 ?_
    obtain ⟨M3, k3, h⟩ := h
    refine mz_Go.callV (As := [.long (x3.toInt64)]) (rest := []) (rfl : mz_find 101 (mz_rows mq_X10_irreducibles) = some (101, .invokevirtual 194, 3, 135, 0, 198)) (rfl : mz_nth mq_tab 135 = some mq_X10_tell) rfl rfl rfl rfl (Nat.le_of_ble_eq_true rfl) (Nat.le_of_ble_eq_true rfl) k3 ?_
    show mq_G mq_X10_irreducibles (104, [some (.ref 77), some (.int x1), some (.int x2), some (.int x3), some (.int x4), some (.int x5)], [], M3) res
    refine mz_Go.steps (n := 3) (k2 := (108, [some (.ref 77), some (.int x1), some (.int x2), some (.int x3), some (.int x4), some (.int x5)], [.long (x4.toInt64), .ref 77], M3)) (P := []) rfl mz_o0 ?_
    obtain ⟨M4, k4, h⟩ := h
    refine mz_Go.callV (As := [.long (x4.toInt64)]) (rest := []) (rfl : mz_find 108 (mz_rows mq_X10_irreducibles) = some (108, .invokevirtual 194, 3, 135, 0, 198)) (rfl : mz_nth mq_tab 135 = some mq_X10_tell) rfl rfl rfl rfl (Nat.le_of_ble_eq_true rfl) (Nat.le_of_ble_eq_true rfl) k4 ?_
    show mq_G mq_X10_irreducibles (111, [some (.ref 77), some (.int x1), some (.int x2), some (.int x3), some (.int x4), some (.int x5)], [], M4) res
    refine mz_Go.steps (n := 1) (k2 := (112, [some (.ref 77), some (.int x1), some (.int x2), some (.int x3), some (.int x4), some (.int x5)], [.int x2], M4)) (P := []) rfl mz_o0 ?_
    rw [h]
    exact mz_Go.iret (rfl : mz_find 112 (mz_rows mq_X10_irreducibles) = some (112, .ireturn, 1, 0, 0, 0)) rfl
  · replace h := h.2 c36
    refine mz_Go.steps (n := 1) (k2 := (41, [some (.ref 77), some (.int x1), some (.int x2), some (.int x3), some (.int x4), some (.int x5)], [.int x5], M)) (P := []) rfl mz_o0 ?_
    obtain ⟨r5, k5, h⟩ := h
    refine mz_Go.callS (As := [.int x5]) (rest := []) (rfl : mz_find 41 (mz_rows mq_X10_irreducibles) = some (41, .invokestatic 176, 3, 144, 0, 190)) (rfl : mz_nth mq_tab 144 = some mq_X10_isIrreducible) (by decide) rfl rfl rfl (Nat.le_of_ble_eq_true rfl) (Nat.le_of_ble_eq_true rfl) k5 ?_
    show mq_G mq_X10_irreducibles (44, [some (.ref 77), some (.int x1), some (.int x2), some (.int x3), some (.int x4), some (.int x5)], [.int r5], M) res
    refine mz_Go.steps (n := 1) (k2 := (if ¬ r5 = 0 then 50 else 47, [some (.ref 77), some (.int x1), some (.int x2), some (.int x3), some (.int x4), some (.int x5)], [], M)) (P := []) rfl mz_o0 ?_
    refine mz_Go.ite (fun c44 => ?_) (fun c44 => ?_)
    · replace h := h.1 c44
      refine mz_Go.steps (n := 2) (k2 := (if ¬ x2 = 0 then 59 else 54, [some (.ref 77), some (.int x1), some (.int x2), some (.int x3), some (.int x4), some (.int x5)], [], M)) (P := []) rfl mz_o0 ?_
      refine mz_Go.ite (fun c51 => ?_) (fun c51 => ?_)
      · replace h := h.1 c51
        refine mz_Go.steps (n := 7) (k2 := (if x1 ≤ 1 then 83 else 71, [some (.ref 77), some (.int x1), some (.int (x2 + 1)), some (.int x3), some (.int x4), some (.int x5)], [.int x4], M)) (P := []) rfl mz_o0 ?_
        refine mz_Go.ite (fun c68 => ?_) (fun c68 => ?_)
        · replace h := h.1 c68
          refine mz_Go.steps (n := 5) (k2 := (31, [some (.ref 77), some (.int x1), some (.int (x2 + 1)), some (.int x3), some (.int (x4 + 0)), some (.int (x5 + 1))], [], M)) (P := []) rfl mz_o0 ?_
          exact h
        · replace h := h.2 c68
          refine mz_Go.steps (n := 1) (k2 := (73, [some (.ref 77), some (.int x1), some (.int (x2 + 1)), some (.int x3), some (.int x4), some (.int x5)], [.int x5, .int x4], M)) (P := []) rfl mz_o0 ?_
          obtain ⟨r9, k9, h⟩ := h
          refine mz_Go.callS (As := [.int x5]) (rest := [.int x4]) (rfl : mz_find 73 (mz_rows mq_X10_irreducibles) = some (73, .invokestatic 282, 3, 243, 0, 229)) (rfl : mz_nth mq_tab 243 = some mq_X10_isPrimitive) (by decide) rfl rfl rfl (Nat.le_of_ble_eq_true rfl) (Nat.le_of_ble_eq_true rfl) k9 ?_
          show mq_G mq_X10_irreducibles (76, [some (.ref 77), some (.int x1), some (.int (x2 + 1)), some (.int x3), some (.int x4), some (.int x5)], [.int r9, .int x4], M) res
          refine mz_Go.steps (n := 1) (k2 := (if r9 = 0 then 83 else 79, [some (.ref 77), some (.int x1), some (.int (x2 + 1)), some (.int x3), some (.int x4), some (.int x5)], [.int x4], M)) (P := []) rfl mz_o0 ?_
          refine mz_Go.ite (fun c76 => ?_) (fun c76 => ?_)
          · replace h := h.1 c76
            refine mz_Go.steps (n := 5) (k2 := (31, [some (.ref 77), some (.int x1), some (.int (x2 + 1)), some (.int x3), some (.int (x4 + 0)), some (.int (x5 + 1))], [], M)) (P := []) rfl mz_o0 ?_
            exact h
          · replace h := h.2 c76
            refine mz_Go.steps (n := 6) (k2 := (31, [some (.ref 77), some (.int x1), some (.int (x2 + 1)), some (.int x3), some (.int (x4 + 1)), some (.int (x5 + 1))], [], M)) (P := []) rfl mz_o0 ?_
            exact h
      · replace h := h.2 c51
        refine mz_Go.steps (n := 8) (k2 := (if x1 ≤ 1 then 83 else 71, [some (.ref 77), some (.int x1), some (.int (x2 + 1)), some (.int x5), some (.int x4), some (.int x5)], [.int x4], M)) (P := []) rfl mz_o0 ?_
        refine mz_Go.ite (fun c68 => ?_) (fun c68 => ?_)
        · replace h := h.1 c68
          refine mz_Go.steps (n := 5) (k2 := (31, [some (.ref 77), some (.int x1), some (.int (x2 + 1)), some (.int x5), some (.int (x4 + 0)), some (.int (x5 + 1))], [], M)) (P := []) rfl mz_o0 ?_
          exact h
        · replace h := h.2 c68
          refine mz_Go.steps (n := 1) (k2 := (73, [some (.ref 77), some (.int x1), some (.int (x2 + 1)), some (.int x5), some (.int x4), some (.int x5)], [.int x5, .int x4], M)) (P := []) rfl mz_o0 ?_
          obtain ⟨r12, k12, h⟩ := h
          refine mz_Go.callS (As := [.int x5]) (rest := [.int x4]) (rfl : mz_find 73 (mz_rows mq_X10_irreducibles) = some (73, .invokestatic 282, 3, 243, 0, 229)) (rfl : mz_nth mq_tab 243 = some mq_X10_isPrimitive) (by decide) rfl rfl rfl (Nat.le_of_ble_eq_true rfl) (Nat.le_of_ble_eq_true rfl) k12 ?_
          show mq_G mq_X10_irreducibles (76, [some (.ref 77), some (.int x1), some (.int (x2 + 1)), some (.int x5), some (.int x4), some (.int x5)], [.int r12, .int x4], M) res
          refine mz_Go.steps (n := 1) (k2 := (if r12 = 0 then 83 else 79, [some (.ref 77), some (.int x1), some (.int (x2 + 1)), some (.int x5), some (.int x4), some (.int x5)], [.int x4], M)) (P := []) rfl mz_o0 ?_
          refine mz_Go.ite (fun c76 => ?_) (fun c76 => ?_)
          · replace h := h.1 c76
            refine mz_Go.steps (n := 5) (k2 := (31, [some (.ref 77), some (.int x1), some (.int (x2 + 1)), some (.int x5), some (.int (x4 + 0)), some (.int (x5 + 1))], [], M)) (P := []) rfl mz_o0 ?_
            exact h
          · replace h := h.2 c76
            refine mz_Go.steps (n := 6) (k2 := (31, [some (.ref 77), some (.int x1), some (.int (x2 + 1)), some (.int x5), some (.int (x4 + 1)), some (.int (x5 + 1))], [], M)) (P := []) rfl mz_o0 ?_
            exact h
    · replace h := h.2 c44
      refine mz_Go.steps (n := 3) (k2 := (31, [some (.ref 77), some (.int x1), some (.int x2), some (.int x3), some (.int x4), some (.int (x5 + 1))], [], M)) (P := []) rfl mz_o0 ?_
      exact h
set_option maxRecDepth 100000 in
set_option maxHeartbeats 4000000 in
theorem t_X10_undo_0 (M : mz_M) {res : mz_O} (h :
    (∀ M1 : mz_M, M1 = mz_wr M 77 (upd (M.1 77) 10 0) →
    ((¬ (M1.1 77 5) = 0 →
      (∀ M3 : mz_M, M3 = mz_wr M1 77 (upd (M1.1 77) 5 ((M1.1 77 5) - 1)) →
      mq_G mq_X10_undo (27, [some (.ref 77), some (.int 0)], [], M3) res)) ∧
    (¬ (¬ (M1.1 77 5) = 0) →
      res = (some (.int (-2)), M1))))) :
    mq_G mq_X10_undo (0, [some (.ref 77), none], [], M) res := by
  obtain ⟨M1, e1⟩ : ∃ y, y = mz_wr M 77 (upd (M.1 77) 10 0) := ⟨_, rfl⟩
  replace h := h M1 e1
  refine mz_Go.steps (n := 3) (k2 := (5, [some (.ref 77), none], [], (mz_wr M 77 (upd (M.1 77) 10 0)))) (P := []) rfl mz_o0 ?_
  rw [← e1]
  refine mz_Go.steps (n := 3) (k2 := (if ¬ (M1.1 77 5) = 0 then 15 else 12, [some (.ref 77), none], [], M1)) (P := []) rfl mz_o0 ?_
  refine mz_Go.ite (fun c9 => ?_) (fun c9 => ?_)
  · replace h := h.1 c9
    obtain ⟨M3, e3⟩ : ∃ y, y = mz_wr M1 77 (upd (M1.1 77) 5 ((M1.1 77 5) - 1)) := ⟨_, rfl⟩
    replace h := h M3 e3
    refine mz_Go.steps (n := 6) (k2 := (25, [some (.ref 77), none], [], (mz_wr M1 77 (upd (M1.1 77) 5 ((M1.1 77 5) - 1))))) (P := []) rfl mz_o0 ?_
    rw [← e3]
    refine mz_Go.steps (n := 2) (k2 := (27, [some (.ref 77), some (.int 0)], [], M3)) (P := []) rfl mz_o0 ?_
    exact h
  · replace h := h.2 c9
    refine mz_Go.steps (n := 1) (k2 := (14, [some (.ref 77), none], [.int (-2)], M1)) (P := []) rfl mz_o0 ?_
    rw [h]
    exact mz_Go.iret (rfl : mz_find 14 (mz_rows mq_X10_undo) = some (14, .ireturn, 1, 0, 0, 0)) rfl
set_option maxRecDepth 100000 in
set_option maxHeartbeats 4000000 in
theorem t_X10_undo_27 (x1 : Int32) (M : mz_M) {res : mz_O} (h :
    ((33 ≤ x1 →
      (∃ (M2 : mz_M), (mq_C mq_X10_lays [.ref 77] M (none, M2)) ∧
      res = (some (.int (M2.1 77 5)), M2))) ∧
    (¬ (33 ≤ x1) →
      (vp_in ((33 * (M.1 77 5)) + x1) 264) ∧
      (vp_in x1 33) ∧
      (∀ M3 : mz_M, M3 = mz_wr M 78 (upd (M.1 78) x1.toNatClampNeg (M.1 81 ((33 * (M.1 77 5)) + x1).toNatClampNeg)) →
      mq_G mq_X10_undo (27, [some (.ref 77), some (.int (x1 + 1))], [], M3) res)))) :
    mq_G mq_X10_undo (27, [some (.ref 77), some (.int x1)], [], M) res := by
  refine mz_Go.steps (n := 3) (k2 := (if 33 ≤ x1 then 59 else 33, [some (.ref 77), some (.int x1)], [], M)) (P := []) rfl mz_o0 ?_
  refine mz_Go.ite (fun c30 => ?_) (fun c30 => ?_)
  · replace h := h.1 c30
    refine mz_Go.steps (n := 1) (k2 := (60, [some (.ref 77), some (.int x1)], [.ref 77], M)) (P := []) rfl mz_o0 ?_
    obtain ⟨M2, k2, h⟩ := h
    refine mz_Go.callV (As := []) (rest := []) (rfl : mz_find 60 (mz_rows mq_X10_undo) = some (60, .invokevirtual 86, 3, 145, 0, 154)) (rfl : mz_nth mq_tab 145 = some mq_X10_lays) rfl rfl rfl rfl (Nat.le_of_ble_eq_true rfl) (Nat.le_of_ble_eq_true rfl) k2 ?_
    show mq_G mq_X10_undo (63, [some (.ref 77), some (.int x1)], [], M2) res
    refine mz_Go.steps (n := 2) (k2 := (67, [some (.ref 77), some (.int x1)], [.int (M2.1 77 5)], M2)) (P := []) rfl mz_o0 ?_
    rw [h]
    exact mz_Go.iret (rfl : mz_find 67 (mz_rows mq_X10_undo) = some (67, .ireturn, 1, 0, 0, 0)) rfl
  · replace h := h.2 c30
    obtain ⟨q4, q5, h⟩ := h
    obtain ⟨M3, e3⟩ : ∃ y, y = mz_wr M 78 (upd (M.1 78) x1.toNatClampNeg (M.1 81 ((33 * (M.1 77 5)) + x1).toNatClampNeg)) := ⟨_, rfl⟩
    replace h := h M3 e3
    refine mz_Go.steps (n := 13) (k2 := (53, [some (.ref 77), some (.int x1)], [], (mz_wr M 78 (upd (M.1 78) x1.toNatClampNeg (M.1 81 ((33 * (M.1 77 5)) + x1).toNatClampNeg))))) (P := [vp_in ((33 * (M.1 77 5)) + x1) 264, vp_in x1 33]) rfl (mz_o2 q4 q5) ?_
    rw [← e3]
    refine mz_Go.steps (n := 2) (k2 := (27, [some (.ref 77), some (.int (x1 + 1))], [], M3)) (P := []) rfl mz_o0 ?_
    exact h
set_option maxRecDepth 100000 in
set_option maxHeartbeats 4000000 in
theorem t_X10_keeps_0 (M : mz_M) {res : mz_O} (h :
    (∀ M1 : mz_M, M1 = mz_wr M 77 (upd (M.1 77) 10 0) →
    mq_G mq_X10_keeps (7, [some (.ref 77), some (.int 0)], [], M1) res)) :
    mq_G mq_X10_keeps (0, [some (.ref 77), none], [], M) res := by
  obtain ⟨M1, e1⟩ : ∃ y, y = mz_wr M 77 (upd (M.1 77) 10 0) := ⟨_, rfl⟩
  replace h := h M1 e1
  refine mz_Go.steps (n := 3) (k2 := (5, [some (.ref 77), none], [], (mz_wr M 77 (upd (M.1 77) 10 0)))) (P := []) rfl mz_o0 ?_
  rw [← e1]
  refine mz_Go.steps (n := 2) (k2 := (7, [some (.ref 77), some (.int 0)], [], M1)) (P := []) rfl mz_o0 ?_
  exact h
set_option maxRecDepth 100000 in
set_option maxHeartbeats 4000000 in
theorem t_X10_keeps_7 (x1 : Int32) (M : mz_M) {res : mz_O} (h :
    ((33 ≤ x1 →
      ((1 : Int32) = 0 ∨ (1 : Int32) = 1) ∧
      (∀ M2 : mz_M, M2 = mz_wr M 77 (upd (M.1 77) 3 1) →
      res = (some (.int (M2.1 77 11)), M2))) ∧
    (¬ (33 ≤ x1) →
      (vp_in x1 33) ∧
      (vp_in x1 33) ∧
      (∀ M4 : mz_M, M4 = mz_wr M 80 (upd (M.1 80) x1.toNatClampNeg (M.1 78 x1.toNatClampNeg)) →
      mq_G mq_X10_keeps (7, [some (.ref 77), some (.int (x1 + 1))], [], M4) res)))) :
    mq_G mq_X10_keeps (7, [some (.ref 77), some (.int x1)], [], M) res := by
  refine mz_Go.steps (n := 3) (k2 := (if 33 ≤ x1 then 31 else 13, [some (.ref 77), some (.int x1)], [], M)) (P := []) rfl mz_o0 ?_
  refine mz_Go.ite (fun c10 => ?_) (fun c10 => ?_)
  · replace h := h.1 c10
    obtain ⟨q3, h⟩ := h
    obtain ⟨M2, e2⟩ : ∃ y, y = mz_wr M 77 (upd (M.1 77) 3 1) := ⟨_, rfl⟩
    replace h := h M2 e2
    refine mz_Go.steps (n := 3) (k2 := (36, [some (.ref 77), some (.int x1)], [], (mz_wr M 77 (upd (M.1 77) 3 1)))) (P := [(1 : Int32) = 0 ∨ (1 : Int32) = 1]) rfl (mz_o1 q3) ?_
    rw [← e2]
    refine mz_Go.steps (n := 2) (k2 := (40, [some (.ref 77), some (.int x1)], [.int (M2.1 77 11)], M2)) (P := []) rfl mz_o0 ?_
    rw [h]
    exact mz_Go.iret (rfl : mz_find 40 (mz_rows mq_X10_keeps) = some (40, .ireturn, 1, 0, 0, 0)) rfl
  · replace h := h.2 c10
    obtain ⟨q5, q6, h⟩ := h
    obtain ⟨M4, e4⟩ : ∃ y, y = mz_wr M 80 (upd (M.1 80) x1.toNatClampNeg (M.1 78 x1.toNatClampNeg)) := ⟨_, rfl⟩
    replace h := h M4 e4
    refine mz_Go.steps (n := 8) (k2 := (25, [some (.ref 77), some (.int x1)], [], (mz_wr M 80 (upd (M.1 80) x1.toNatClampNeg (M.1 78 x1.toNatClampNeg))))) (P := [vp_in x1 33, vp_in x1 33]) rfl (mz_o2 q5 q6) ?_
    rw [← e4]
    refine mz_Go.steps (n := 2) (k2 := (7, [some (.ref 77), some (.int (x1 + 1))], [], M4)) (P := []) rfl mz_o0 ?_
    exact h
set_option maxRecDepth 100000 in
set_option maxHeartbeats 4000000 in
theorem t_X10_back_0 (M : mz_M) {res : mz_O} (h :
    (∀ M1 : mz_M, M1 = mz_wr M 77 (upd (M.1 77) 10 0) →
    ((¬ (M1.1 77 3) = 0 →
      (∃ (M3 : mz_M), (mq_C mq_X10_does [.ref 77] M1 (none, M3)) ∧
      mq_G mq_X10_back (21, [some (.ref 77), some (.int 0)], [], M3) res)) ∧
    (¬ (¬ (M1.1 77 3) = 0) →
      res = (some (.int (-2)), M1))))) :
    mq_G mq_X10_back (0, [some (.ref 77), none], [], M) res := by
  obtain ⟨M1, e1⟩ : ∃ y, y = mz_wr M 77 (upd (M.1 77) 10 0) := ⟨_, rfl⟩
  replace h := h M1 e1
  refine mz_Go.steps (n := 3) (k2 := (5, [some (.ref 77), none], [], (mz_wr M 77 (upd (M.1 77) 10 0)))) (P := []) rfl mz_o0 ?_
  rw [← e1]
  refine mz_Go.steps (n := 3) (k2 := (if ¬ (M1.1 77 3) = 0 then 15 else 12, [some (.ref 77), none], [], M1)) (P := []) rfl mz_o0 ?_
  refine mz_Go.ite (fun c9 => ?_) (fun c9 => ?_)
  · replace h := h.1 c9
    refine mz_Go.steps (n := 1) (k2 := (16, [some (.ref 77), none], [.ref 77], M1)) (P := []) rfl mz_o0 ?_
    obtain ⟨M3, k3, h⟩ := h
    refine mz_Go.callV (As := []) (rest := []) (rfl : mz_find 16 (mz_rows mq_X10_back) = some (16, .invokevirtual 139, 3, 173, 0, 177)) (rfl : mz_nth mq_tab 173 = some mq_X10_does) rfl rfl rfl rfl (Nat.le_of_ble_eq_true rfl) (Nat.le_of_ble_eq_true rfl) k3 ?_
    show mq_G mq_X10_back (19, [some (.ref 77), none], [], M3) res
    refine mz_Go.steps (n := 2) (k2 := (21, [some (.ref 77), some (.int 0)], [], M3)) (P := []) rfl mz_o0 ?_
    exact h
  · replace h := h.2 c9
    refine mz_Go.steps (n := 1) (k2 := (14, [some (.ref 77), none], [.int (-2)], M1)) (P := []) rfl mz_o0 ?_
    rw [h]
    exact mz_Go.iret (rfl : mz_find 14 (mz_rows mq_X10_back) = some (14, .ireturn, 1, 0, 0, 0)) rfl
set_option maxRecDepth 100000 in
set_option maxHeartbeats 4000000 in
theorem t_X10_back_21 (x1 : Int32) (M : mz_M) {res : mz_O} (h :
    ((33 ≤ x1 →
      (∃ (M2 : mz_M), (mq_C mq_X10_lays [.ref 77] M (none, M2)) ∧
      res = (some (.int (M2.1 77 11)), M2))) ∧
    (¬ (33 ≤ x1) →
      (vp_in x1 33) ∧
      (vp_in x1 33) ∧
      (∀ M3 : mz_M, M3 = mz_wr M 78 (upd (M.1 78) x1.toNatClampNeg (M.1 80 x1.toNatClampNeg)) →
      mq_G mq_X10_back (21, [some (.ref 77), some (.int (x1 + 1))], [], M3) res)))) :
    mq_G mq_X10_back (21, [some (.ref 77), some (.int x1)], [], M) res := by
  refine mz_Go.steps (n := 3) (k2 := (if 33 ≤ x1 then 45 else 27, [some (.ref 77), some (.int x1)], [], M)) (P := []) rfl mz_o0 ?_
  refine mz_Go.ite (fun c24 => ?_) (fun c24 => ?_)
  · replace h := h.1 c24
    refine mz_Go.steps (n := 1) (k2 := (46, [some (.ref 77), some (.int x1)], [.ref 77], M)) (P := []) rfl mz_o0 ?_
    obtain ⟨M2, k2, h⟩ := h
    refine mz_Go.callV (As := []) (rest := []) (rfl : mz_find 46 (mz_rows mq_X10_back) = some (46, .invokevirtual 86, 3, 145, 0, 154)) (rfl : mz_nth mq_tab 145 = some mq_X10_lays) rfl rfl rfl rfl (Nat.le_of_ble_eq_true rfl) (Nat.le_of_ble_eq_true rfl) k2 ?_
    show mq_G mq_X10_back (49, [some (.ref 77), some (.int x1)], [], M2) res
    refine mz_Go.steps (n := 2) (k2 := (53, [some (.ref 77), some (.int x1)], [.int (M2.1 77 11)], M2)) (P := []) rfl mz_o0 ?_
    rw [h]
    exact mz_Go.iret (rfl : mz_find 53 (mz_rows mq_X10_back) = some (53, .ireturn, 1, 0, 0, 0)) rfl
  · replace h := h.2 c24
    obtain ⟨q4, q5, h⟩ := h
    obtain ⟨M3, e3⟩ : ∃ y, y = mz_wr M 78 (upd (M.1 78) x1.toNatClampNeg (M.1 80 x1.toNatClampNeg)) := ⟨_, rfl⟩
    replace h := h M3 e3
    refine mz_Go.steps (n := 8) (k2 := (39, [some (.ref 77), some (.int x1)], [], (mz_wr M 78 (upd (M.1 78) x1.toNatClampNeg (M.1 80 x1.toNatClampNeg))))) (P := [vp_in x1 33, vp_in x1 33]) rfl (mz_o2 q4 q5) ?_
    rw [← e3]
    refine mz_Go.steps (n := 2) (k2 := (21, [some (.ref 77), some (.int (x1 + 1))], [], M3)) (P := []) rfl mz_o0 ?_
    exact h
set_option maxRecDepth 100000 in
set_option maxHeartbeats 4000000 in
theorem t_X10_writes_0 (x1 : Int32) (M : mz_M) {res : mz_O} (h :
    (vp_in (M.1 77 23) 64) ∧
    (∀ M1 : mz_M, M1 = mz_wr M 90 (upd (M.1 90) (M.1 77 23).toNatClampNeg (vp_nar .byte (x1.toInt8.toInt32))) →
    (∀ M3 : mz_M, M3 = mz_wr M1 77 (upd (M1.1 77) 23 ((M1.1 77 23) + 1)) →
    res = (none, M3)))) :
    mq_G mq_X10_writes (0, [some (.ref 77), some (.int x1)], [], M) res := by
  obtain ⟨q2, h⟩ := h
  obtain ⟨M1, e1⟩ : ∃ y, y = mz_wr M 90 (upd (M.1 90) (M.1 77 23).toNatClampNeg (vp_nar .byte (x1.toInt8.toInt32))) := ⟨_, rfl⟩
  replace h := h M1 e1
  refine mz_Go.steps (n := 7) (k2 := (11, [some (.ref 77), some (.int x1)], [], (mz_wr M 90 (upd (M.1 90) (M.1 77 23).toNatClampNeg (vp_nar .byte (x1.toInt8.toInt32)))))) (P := [vp_in (M.1 77 23) 64]) rfl (mz_o1 q2) ?_
  rw [← e1]
  obtain ⟨M3, e3⟩ : ∃ y, y = mz_wr M1 77 (upd (M1.1 77) 23 ((M1.1 77 23) + 1)) := ⟨_, rfl⟩
  replace h := h M3 e3
  refine mz_Go.steps (n := 6) (k2 := (21, [some (.ref 77), some (.int x1)], [], (mz_wr M1 77 (upd (M1.1 77) 23 ((M1.1 77 23) + 1))))) (P := []) rfl mz_o0 ?_
  rw [← e3]
  rw [h]
  exact mz_Go.vret (rfl : mz_find 21 (mz_rows mq_X10_writes) = some (21, .return_, 1, 0, 0, 0)) rfl
set_option maxRecDepth 100000 in
set_option maxHeartbeats 4000000 in
theorem t_X10_written_0 (x1 : Int32) (M : mz_M) {res : mz_O} (h :
    (∀ M1 : mz_M, M1 = mz_wr M 77 (upd (M.1 77) 10 0) →
    (∀ M2 : mz_M, M2 = mz_wr M1 77 (upd (M1.1 77) 23 0) →
    mq_G mq_X10_written (15, [some (.ref 77), some (.int x1), some (.int (M2.1 77 11))], [], M2) res))) :
    mq_G mq_X10_written (0, [some (.ref 77), some (.int x1), none], [], M) res := by
  obtain ⟨M1, e1⟩ : ∃ y, y = mz_wr M 77 (upd (M.1 77) 10 0) := ⟨_, rfl⟩
  replace h := h M1 e1
  refine mz_Go.steps (n := 3) (k2 := (5, [some (.ref 77), some (.int x1), none], [], (mz_wr M 77 (upd (M.1 77) 10 0)))) (P := []) rfl mz_o0 ?_
  rw [← e1]
  obtain ⟨M2, e2⟩ : ∃ y, y = mz_wr M1 77 (upd (M1.1 77) 23 0) := ⟨_, rfl⟩
  replace h := h M2 e2
  refine mz_Go.steps (n := 3) (k2 := (10, [some (.ref 77), some (.int x1), none], [], (mz_wr M1 77 (upd (M1.1 77) 23 0)))) (P := []) rfl mz_o0 ?_
  rw [← e2]
  refine mz_Go.steps (n := 3) (k2 := (15, [some (.ref 77), some (.int x1), some (.int (M2.1 77 11))], [], M2)) (P := []) rfl mz_o0 ?_
  exact h
set_option maxRecDepth 100000 in
set_option maxHeartbeats 4000000 in
theorem t_X10_written_15 (x1 : Int32) (x2 : Int32) (M : mz_M) {res : mz_O} (h :
    ((x2 < 0 →
      ((¬ x1 = (-1) →
        (∃ (r3 : Int32), (mq_C mq_X10_in [.long (x1.toInt64), .long ((0 : Int32).toInt64), .long (((M.1 77 23) - 1).toInt64)] M (some (.int r3), M)) ∧
        ((r3 = 0 →
          mq_G mq_X10_written (120, [some (.ref 77), some (.int x1), some (.int x2)], [.int (-1)], M) res) ∧
        (¬ (r3 = 0) →
          (vp_in x1 64) ∧
          mq_G mq_X10_written (120, [some (.ref 77), some (.int x1), some (.int x2)], [.int (M.1 90 x1.toNatClampNeg)], M) res)))) ∧
      (¬ (¬ x1 = (-1)) →
        mq_G mq_X10_written (120, [some (.ref 77), some (.int x1), some (.int x2)], [.int (M.1 77 23)], M) res))) ∧
    (¬ (x2 < 0) →
      (vp_in 0 33) ∧
      ((¬ (((M.1 78 (0 : Int32).toNatClampNeg) >>> (x2 &&& 31)) &&& 1) = 0 →
        (((M.1 77 23) ≤ 0 →
          mq_G mq_X10_written (48, [some (.ref 77), some (.int x1), some (.int x2)], [], M) res) ∧
        (¬ ((M.1 77 23) ≤ 0) →
          (∃ (M9 : mz_M), (mq_C mq_X10_writes [.ref 77, .int 43] M (none, M9)) ∧
          mq_G mq_X10_written (48, [some (.ref 77), some (.int x1), some (.int x2)], [], M9) res)))) ∧
      (¬ (¬ (((M.1 78 (0 : Int32).toNatClampNeg) >>> (x2 &&& 31)) &&& 1) = 0) →
        mq_G mq_X10_written (76, [some (.ref 77), some (.int x1), some (.int x2)], [], M) res))))) :
    mq_G mq_X10_written (15, [some (.ref 77), some (.int x1), some (.int x2)], [], M) res := by
  refine mz_Go.steps (n := 2) (k2 := (if x2 < 0 then 82 else 19, [some (.ref 77), some (.int x1), some (.int x2)], [], M)) (P := []) rfl mz_o0 ?_
  refine mz_Go.ite (fun c16 => ?_) (fun c16 => ?_)
  · replace h := h.1 c16
    refine mz_Go.steps (n := 3) (k2 := (if ¬ x1 = (-1) then 94 else 87, [some (.ref 77), some (.int x1), some (.int x2)], [], M)) (P := []) rfl mz_o0 ?_
    refine mz_Go.ite (fun c84 => ?_) (fun c84 => ?_)
    · replace h := h.1 c84
      refine mz_Go.steps (n := 8) (k2 := (104, [some (.ref 77), some (.int x1), some (.int x2)], [.long (((M.1 77 23) - 1).toInt64), .long ((0 : Int32).toInt64), .long (x1.toInt64)], M)) (P := []) rfl mz_o0 ?_
      obtain ⟨r3, k3, h⟩ := h
      refine mz_Go.callS (As := [.long (x1.toInt64), .long ((0 : Int32).toInt64), .long (((M.1 77 23) - 1).toInt64)]) (rest := []) (rfl : mz_find 104 (mz_rows mq_X10_written) = some (104, .invokestatic 65, 3, 133, 0, 147)) (rfl : mz_nth mq_tab 133 = some mq_X10_in) (by decide) rfl rfl rfl (Nat.le_of_ble_eq_true rfl) (Nat.le_of_ble_eq_true rfl) k3 ?_
      show mq_G mq_X10_written (107, [some (.ref 77), some (.int x1), some (.int x2)], [.int r3], M) res
      refine mz_Go.steps (n := 1) (k2 := (if r3 = 0 then 119 else 110, [some (.ref 77), some (.int x1), some (.int x2)], [], M)) (P := []) rfl mz_o0 ?_
      refine mz_Go.ite (fun c107 => ?_) (fun c107 => ?_)
      · replace h := h.1 c107
        refine mz_Go.steps (n := 1) (k2 := (120, [some (.ref 77), some (.int x1), some (.int x2)], [.int (-1)], M)) (P := []) rfl mz_o0 ?_
        exact h
      · replace h := h.2 c107
        obtain ⟨q5, h⟩ := h
        refine mz_Go.steps (n := 5) (k2 := (120, [some (.ref 77), some (.int x1), some (.int x2)], [.int (M.1 90 x1.toNatClampNeg)], M)) (P := [vp_in x1 64]) rfl (mz_o1 q5) ?_
        exact h
    · replace h := h.2 c84
      refine mz_Go.steps (n := 3) (k2 := (120, [some (.ref 77), some (.int x1), some (.int x2)], [.int (M.1 77 23)], M)) (P := []) rfl mz_o0 ?_
      exact h
  · replace h := h.2 c16
    obtain ⟨q7, h⟩ := h
    refine mz_Go.steps (n := 9) (k2 := (if ¬ (((M.1 78 (0 : Int32).toNatClampNeg) >>> (x2 &&& 31)) &&& 1) = 0 then 35 else 32, [some (.ref 77), some (.int x1), some (.int x2)], [], M)) (P := [vp_in 0 33]) rfl (mz_o1 q7) ?_
    refine mz_Go.ite (fun c29 => ?_) (fun c29 => ?_)
    · replace h := h.1 c29
      refine mz_Go.steps (n := 3) (k2 := (if (M.1 77 23) ≤ 0 then 48 else 42, [some (.ref 77), some (.int x1), some (.int x2)], [], M)) (P := []) rfl mz_o0 ?_
      refine mz_Go.ite (fun c39 => ?_) (fun c39 => ?_)
      · replace h := h.1 c39
        exact h
      · replace h := h.2 c39
        refine mz_Go.steps (n := 2) (k2 := (45, [some (.ref 77), some (.int x1), some (.int x2)], [.int 43, .ref 77], M)) (P := []) rfl mz_o0 ?_
        obtain ⟨M9, k9, h⟩ := h
        refine mz_Go.callV (As := [.int 43]) (rest := []) (rfl : mz_find 45 (mz_rows mq_X10_written) = some (45, .invokevirtual 292, 3, 248, 0, 234)) (rfl : mz_nth mq_tab 248 = some mq_X10_writes) rfl rfl rfl rfl (Nat.le_of_ble_eq_true rfl) (Nat.le_of_ble_eq_true rfl) k9 ?_
        show mq_G mq_X10_written (48, [some (.ref 77), some (.int x1), some (.int x2)], [], M9) res
        exact h
    · replace h := h.2 c29
      refine mz_Go.steps (n := 1) (k2 := (76, [some (.ref 77), some (.int x1), some (.int x2)], [], M)) (P := []) rfl mz_o0 ?_
      exact h
set_option maxRecDepth 100000 in
set_option maxHeartbeats 4000000 in
theorem t_X10_written_48 (x1 : Int32) (x2 : Int32) (M : mz_M) {res : mz_O} (h :
    ((x2 ≤ 0 →
      mq_G mq_X10_written (60, [some (.ref 77), some (.int x1), some (.int x2)], [.int 49, .ref 77], M) res) ∧
    (¬ (x2 ≤ 0) →
      mq_G mq_X10_written (60, [some (.ref 77), some (.int x1), some (.int x2)], [.int 120, .ref 77], M) res))) :
    mq_G mq_X10_written (48, [some (.ref 77), some (.int x1), some (.int x2)], [], M) res := by
  refine mz_Go.steps (n := 3) (k2 := (if x2 ≤ 0 then 58 else 53, [some (.ref 77), some (.int x1), some (.int x2)], [.ref 77], M)) (P := []) rfl mz_o0 ?_
  refine mz_Go.ite (fun c50 => ?_) (fun c50 => ?_)
  · replace h := h.1 c50
    refine mz_Go.steps (n := 1) (k2 := (60, [some (.ref 77), some (.int x1), some (.int x2)], [.int 49, .ref 77], M)) (P := []) rfl mz_o0 ?_
    exact h
  · replace h := h.2 c50
    refine mz_Go.steps (n := 2) (k2 := (60, [some (.ref 77), some (.int x1), some (.int x2)], [.int 120, .ref 77], M)) (P := []) rfl mz_o0 ?_
    exact h
set_option maxRecDepth 100000 in
set_option maxHeartbeats 4000000 in
theorem t_X10_written_60 (x1 : Int32) (x2 : Int32) (s1 : Int32) (M : mz_M) {res : mz_O} (h :
    (∃ (M1 : mz_M), (mq_C mq_X10_writes [.ref 77, .int s1] M (none, M1)) ∧
    ((x2 ≤ 1 →
      mq_G mq_X10_written (76, [some (.ref 77), some (.int x1), some (.int x2)], [], M1) res) ∧
    (¬ (x2 ≤ 1) →
      (∃ (M3 : mz_M), (mq_C mq_X10_writes [.ref 77, .int (48 + x2)] M1 (none, M3)) ∧
      mq_G mq_X10_written (76, [some (.ref 77), some (.int x1), some (.int x2)], [], M3) res))))) :
    mq_G mq_X10_written (60, [some (.ref 77), some (.int x1), some (.int x2)], [.int s1, .ref 77], M) res := by
  obtain ⟨M1, k1, h⟩ := h
  refine mz_Go.callV (As := [.int s1]) (rest := []) (rfl : mz_find 60 (mz_rows mq_X10_written) = some (60, .invokevirtual 292, 3, 248, 0, 234)) (rfl : mz_nth mq_tab 248 = some mq_X10_writes) rfl rfl rfl rfl (Nat.le_of_ble_eq_true rfl) (Nat.le_of_ble_eq_true rfl) k1 ?_
  show mq_G mq_X10_written (63, [some (.ref 77), some (.int x1), some (.int x2)], [], M1) res
  refine mz_Go.steps (n := 3) (k2 := (if x2 ≤ 1 then 76 else 68, [some (.ref 77), some (.int x1), some (.int x2)], [], M1)) (P := []) rfl mz_o0 ?_
  refine mz_Go.ite (fun c65 => ?_) (fun c65 => ?_)
  · replace h := h.1 c65
    exact h
  · replace h := h.2 c65
    refine mz_Go.steps (n := 4) (k2 := (73, [some (.ref 77), some (.int x1), some (.int x2)], [.int (48 + x2), .ref 77], M1)) (P := []) rfl mz_o0 ?_
    obtain ⟨M3, k3, h⟩ := h
    refine mz_Go.callV (As := [.int (48 + x2)]) (rest := []) (rfl : mz_find 73 (mz_rows mq_X10_written) = some (73, .invokevirtual 292, 3, 248, 0, 234)) (rfl : mz_nth mq_tab 248 = some mq_X10_writes) rfl rfl rfl rfl (Nat.le_of_ble_eq_true rfl) (Nat.le_of_ble_eq_true rfl) k3 ?_
    show mq_G mq_X10_written (76, [some (.ref 77), some (.int x1), some (.int x2)], [], M3) res
    exact h
set_option maxRecDepth 100000 in
set_option maxHeartbeats 4000000 in
theorem t_X10_written_76 (x1 : Int32) (x2 : Int32) (M : mz_M) {res : mz_O} (h :
    mq_G mq_X10_written (15, [some (.ref 77), some (.int x1), some (.int (x2 + (-1)))], [], M) res) :
    mq_G mq_X10_written (76, [some (.ref 77), some (.int x1), some (.int x2)], [], M) res := by
  refine mz_Go.steps (n := 2) (k2 := (15, [some (.ref 77), some (.int x1), some (.int (x2 + (-1)))], [], M)) (P := []) rfl mz_o0 ?_
  exact h
set_option maxRecDepth 100000 in
set_option maxHeartbeats 4000000 in
theorem t_X10_written_120 (o0 : Option Value) (o1 : Option Value) (o2 : Option Value) (s0 : Int32) (M : mz_M) {res : mz_O} (h :
    res = (some (.int s0), M)) :
    mq_G mq_X10_written (120, [o0, o1, o2], [.int s0], M) res := by
  rw [h]
  exact mz_Go.iret (rfl : mz_find 120 (mz_rows mq_X10_written) = some (120, .ireturn, 1, 0, 0, 0)) rfl
set_option maxRecDepth 100000 in
set_option maxHeartbeats 4000000 in
theorem t_X10_count_0 (x1 : Int32) (M : mz_M) {res : mz_O} (h :
    (∀ M1 : mz_M, M1 = mz_wr M 77 (upd (M.1 77) 10 0) →
    mq_G mq_X10_count (12, [some (.ref 77), some (.int x1), some (.int 0), some (.int 0), some (.int 0), none, none], [], M1) res)) :
    mq_G mq_X10_count (0, [some (.ref 77), some (.int x1), none, none, none, none, none], [], M) res := by
  obtain ⟨M1, e1⟩ : ∃ y, y = mz_wr M 77 (upd (M.1 77) 10 0) := ⟨_, rfl⟩
  replace h := h M1 e1
  refine mz_Go.steps (n := 3) (k2 := (5, [some (.ref 77), some (.int x1), none, none, none, none, none], [], (mz_wr M 77 (upd (M.1 77) 10 0)))) (P := []) rfl mz_o0 ?_
  rw [← e1]
  refine mz_Go.steps (n := 6) (k2 := (12, [some (.ref 77), some (.int x1), some (.int 0), some (.int 0), some (.int 0), none, none], [], M1)) (P := []) rfl mz_o0 ?_
  exact h
set_option maxRecDepth 100000 in
set_option maxHeartbeats 4000000 in
theorem t_X10_count_12 (x1 : Int32) (x2 : Int32) (x3 : Int32) (x4 : Int32) (o5 : Option Value) (o6 : Option Value) (M : mz_M) {res : mz_O} (h :
    ((4 ≤ x4 →
      ((x1.toInt < 0 ∨ 6 < x1.toInt →
        res = (some (.int (-1)), M)) ∧
      (x1.toInt = 0 →
        res = (some (.int (M.1 77 11)), M)) ∧
      (x1.toInt = 1 →
        (vp_in 0 33) ∧
        res = (some (.int (M.1 78 (0 : Int32).toNatClampNeg)), M)) ∧
      (x1.toInt = 2 →
        res = (some (.int (M.1 77 5)), M)) ∧
      (x1.toInt = 3 →
        res = (some (.int (M.1 77 9)), M)) ∧
      (x1.toInt = 4 →
        res = (some (.int (M.1 77 7)), M)) ∧
      (x1.toInt = 5 →
        res = (some (.int x2), M)) ∧
      (x1.toInt = 6 →
        res = (some (.int x3), M)))) ∧
    (¬ (4 ≤ x4) →
      mq_G mq_X10_count (24, [some (.ref 77), some (.int x1), some (.int x2), some (.int x3), some (.int x4), some (.int 1), some (.int 0)], [], M) res))) :
    mq_G mq_X10_count (12, [some (.ref 77), some (.int x1), some (.int x2), some (.int x3), some (.int x4), o5, o6], [], M) res := by
  refine mz_Go.steps (n := 3) (k2 := (if 4 ≤ x4 then 120 else 18, [some (.ref 77), some (.int x1), some (.int x2), some (.int x3), some (.int x4), o5, o6], [], M)) (P := []) rfl mz_o0 ?_
  refine mz_Go.ite (fun c15 => ?_) (fun c15 => ?_)
  · replace h := h.1 c15
    refine mz_Go.steps (n := 2) (k2 := (if x1.toInt < 0 ∨ 6 < x1.toInt then 195 else ((121 : Int) + (#[43, 48, 55, 60, 65, 70, 72] : Array Int).getD (x1.toInt - 0).toNat 0).toNat, [some (.ref 77), some (.int x1), some (.int x2), some (.int x3), some (.int x4), o5, o6], [], M)) (P := []) rfl mz_o0 ?_
    refine mz_Go.tsw (fun cd => ?_) (fun kk hk hx => ?_)
    · replace h := h.1 cd
      refine mz_Go.steps (n := 1) (k2 := (196, [some (.ref 77), some (.int x1), some (.int x2), some (.int x3), some (.int x4), o5, o6], [.int (-1)], M)) (P := []) rfl mz_o0 ?_
      rw [h]
      exact mz_Go.iret (rfl : mz_find 196 (mz_rows mq_X10_count) = some (196, .ireturn, 1, 0, 0, 0)) rfl
    · replace h := h.2
      match kk, hk, hx with
      | 0, hk, hx =>
        replace h := h.1 (by rw [hx]; rfl)
        show mq_G mq_X10_count (164, [some (.ref 77), some (.int x1), some (.int x2), some (.int x3), some (.int x4), o5, o6], [], M) res
        refine mz_Go.steps (n := 2) (k2 := (168, [some (.ref 77), some (.int x1), some (.int x2), some (.int x3), some (.int x4), o5, o6], [.int (M.1 77 11)], M)) (P := []) rfl mz_o0 ?_
        rw [h]
        exact mz_Go.iret (rfl : mz_find 168 (mz_rows mq_X10_count) = some (168, .ireturn, 1, 0, 0, 0)) rfl
      | 1, hk, hx =>
        replace h := h.2.1 (by rw [hx]; rfl)
        show mq_G mq_X10_count (169, [some (.ref 77), some (.int x1), some (.int x2), some (.int x3), some (.int x4), o5, o6], [], M) res
        obtain ⟨q2, h⟩ := h
        refine mz_Go.steps (n := 4) (k2 := (175, [some (.ref 77), some (.int x1), some (.int x2), some (.int x3), some (.int x4), o5, o6], [.int (M.1 78 (0 : Int32).toNatClampNeg)], M)) (P := [vp_in 0 33]) rfl (mz_o1 q2) ?_
        rw [h]
        exact mz_Go.iret (rfl : mz_find 175 (mz_rows mq_X10_count) = some (175, .ireturn, 1, 0, 0, 0)) rfl
      | 2, hk, hx =>
        replace h := h.2.2.1 (by rw [hx]; rfl)
        show mq_G mq_X10_count (176, [some (.ref 77), some (.int x1), some (.int x2), some (.int x3), some (.int x4), o5, o6], [], M) res
        refine mz_Go.steps (n := 2) (k2 := (180, [some (.ref 77), some (.int x1), some (.int x2), some (.int x3), some (.int x4), o5, o6], [.int (M.1 77 5)], M)) (P := []) rfl mz_o0 ?_
        rw [h]
        exact mz_Go.iret (rfl : mz_find 180 (mz_rows mq_X10_count) = some (180, .ireturn, 1, 0, 0, 0)) rfl
      | 3, hk, hx =>
        replace h := h.2.2.2.1 (by rw [hx]; rfl)
        show mq_G mq_X10_count (181, [some (.ref 77), some (.int x1), some (.int x2), some (.int x3), some (.int x4), o5, o6], [], M) res
        refine mz_Go.steps (n := 2) (k2 := (185, [some (.ref 77), some (.int x1), some (.int x2), some (.int x3), some (.int x4), o5, o6], [.int (M.1 77 9)], M)) (P := []) rfl mz_o0 ?_
        rw [h]
        exact mz_Go.iret (rfl : mz_find 185 (mz_rows mq_X10_count) = some (185, .ireturn, 1, 0, 0, 0)) rfl
      | 4, hk, hx =>
        replace h := h.2.2.2.2.1 (by rw [hx]; rfl)
        show mq_G mq_X10_count (186, [some (.ref 77), some (.int x1), some (.int x2), some (.int x3), some (.int x4), o5, o6], [], M) res
        refine mz_Go.steps (n := 2) (k2 := (190, [some (.ref 77), some (.int x1), some (.int x2), some (.int x3), some (.int x4), o5, o6], [.int (M.1 77 7)], M)) (P := []) rfl mz_o0 ?_
        rw [h]
        exact mz_Go.iret (rfl : mz_find 190 (mz_rows mq_X10_count) = some (190, .ireturn, 1, 0, 0, 0)) rfl
      | 5, hk, hx =>
        replace h := h.2.2.2.2.2.1 (by rw [hx]; rfl)
        show mq_G mq_X10_count (191, [some (.ref 77), some (.int x1), some (.int x2), some (.int x3), some (.int x4), o5, o6], [], M) res
        refine mz_Go.steps (n := 1) (k2 := (192, [some (.ref 77), some (.int x1), some (.int x2), some (.int x3), some (.int x4), o5, o6], [.int x2], M)) (P := []) rfl mz_o0 ?_
        rw [h]
        exact mz_Go.iret (rfl : mz_find 192 (mz_rows mq_X10_count) = some (192, .ireturn, 1, 0, 0, 0)) rfl
      | 6, hk, hx =>
        replace h := h.2.2.2.2.2.2 (by rw [hx]; rfl)
        show mq_G mq_X10_count (193, [some (.ref 77), some (.int x1), some (.int x2), some (.int x3), some (.int x4), o5, o6], [], M) res
        refine mz_Go.steps (n := 1) (k2 := (194, [some (.ref 77), some (.int x1), some (.int x2), some (.int x3), some (.int x4), o5, o6], [.int x3], M)) (P := []) rfl mz_o0 ?_
        rw [h]
        exact mz_Go.iret (rfl : mz_find 194 (mz_rows mq_X10_count) = some (194, .ireturn, 1, 0, 0, 0)) rfl
      | kk + 7, hk, hx => exact absurd hk (by omega)
  · replace h := h.2 c15
    refine mz_Go.steps (n := 4) (k2 := (24, [some (.ref 77), some (.int x1), some (.int x2), some (.int x3), some (.int x4), some (.int 1), some (.int 0)], [], M)) (P := []) rfl mz_o0 ?_
    exact h
set_option maxRecDepth 100000 in
set_option maxHeartbeats 4000000 in
theorem t_X10_count_24 (x1 : Int32) (x2 : Int32) (x3 : Int32) (x4 : Int32) (x5 : Int32) (x6 : Int32) (M : mz_M) {res : mz_O} (h :
    (((M.1 77 11) ≤ x6 →
      (∃ (r2 : Int32) (M2 : mz_M), (mq_C mq_X10_isNormalBase [.ref 77] M (some (.int r2), M2)) ∧
      ((r2 = 0 →
        ((x5 = 0 →
          mq_G mq_X10_count (12, [some (.ref 77), some (.int x1), some (.int (x2 ||| 0)), some (.int (x3 ||| 0)), some (.int (x4 + 1)), some (.int x5), some (.int x6)], [], M2) res) ∧
        (¬ (x5 = 0) →
          mq_G mq_X10_count (12, [some (.ref 77), some (.int x1), some (.int (x2 ||| 0)), some (.int (x3 ||| ((1 : Int32) <<< (x4 &&& 31)))), some (.int (x4 + 1)), some (.int x5), some (.int x6)], [], M2) res))) ∧
      (¬ (r2 = 0) →
        ((x5 = 0 →
          mq_G mq_X10_count (12, [some (.ref 77), some (.int x1), some (.int (x2 ||| ((1 : Int32) <<< (x4 &&& 31)))), some (.int (x3 ||| 0)), some (.int (x4 + 1)), some (.int x5), some (.int x6)], [], M2) res) ∧
        (¬ (x5 = 0) →
          mq_G mq_X10_count (12, [some (.ref 77), some (.int x1), some (.int (x2 ||| ((1 : Int32) <<< (x4 &&& 31)))), some (.int (x3 ||| ((1 : Int32) <<< (x4 &&& 31)))), some (.int (x4 + 1)), some (.int x5), some (.int x6)], [], M2) res)))))) ∧
    (¬ ((M.1 77 11) ≤ x6) →
      (∃ (r6 : Int32), (mq_C mq_X10_baseAt [.ref 77, .int x4, .int x6] M (some (.int r6), M)) ∧
      (vp_in x6 8) ∧
      (∀ M7 : mz_M, M7 = mz_wr M 87 (upd (M.1 87) x6.toNatClampNeg r6) →
      ((x5 = 0 →
        mq_G mq_X10_count (24, [some (.ref 77), some (.int x1), some (.int x2), some (.int x3), some (.int x4), some (.int 0), some (.int (x6 + 1))], [], M7) res) ∧
      (¬ (x5 = 0) →
        (vp_in x6 8) ∧
        ((¬ (M7.1 87 x6.toNatClampNeg) = ((1 : Int32) <<< (x6 &&& 31)) →
          mq_G mq_X10_count (24, [some (.ref 77), some (.int x1), some (.int x2), some (.int x3), some (.int x4), some (.int 0), some (.int (x6 + 1))], [], M7) res) ∧
        (¬ (¬ (M7.1 87 x6.toNatClampNeg) = ((1 : Int32) <<< (x6 &&& 31))) →
          mq_G mq_X10_count (24, [some (.ref 77), some (.int x1), some (.int x2), some (.int x3), some (.int x4), some (.int 1), some (.int (x6 + 1))], [], M7) res))))))))) :
    mq_G mq_X10_count (24, [some (.ref 77), some (.int x1), some (.int x2), some (.int x3), some (.int x4), some (.int x5), some (.int x6)], [], M) res := by
  refine mz_Go.steps (n := 4) (k2 := (if (M.1 77 11) ≤ x6 then 80 else 33, [some (.ref 77), some (.int x1), some (.int x2), some (.int x3), some (.int x4), some (.int x5), some (.int x6)], [], M)) (P := []) rfl mz_o0 ?_
  refine mz_Go.ite (fun c30 => ?_) (fun c30 => ?_)
  · replace h := h.1 c30
    refine mz_Go.steps (n := 2) (k2 := (82, [some (.ref 77), some (.int x1), some (.int x2), some (.int x3), some (.int x4), some (.int x5), some (.int x6)], [.ref 77, .int x2], M)) (P := []) rfl mz_o0 ?_
    obtain ⟨r2, M2, k2, h⟩ := h
    refine mz_Go.callV (As := []) (rest := [.int x2]) (rfl : mz_find 82 (mz_rows mq_X10_count) = some (82, .invokevirtual 262, 3, 171, 0, 221)) (rfl : mz_nth mq_tab 171 = some mq_X10_isNormalBase) rfl rfl rfl rfl (Nat.le_of_ble_eq_true rfl) (Nat.le_of_ble_eq_true rfl) k2 ?_
    show mq_G mq_X10_count (85, [some (.ref 77), some (.int x1), some (.int x2), some (.int x3), some (.int x4), some (.int x5), some (.int x6)], [.int r2, .int x2], M2) res
    refine mz_Go.steps (n := 1) (k2 := (if r2 = 0 then 95 else 88, [some (.ref 77), some (.int x1), some (.int x2), some (.int x3), some (.int x4), some (.int x5), some (.int x6)], [.int x2], M2)) (P := []) rfl mz_o0 ?_
    refine mz_Go.ite (fun c85 => ?_) (fun c85 => ?_)
    · replace h := h.1 c85
      refine mz_Go.steps (n := 6) (k2 := (if x5 = 0 then 111 else 104, [some (.ref 77), some (.int x1), some (.int (x2 ||| 0)), some (.int x3), some (.int x4), some (.int x5), some (.int x6)], [.int x3], M2)) (P := []) rfl mz_o0 ?_
      refine mz_Go.ite (fun c101 => ?_) (fun c101 => ?_)
      · replace h := h.1 c101
        refine mz_Go.steps (n := 5) (k2 := (12, [some (.ref 77), some (.int x1), some (.int (x2 ||| 0)), some (.int (x3 ||| 0)), some (.int (x4 + 1)), some (.int x5), some (.int x6)], [], M2)) (P := []) rfl mz_o0 ?_
        exact h
      · replace h := h.2 c101
        refine mz_Go.steps (n := 8) (k2 := (12, [some (.ref 77), some (.int x1), some (.int (x2 ||| 0)), some (.int (x3 ||| ((1 : Int32) <<< (x4 &&& 31)))), some (.int (x4 + 1)), some (.int x5), some (.int x6)], [], M2)) (P := []) rfl mz_o0 ?_
        exact h
    · replace h := h.2 c85
      refine mz_Go.steps (n := 9) (k2 := (if x5 = 0 then 111 else 104, [some (.ref 77), some (.int x1), some (.int (x2 ||| ((1 : Int32) <<< (x4 &&& 31)))), some (.int x3), some (.int x4), some (.int x5), some (.int x6)], [.int x3], M2)) (P := []) rfl mz_o0 ?_
      refine mz_Go.ite (fun c101 => ?_) (fun c101 => ?_)
      · replace h := h.1 c101
        refine mz_Go.steps (n := 5) (k2 := (12, [some (.ref 77), some (.int x1), some (.int (x2 ||| ((1 : Int32) <<< (x4 &&& 31)))), some (.int (x3 ||| 0)), some (.int (x4 + 1)), some (.int x5), some (.int x6)], [], M2)) (P := []) rfl mz_o0 ?_
        exact h
      · replace h := h.2 c101
        refine mz_Go.steps (n := 8) (k2 := (12, [some (.ref 77), some (.int x1), some (.int (x2 ||| ((1 : Int32) <<< (x4 &&& 31)))), some (.int (x3 ||| ((1 : Int32) <<< (x4 &&& 31)))), some (.int (x4 + 1)), some (.int x5), some (.int x6)], [], M2)) (P := []) rfl mz_o0 ?_
        exact h
  · replace h := h.2 c30
    refine mz_Go.steps (n := 6) (k2 := (44, [some (.ref 77), some (.int x1), some (.int x2), some (.int x3), some (.int x4), some (.int x5), some (.int x6)], [.int x6, .int x4, .ref 77, .int x6, .ref 87], M)) (P := []) rfl mz_o0 ?_
    obtain ⟨r6, k6, h⟩ := h
    refine mz_Go.callV (As := [.int x4, .int x6]) (rest := [.int x6, .ref 87]) (rfl : mz_find 44 (mz_rows mq_X10_count) = some (44, .invokevirtual 123, 3, 167, 0, 171)) (rfl : mz_nth mq_tab 167 = some mq_X10_baseAt) rfl rfl rfl rfl (Nat.le_of_ble_eq_true rfl) (Nat.le_of_ble_eq_true rfl) k6 ?_
    show mq_G mq_X10_count (47, [some (.ref 77), some (.int x1), some (.int x2), some (.int x3), some (.int x4), some (.int x5), some (.int x6)], [.int r6, .int x6, .ref 87], M) res
    obtain ⟨q8, h⟩ := h
    obtain ⟨M7, e7⟩ : ∃ y, y = mz_wr M 87 (upd (M.1 87) x6.toNatClampNeg r6) := ⟨_, rfl⟩
    replace h := h M7 e7
    refine mz_Go.steps (n := 1) (k2 := (48, [some (.ref 77), some (.int x1), some (.int x2), some (.int x3), some (.int x4), some (.int x5), some (.int x6)], [], (mz_wr M 87 (upd (M.1 87) x6.toNatClampNeg r6)))) (P := [vp_in x6 8]) rfl (mz_o1 q8) ?_
    rw [← e7]
    refine mz_Go.steps (n := 2) (k2 := (if x5 = 0 then 71 else 53, [some (.ref 77), some (.int x1), some (.int x2), some (.int x3), some (.int x4), some (.int x5), some (.int x6)], [], M7)) (P := []) rfl mz_o0 ?_
    refine mz_Go.ite (fun c50 => ?_) (fun c50 => ?_)
    · replace h := h.1 c50
      refine mz_Go.steps (n := 4) (k2 := (24, [some (.ref 77), some (.int x1), some (.int x2), some (.int x3), some (.int x4), some (.int 0), some (.int (x6 + 1))], [], M7)) (P := []) rfl mz_o0 ?_
      exact h
    · replace h := h.2 c50
      obtain ⟨q11, h⟩ := h
      refine mz_Go.steps (n := 8) (k2 := (if ¬ (M7.1 87 x6.toNatClampNeg) = ((1 : Int32) <<< (x6 &&& 31)) then 71 else 67, [some (.ref 77), some (.int x1), some (.int x2), some (.int x3), some (.int x4), some (.int x5), some (.int x6)], [], M7)) (P := [vp_in x6 8]) rfl (mz_o1 q11) ?_
      refine mz_Go.ite (fun c64 => ?_) (fun c64 => ?_)
      · replace h := h.1 c64
        refine mz_Go.steps (n := 4) (k2 := (24, [some (.ref 77), some (.int x1), some (.int x2), some (.int x3), some (.int x4), some (.int 0), some (.int (x6 + 1))], [], M7)) (P := []) rfl mz_o0 ?_
        exact h
      · replace h := h.2 c64
        refine mz_Go.steps (n := 5) (k2 := (24, [some (.ref 77), some (.int x1), some (.int x2), some (.int x3), some (.int x4), some (.int 1), some (.int (x6 + 1))], [], M7)) (P := []) rfl mz_o0 ?_
        exact h
set_option maxRecDepth 100000 in
set_option maxHeartbeats 4000000 in
theorem t_X10_row_0 (x1 : Int32) (M : mz_M) {res : mz_O} (h :
    (∀ M1 : mz_M, M1 = mz_wr M 77 (upd (M.1 77) 10 0) →
    (∃ (r2 : Int32), (mq_C mq_X10_in [.long (x1.toInt64), .long ((0 : Int32).toInt64), .long (((M1.1 77 9) - 1).toInt64)] M1 (some (.int r2), M1)) ∧
    ((r2 = 0 →
      (∃ (r4 : Int32) (M4 : mz_M), (mq_C mq_X10_lost [.ref 77] M1 (some (.int r4), M4)) ∧
      res = (some (.long (r4.toInt64)), M4))) ∧
    (¬ (r2 = 0) →
      (vp_in x1 64) ∧
      res = (some (.long (M1.2 83 x1.toNatClampNeg)), M1)))))) :
    mq_G mq_X10_row (0, [some (.ref 77), some (.int x1)], [], M) res := by
  obtain ⟨M1, e1⟩ : ∃ y, y = mz_wr M 77 (upd (M.1 77) 10 0) := ⟨_, rfl⟩
  replace h := h M1 e1
  refine mz_Go.steps (n := 3) (k2 := (5, [some (.ref 77), some (.int x1)], [], (mz_wr M 77 (upd (M.1 77) 10 0)))) (P := []) rfl mz_o0 ?_
  rw [← e1]
  refine mz_Go.steps (n := 8) (k2 := (15, [some (.ref 77), some (.int x1)], [.long (((M1.1 77 9) - 1).toInt64), .long ((0 : Int32).toInt64), .long (x1.toInt64)], M1)) (P := []) rfl mz_o0 ?_
  obtain ⟨r2, k2, h⟩ := h
  refine mz_Go.callS (As := [.long (x1.toInt64), .long ((0 : Int32).toInt64), .long (((M1.1 77 9) - 1).toInt64)]) (rest := []) (rfl : mz_find 15 (mz_rows mq_X10_row) = some (15, .invokestatic 65, 3, 133, 0, 147)) (rfl : mz_nth mq_tab 133 = some mq_X10_in) (by decide) rfl rfl rfl (Nat.le_of_ble_eq_true rfl) (Nat.le_of_ble_eq_true rfl) k2 ?_
  show mq_G mq_X10_row (18, [some (.ref 77), some (.int x1)], [.int r2], M1) res
  refine mz_Go.steps (n := 1) (k2 := (if r2 = 0 then 30 else 21, [some (.ref 77), some (.int x1)], [], M1)) (P := []) rfl mz_o0 ?_
  refine mz_Go.ite (fun c18 => ?_) (fun c18 => ?_)
  · replace h := h.1 c18
    refine mz_Go.steps (n := 1) (k2 := (31, [some (.ref 77), some (.int x1)], [.ref 77], M1)) (P := []) rfl mz_o0 ?_
    obtain ⟨r4, M4, k4, h⟩ := h
    refine mz_Go.callV (As := []) (rest := []) (rfl : mz_find 31 (mz_rows mq_X10_row) = some (31, .invokevirtual 295, 3, 134, 0, 235)) (rfl : mz_nth mq_tab 134 = some mq_X10_lost) rfl rfl rfl rfl (Nat.le_of_ble_eq_true rfl) (Nat.le_of_ble_eq_true rfl) k4 ?_
    show mq_G mq_X10_row (34, [some (.ref 77), some (.int x1)], [.int r4], M4) res
    refine mz_Go.steps (n := 1) (k2 := (35, [some (.ref 77), some (.int x1)], [.long (r4.toInt64)], M4)) (P := []) rfl mz_o0 ?_
    rw [h]
    exact mz_Go.lret (rfl : mz_find 35 (mz_rows mq_X10_row) = some (35, .lreturn, 1, 0, 0, 0)) rfl
  · replace h := h.2 c18
    obtain ⟨q5, h⟩ := h
    refine mz_Go.steps (n := 5) (k2 := (35, [some (.ref 77), some (.int x1)], [.long (M1.2 83 x1.toNatClampNeg)], M1)) (P := [vp_in x1 64]) rfl (mz_o1 q5) ?_
    rw [h]
    exact mz_Go.lret (rfl : mz_find 35 (mz_rows mq_X10_row) = some (35, .lreturn, 1, 0, 0, 0)) rfl
set_option maxRecDepth 100000 in
set_option maxHeartbeats 4000000 in
theorem t_J6_bitCount_0f7a4_0 (x0 : Int32) (M : mz_M) {res : mz_O} (h :
    res = (some (.int ((((((((x0 - (((x0.toUInt32 >>> ((1 : Int32).toUInt32 &&& Int32.toUInt32 31)).toInt32) &&& 1431655765)) &&& 858993459) + ((((x0 - (((x0.toUInt32 >>> ((1 : Int32).toUInt32 &&& Int32.toUInt32 31)).toInt32) &&& 1431655765)).toUInt32 >>> ((2 : Int32).toUInt32 &&& Int32.toUInt32 31)).toInt32) &&& 858993459)) + (((((x0 - (((x0.toUInt32 >>> ((1 : Int32).toUInt32 &&& Int32.toUInt32 31)).toInt32) &&& 1431655765)) &&& 858993459) + ((((x0 - (((x0.toUInt32 >>> ((1 : Int32).toUInt32 &&& Int32.toUInt32 31)).toInt32) &&& 1431655765)).toUInt32 >>> ((2 : Int32).toUInt32 &&& Int32.toUInt32 31)).toInt32) &&& 858993459)).toUInt32 >>> ((4 : Int32).toUInt32 &&& Int32.toUInt32 31)).toInt32)) &&& 252645135) + (((((((x0 - (((x0.toUInt32 >>> ((1 : Int32).toUInt32 &&& Int32.toUInt32 31)).toInt32) &&& 1431655765)) &&& 858993459) + ((((x0 - (((x0.toUInt32 >>> ((1 : Int32).toUInt32 &&& Int32.toUInt32 31)).toInt32) &&& 1431655765)).toUInt32 >>> ((2 : Int32).toUInt32 &&& Int32.toUInt32 31)).toInt32) &&& 858993459)) + (((((x0 - (((x0.toUInt32 >>> ((1 : Int32).toUInt32 &&& Int32.toUInt32 31)).toInt32) &&& 1431655765)) &&& 858993459) + ((((x0 - (((x0.toUInt32 >>> ((1 : Int32).toUInt32 &&& Int32.toUInt32 31)).toInt32) &&& 1431655765)).toUInt32 >>> ((2 : Int32).toUInt32 &&& Int32.toUInt32 31)).toInt32) &&& 858993459)).toUInt32 >>> ((4 : Int32).toUInt32 &&& Int32.toUInt32 31)).toInt32)) &&& 252645135).toUInt32 >>> ((8 : Int32).toUInt32 &&& Int32.toUInt32 31)).toInt32)) + ((((((((x0 - (((x0.toUInt32 >>> ((1 : Int32).toUInt32 &&& Int32.toUInt32 31)).toInt32) &&& 1431655765)) &&& 858993459) + ((((x0 - (((x0.toUInt32 >>> ((1 : Int32).toUInt32 &&& Int32.toUInt32 31)).toInt32) &&& 1431655765)).toUInt32 >>> ((2 : Int32).toUInt32 &&& Int32.toUInt32 31)).toInt32) &&& 858993459)) + (((((x0 - (((x0.toUInt32 >>> ((1 : Int32).toUInt32 &&& Int32.toUInt32 31)).toInt32) &&& 1431655765)) &&& 858993459) + ((((x0 - (((x0.toUInt32 >>> ((1 : Int32).toUInt32 &&& Int32.toUInt32 31)).toInt32) &&& 1431655765)).toUInt32 >>> ((2 : Int32).toUInt32 &&& Int32.toUInt32 31)).toInt32) &&& 858993459)).toUInt32 >>> ((4 : Int32).toUInt32 &&& Int32.toUInt32 31)).toInt32)) &&& 252645135) + (((((((x0 - (((x0.toUInt32 >>> ((1 : Int32).toUInt32 &&& Int32.toUInt32 31)).toInt32) &&& 1431655765)) &&& 858993459) + ((((x0 - (((x0.toUInt32 >>> ((1 : Int32).toUInt32 &&& Int32.toUInt32 31)).toInt32) &&& 1431655765)).toUInt32 >>> ((2 : Int32).toUInt32 &&& Int32.toUInt32 31)).toInt32) &&& 858993459)) + (((((x0 - (((x0.toUInt32 >>> ((1 : Int32).toUInt32 &&& Int32.toUInt32 31)).toInt32) &&& 1431655765)) &&& 858993459) + ((((x0 - (((x0.toUInt32 >>> ((1 : Int32).toUInt32 &&& Int32.toUInt32 31)).toInt32) &&& 1431655765)).toUInt32 >>> ((2 : Int32).toUInt32 &&& Int32.toUInt32 31)).toInt32) &&& 858993459)).toUInt32 >>> ((4 : Int32).toUInt32 &&& Int32.toUInt32 31)).toInt32)) &&& 252645135).toUInt32 >>> ((8 : Int32).toUInt32 &&& Int32.toUInt32 31)).toInt32)).toUInt32 >>> ((16 : Int32).toUInt32 &&& Int32.toUInt32 31)).toInt32)) &&& 63)), M)) :
    mq_G mq_J6_bitCount_0f7a4 (0, [some (.int x0)], [], M) res := by
  refine mz_Go.steps (n := 41) (k2 := (52, [some (.int (((((((x0 - (((x0.toUInt32 >>> ((1 : Int32).toUInt32 &&& Int32.toUInt32 31)).toInt32) &&& 1431655765)) &&& 858993459) + ((((x0 - (((x0.toUInt32 >>> ((1 : Int32).toUInt32 &&& Int32.toUInt32 31)).toInt32) &&& 1431655765)).toUInt32 >>> ((2 : Int32).toUInt32 &&& Int32.toUInt32 31)).toInt32) &&& 858993459)) + (((((x0 - (((x0.toUInt32 >>> ((1 : Int32).toUInt32 &&& Int32.toUInt32 31)).toInt32) &&& 1431655765)) &&& 858993459) + ((((x0 - (((x0.toUInt32 >>> ((1 : Int32).toUInt32 &&& Int32.toUInt32 31)).toInt32) &&& 1431655765)).toUInt32 >>> ((2 : Int32).toUInt32 &&& Int32.toUInt32 31)).toInt32) &&& 858993459)).toUInt32 >>> ((4 : Int32).toUInt32 &&& Int32.toUInt32 31)).toInt32)) &&& 252645135) + (((((((x0 - (((x0.toUInt32 >>> ((1 : Int32).toUInt32 &&& Int32.toUInt32 31)).toInt32) &&& 1431655765)) &&& 858993459) + ((((x0 - (((x0.toUInt32 >>> ((1 : Int32).toUInt32 &&& Int32.toUInt32 31)).toInt32) &&& 1431655765)).toUInt32 >>> ((2 : Int32).toUInt32 &&& Int32.toUInt32 31)).toInt32) &&& 858993459)) + (((((x0 - (((x0.toUInt32 >>> ((1 : Int32).toUInt32 &&& Int32.toUInt32 31)).toInt32) &&& 1431655765)) &&& 858993459) + ((((x0 - (((x0.toUInt32 >>> ((1 : Int32).toUInt32 &&& Int32.toUInt32 31)).toInt32) &&& 1431655765)).toUInt32 >>> ((2 : Int32).toUInt32 &&& Int32.toUInt32 31)).toInt32) &&& 858993459)).toUInt32 >>> ((4 : Int32).toUInt32 &&& Int32.toUInt32 31)).toInt32)) &&& 252645135).toUInt32 >>> ((8 : Int32).toUInt32 &&& Int32.toUInt32 31)).toInt32)) + ((((((((x0 - (((x0.toUInt32 >>> ((1 : Int32).toUInt32 &&& Int32.toUInt32 31)).toInt32) &&& 1431655765)) &&& 858993459) + ((((x0 - (((x0.toUInt32 >>> ((1 : Int32).toUInt32 &&& Int32.toUInt32 31)).toInt32) &&& 1431655765)).toUInt32 >>> ((2 : Int32).toUInt32 &&& Int32.toUInt32 31)).toInt32) &&& 858993459)) + (((((x0 - (((x0.toUInt32 >>> ((1 : Int32).toUInt32 &&& Int32.toUInt32 31)).toInt32) &&& 1431655765)) &&& 858993459) + ((((x0 - (((x0.toUInt32 >>> ((1 : Int32).toUInt32 &&& Int32.toUInt32 31)).toInt32) &&& 1431655765)).toUInt32 >>> ((2 : Int32).toUInt32 &&& Int32.toUInt32 31)).toInt32) &&& 858993459)).toUInt32 >>> ((4 : Int32).toUInt32 &&& Int32.toUInt32 31)).toInt32)) &&& 252645135) + (((((((x0 - (((x0.toUInt32 >>> ((1 : Int32).toUInt32 &&& Int32.toUInt32 31)).toInt32) &&& 1431655765)) &&& 858993459) + ((((x0 - (((x0.toUInt32 >>> ((1 : Int32).toUInt32 &&& Int32.toUInt32 31)).toInt32) &&& 1431655765)).toUInt32 >>> ((2 : Int32).toUInt32 &&& Int32.toUInt32 31)).toInt32) &&& 858993459)) + (((((x0 - (((x0.toUInt32 >>> ((1 : Int32).toUInt32 &&& Int32.toUInt32 31)).toInt32) &&& 1431655765)) &&& 858993459) + ((((x0 - (((x0.toUInt32 >>> ((1 : Int32).toUInt32 &&& Int32.toUInt32 31)).toInt32) &&& 1431655765)).toUInt32 >>> ((2 : Int32).toUInt32 &&& Int32.toUInt32 31)).toInt32) &&& 858993459)).toUInt32 >>> ((4 : Int32).toUInt32 &&& Int32.toUInt32 31)).toInt32)) &&& 252645135).toUInt32 >>> ((8 : Int32).toUInt32 &&& Int32.toUInt32 31)).toInt32)).toUInt32 >>> ((16 : Int32).toUInt32 &&& Int32.toUInt32 31)).toInt32)))], [.int ((((((((x0 - (((x0.toUInt32 >>> ((1 : Int32).toUInt32 &&& Int32.toUInt32 31)).toInt32) &&& 1431655765)) &&& 858993459) + ((((x0 - (((x0.toUInt32 >>> ((1 : Int32).toUInt32 &&& Int32.toUInt32 31)).toInt32) &&& 1431655765)).toUInt32 >>> ((2 : Int32).toUInt32 &&& Int32.toUInt32 31)).toInt32) &&& 858993459)) + (((((x0 - (((x0.toUInt32 >>> ((1 : Int32).toUInt32 &&& Int32.toUInt32 31)).toInt32) &&& 1431655765)) &&& 858993459) + ((((x0 - (((x0.toUInt32 >>> ((1 : Int32).toUInt32 &&& Int32.toUInt32 31)).toInt32) &&& 1431655765)).toUInt32 >>> ((2 : Int32).toUInt32 &&& Int32.toUInt32 31)).toInt32) &&& 858993459)).toUInt32 >>> ((4 : Int32).toUInt32 &&& Int32.toUInt32 31)).toInt32)) &&& 252645135) + (((((((x0 - (((x0.toUInt32 >>> ((1 : Int32).toUInt32 &&& Int32.toUInt32 31)).toInt32) &&& 1431655765)) &&& 858993459) + ((((x0 - (((x0.toUInt32 >>> ((1 : Int32).toUInt32 &&& Int32.toUInt32 31)).toInt32) &&& 1431655765)).toUInt32 >>> ((2 : Int32).toUInt32 &&& Int32.toUInt32 31)).toInt32) &&& 858993459)) + (((((x0 - (((x0.toUInt32 >>> ((1 : Int32).toUInt32 &&& Int32.toUInt32 31)).toInt32) &&& 1431655765)) &&& 858993459) + ((((x0 - (((x0.toUInt32 >>> ((1 : Int32).toUInt32 &&& Int32.toUInt32 31)).toInt32) &&& 1431655765)).toUInt32 >>> ((2 : Int32).toUInt32 &&& Int32.toUInt32 31)).toInt32) &&& 858993459)).toUInt32 >>> ((4 : Int32).toUInt32 &&& Int32.toUInt32 31)).toInt32)) &&& 252645135).toUInt32 >>> ((8 : Int32).toUInt32 &&& Int32.toUInt32 31)).toInt32)) + ((((((((x0 - (((x0.toUInt32 >>> ((1 : Int32).toUInt32 &&& Int32.toUInt32 31)).toInt32) &&& 1431655765)) &&& 858993459) + ((((x0 - (((x0.toUInt32 >>> ((1 : Int32).toUInt32 &&& Int32.toUInt32 31)).toInt32) &&& 1431655765)).toUInt32 >>> ((2 : Int32).toUInt32 &&& Int32.toUInt32 31)).toInt32) &&& 858993459)) + (((((x0 - (((x0.toUInt32 >>> ((1 : Int32).toUInt32 &&& Int32.toUInt32 31)).toInt32) &&& 1431655765)) &&& 858993459) + ((((x0 - (((x0.toUInt32 >>> ((1 : Int32).toUInt32 &&& Int32.toUInt32 31)).toInt32) &&& 1431655765)).toUInt32 >>> ((2 : Int32).toUInt32 &&& Int32.toUInt32 31)).toInt32) &&& 858993459)).toUInt32 >>> ((4 : Int32).toUInt32 &&& Int32.toUInt32 31)).toInt32)) &&& 252645135) + (((((((x0 - (((x0.toUInt32 >>> ((1 : Int32).toUInt32 &&& Int32.toUInt32 31)).toInt32) &&& 1431655765)) &&& 858993459) + ((((x0 - (((x0.toUInt32 >>> ((1 : Int32).toUInt32 &&& Int32.toUInt32 31)).toInt32) &&& 1431655765)).toUInt32 >>> ((2 : Int32).toUInt32 &&& Int32.toUInt32 31)).toInt32) &&& 858993459)) + (((((x0 - (((x0.toUInt32 >>> ((1 : Int32).toUInt32 &&& Int32.toUInt32 31)).toInt32) &&& 1431655765)) &&& 858993459) + ((((x0 - (((x0.toUInt32 >>> ((1 : Int32).toUInt32 &&& Int32.toUInt32 31)).toInt32) &&& 1431655765)).toUInt32 >>> ((2 : Int32).toUInt32 &&& Int32.toUInt32 31)).toInt32) &&& 858993459)).toUInt32 >>> ((4 : Int32).toUInt32 &&& Int32.toUInt32 31)).toInt32)) &&& 252645135).toUInt32 >>> ((8 : Int32).toUInt32 &&& Int32.toUInt32 31)).toInt32)).toUInt32 >>> ((16 : Int32).toUInt32 &&& Int32.toUInt32 31)).toInt32)) &&& 63)], M)) (P := []) rfl mz_o0 ?_
  rw [h]
  exact mz_Go.iret (rfl : mz_find 52 (mz_rows mq_J6_bitCount_0f7a4) = some (52, .ireturn, 1, 0, 0, 0)) rfl
