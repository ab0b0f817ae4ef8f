set_option maxRecDepth 100000 in
set_option maxHeartbeats 4000000 in
theorem t_X9_followsState_0 (M : mz_M) {res : mz_O} (h :
    (((M.1 2 0) = (M.1 8 0) →
      res = (none, M)) ∧
    (¬ ((M.1 2 0) = (M.1 8 0)) →
      (∃ (M2 : mz_M), (mq_C mq_X0_settle [.ref 2, .int (M.1 8 0)] M (none, M2)) ∧
      res = (none, M2))))) :
    mq_G mq_X9_followsState (0, [some (.ref 0)], [], M) res := by
  refine mz_Go.steps (n := 7) (k2 := (if (M.1 2 0) = (M.1 8 0) then 31 else 17, [some (.ref 0)], [], M)) (P := []) rfl mz_o0 ?_
  refine mz_Go.ite (fun c14 => ?_) (fun c14 => ?_)
  · replace h := h.1 c14
    rw [h]
    exact mz_Go.vret (rfl : mz_find 31 (mz_rows mq_X9_followsState) = some (31, .return_, 1, 0, 0, 0)) rfl
  · replace h := h.2 c14
    refine mz_Go.steps (n := 5) (k2 := (28, [some (.ref 0)], [.int (M.1 8 0), .ref 2], M)) (P := []) rfl mz_o0 ?_
    obtain ⟨M2, k2, h⟩ := h
    refine mz_Go.callV (As := [.int (M.1 8 0)]) (rest := []) (rfl : mz_find 28 (mz_rows mq_X9_followsState) = some (28, .invokevirtual 64, 3, 0, 0, 138)) (rfl : mz_nth mq_tab 0 = some mq_X0_settle) rfl rfl rfl rfl (Nat.le_of_ble_eq_true rfl) (Nat.le_of_ble_eq_true rfl) k2 ?_
    show mq_G mq_X9_followsState (31, [some (.ref 0)], [], M2) res
    rw [h]
    exact mz_Go.vret (rfl : mz_find 31 (mz_rows mq_X9_followsState) = some (31, .return_, 1, 0, 0, 0)) rfl
set_option maxRecDepth 100000 in
set_option maxHeartbeats 4000000 in
theorem t_X9_tellsLocated_0 (b1 : Nat) (M : mz_M) {res : mz_O} (h :
    (∃ (M1 : mz_M), (mq_C mq_X6_empties [.ref 73] M (none, M1)) ∧
    mq_G mq_X9_tellsLocated (11, [some (.ref 0), some (.ref b1), some (.int 0), some (.int 0), none], [], M1) res)) :
    mq_G mq_X9_tellsLocated (0, [some (.ref 0), some (.ref b1), none, none, none], [], M) res := by
  refine mz_Go.steps (n := 4) (k2 := (6, [some (.ref 0), some (.ref b1), some (.int 0), none, none], [.ref 73], M)) (P := []) rfl mz_o0 ?_
  obtain ⟨M1, k1, h⟩ := h
  refine mz_Go.callV (As := []) (rest := []) (rfl : mz_find 6 (mz_rows mq_X9_tellsLocated) = some (6, .invokevirtual 120, 3, 44, 0, 76)) (rfl : mz_nth mq_tab 44 = some mq_X6_empties) rfl rfl rfl rfl (Nat.le_of_ble_eq_true rfl) (Nat.le_of_ble_eq_true rfl) k1 ?_
  show mq_G mq_X9_tellsLocated (9, [some (.ref 0), some (.ref b1), some (.int 0), none, none], [], M1) res
  refine mz_Go.steps (n := 2) (k2 := (11, [some (.ref 0), some (.ref b1), some (.int 0), some (.int 0), none], [], M1)) (P := []) rfl mz_o0 ?_
  exact h
set_option maxRecDepth 100000 in
set_option maxHeartbeats 4000000 in
theorem t_X9_tellsLocated_11 (b1 : Nat) (x2 : Int32) (x3 : Int32) (o4 : Option Value) (M : mz_M) {res : mz_O} (h :
    (((M.1 2 1) ≤ x3 →
      res = (some (.int x2), M)) ∧
    (¬ ((M.1 2 1) ≤ x3) →
      (mz_nth mq_sk b1 = some (.inl (0, 8, []))) ∧
      (vp_in x3 8) ∧
      (∃ (r4 : Int32), (mq_C mq_X1_located [.ref 5, .int (M.1 b1 x3.toNatClampNeg)] M (some (.int r4), M)) ∧
      (∃ (M5 : mz_M), (mq_C mq_X6_puts [.ref 73, .long (r4.toInt64)] M (none, M5)) ∧
      (∃ (r6 : Int32), (mq_C mq_J6_bitCount_0f7a4 [.int r4] M5 (some (.int r6), M5)) ∧
      mq_G mq_X9_tellsLocated (11, [some (.ref 0), some (.ref b1), some (.int (x2 + r6)), some (.int (x3 + 1)), some (.int r4)], [], M5) res)))))) :
    mq_G mq_X9_tellsLocated (11, [some (.ref 0), some (.ref b1), some (.int x2), some (.int x3), o4], [], M) res := by
  refine mz_Go.steps (n := 5) (k2 := (if (M.1 2 1) ≤ x3 then 58 else 22, [some (.ref 0), some (.ref b1), some (.int x2), some (.int x3), o4], [], M)) (P := []) rfl mz_o0 ?_
  refine mz_Go.ite (fun c19 => ?_) (fun c19 => ?_)
  · replace h := h.1 c19
    refine mz_Go.steps (n := 1) (k2 := (59, [some (.ref 0), some (.ref b1), some (.int x2), some (.int x3), o4], [.int x2], M)) (P := []) rfl mz_o0 ?_
    rw [h]
    exact mz_Go.iret (rfl : mz_find 59 (mz_rows mq_X9_tellsLocated) = some (59, .ireturn, 1, 0, 0, 0)) rfl
  · replace h := h.2 c19
    refine mz_Go.steps (n := 4) (k2 := (28, [some (.ref 0), some (.ref b1), some (.int x2), some (.int x3), o4], [.int x3, .ref b1, .ref 5], M)) (P := []) rfl mz_o0 ?_
    obtain ⟨q2, q3, h⟩ := h
    refine mz_Go.iald (rfl : mz_find 28 (mz_rows mq_X9_tellsLocated) = some (28, .iaload, 1, 0, 0, 0)) q2 q3 ?_
    show mq_G mq_X9_tellsLocated (29, [some (.ref 0), some (.ref b1), some (.int x2), some (.int x3), o4], [.int (M.1 b1 x3.toNatClampNeg), .ref 5], M) res
    obtain ⟨r4, k4, h⟩ := h
    refine mz_Go.callV (As := [.int (M.1 b1 x3.toNatClampNeg)]) (rest := []) (rfl : mz_find 29 (mz_rows mq_X9_tellsLocated) = some (29, .invokevirtual 226, 3, 21, 0, 112)) (rfl : mz_nth mq_tab 21 = some mq_X1_located) rfl rfl rfl rfl (Nat.le_of_ble_eq_true rfl) (Nat.le_of_ble_eq_true rfl) k4 ?_
    show mq_G mq_X9_tellsLocated (32, [some (.ref 0), some (.ref b1), some (.int x2), some (.int x3), o4], [.int r4], M) res
    refine mz_Go.steps (n := 5) (k2 := (41, [some (.ref 0), some (.ref b1), some (.int x2), some (.int x3), some (.int r4)], [.long (r4.toInt64), .ref 73], M)) (P := []) rfl mz_o0 ?_
    obtain ⟨M5, k5, h⟩ := h
    refine mz_Go.callV (As := [.long (r4.toInt64)]) (rest := []) (rfl : mz_find 41 (mz_rows mq_X9_tellsLocated) = some (41, .invokevirtual 124, 3, 45, 0, 78)) (rfl : mz_nth mq_tab 45 = some mq_X6_puts) rfl rfl rfl rfl (Nat.le_of_ble_eq_true rfl) (Nat.le_of_ble_eq_true rfl) k5 ?_
    show mq_G mq_X9_tellsLocated (44, [some (.ref 0), some (.ref b1), some (.int x2), some (.int x3), some (.int r4)], [], M5) res
    refine mz_Go.steps (n := 2) (k2 := (47, [some (.ref 0), some (.ref b1), some (.int x2), some (.int x3), some (.int r4)], [.int r4, .int x2], M5)) (P := []) rfl mz_o0 ?_
    obtain ⟨r6, k6, h⟩ := h
    refine mz_Go.callS (As := [.int r4]) (rest := [.int x2]) (rfl : mz_find 47 (mz_rows mq_X9_tellsLocated) = some (47, .invokestatic 210, 3, 252, 0, 107)) (rfl : mz_nth mq_tab 252 = some mq_J6_bitCount_0f7a4) (by decide) rfl rfl rfl (Nat.le_of_ble_eq_true rfl) (Nat.le_of_ble_eq_true rfl) k6 ?_
    show mq_G mq_X9_tellsLocated (50, [some (.ref 0), some (.ref b1), some (.int x2), some (.int x3), some (.int r4)], [.int r6, .int x2], M5) res
    refine mz_Go.steps (n := 4) (k2 := (11, [some (.ref 0), some (.ref b1), some (.int (x2 + r6)), some (.int (x3 + 1)), some (.int r4)], [], M5)) (P := []) rfl mz_o0 ?_
    exact h
set_option maxRecDepth 100000 in
set_option maxHeartbeats 4000000 in
theorem t_X9_normalSlots_0 (M : mz_M) {res : mz_O} (h :
    mq_G mq_X9_normalSlots (4, [some (.ref 0), some (.int 0), some (.int 0)], [], M) res) :
    mq_G mq_X9_normalSlots (0, [some (.ref 0), none, none], [], M) res := by
  refine mz_Go.steps (n := 4) (k2 := (4, [some (.ref 0), some (.int 0), some (.int 0)], [], M)) (P := []) rfl mz_o0 ?_
  exact h
set_option maxRecDepth 100000 in
set_option maxHeartbeats 4000000 in
theorem t_X9_normalSlots_4 (x1 : Int32) (x2 : Int32) (M : mz_M) {res : mz_O} (h :
    ((4 ≤ x2 →
      res = (some (.int x1), M)) ∧
    (¬ (4 ≤ x2) →
      (vp_in x2 4) ∧
      (([10, 11, 12, 13] : List Nat).length = 4) ∧
      (∃ (r4 : Int32), (mq_C mq_X2_whoseNormal [.ref 1, .ref ([10, 11, 12, 13].getD x2.toNatClampNeg 0)] M (some (.int r4), M)) ∧
      ((¬ r4 = (-1) →
        mq_G mq_X9_normalSlots (4, [some (.ref 0), some (.int (x1 ||| ((1 : Int32) <<< (x2 &&& 31)))), some (.int (x2 + 1))], [], M) res) ∧
      (¬ (¬ r4 = (-1)) →
        mq_G mq_X9_normalSlots (4, [some (.ref 0), some (.int (x1 ||| 0)), some (.int (x2 + 1))], [], M) res)))))) :
    mq_G mq_X9_normalSlots (4, [some (.ref 0), some (.int x1), some (.int x2)], [], M) res := by
  refine mz_Go.steps (n := 3) (k2 := (if 4 ≤ x2 then 45 else 9, [some (.ref 0), some (.int x1), some (.int x2)], [], M)) (P := []) rfl mz_o0 ?_
  refine mz_Go.ite (fun c6 => ?_) (fun c6 => ?_)
  · replace h := h.1 c6
    refine mz_Go.steps (n := 1) (k2 := (46, [some (.ref 0), some (.int x1), some (.int x2)], [.int x1], M)) (P := []) rfl mz_o0 ?_
    rw [h]
    exact mz_Go.iret (rfl : mz_find 46 (mz_rows mq_X9_normalSlots) = some (46, .ireturn, 1, 0, 0, 0)) rfl
  · replace h := h.2 c6
    obtain ⟨q2, q3, h⟩ := h
    refine mz_Go.steps (n := 8) (k2 := (23, [some (.ref 0), some (.int x1), some (.int x2)], [.ref ([10, 11, 12, 13].getD x2.toNatClampNeg 0), .ref 1, .int x1], M)) (P := [vp_in x2 4, ([10, 11, 12, 13] : List Nat).length = 4]) rfl (mz_o2 q2 q3) ?_
    obtain ⟨r4, k4, h⟩ := h
    refine mz_Go.callV (As := [.ref ([10, 11, 12, 13].getD x2.toNatClampNeg 0)]) (rest := [.int x1]) (rfl : mz_find 23 (mz_rows mq_X9_normalSlots) = some (23, .invokevirtual 236, 3, 25, 0, 115)) (rfl : mz_nth mq_tab 25 = some mq_X2_whoseNormal) rfl rfl rfl rfl (Nat.le_of_ble_eq_true rfl) (Nat.le_of_ble_eq_true rfl) k4 ?_
    show mq_G mq_X9_normalSlots (26, [some (.ref 0), some (.int x1), some (.int x2)], [.int r4, .int x1], M) res
    refine mz_Go.steps (n := 2) (k2 := (if ¬ r4 = (-1) then 34 else 30, [some (.ref 0), some (.int x1), some (.int x2)], [.int x1], M)) (P := []) rfl mz_o0 ?_
    refine mz_Go.ite (fun c27 => ?_) (fun c27 => ?_)
    · replace h := h.1 c27
      refine mz_Go.steps (n := 7) (k2 := (4, [some (.ref 0), some (.int (x1 ||| ((1 : Int32) <<< (x2 &&& 31)))), some (.int (x2 + 1))], [], M)) (P := []) rfl mz_o0 ?_
      exact h
    · replace h := h.2 c27
      refine mz_Go.steps (n := 6) (k2 := (4, [some (.ref 0), some (.int (x1 ||| 0)), some (.int (x2 + 1))], [], M)) (P := []) rfl mz_o0 ?_
      exact h
set_option maxRecDepth 100000 in
set_option maxHeartbeats 4000000 in
theorem t_X9_plainSlots_0 (M : mz_M) {res : mz_O} (h :
    mq_G mq_X9_plainSlots (4, [some (.ref 0), some (.int 0), some (.int 0)], [], M) res) :
    mq_G mq_X9_plainSlots (0, [some (.ref 0), none, none], [], M) res := by
  refine mz_Go.steps (n := 4) (k2 := (4, [some (.ref 0), some (.int 0), some (.int 0)], [], M)) (P := []) rfl mz_o0 ?_
  exact h
set_option maxRecDepth 100000 in
set_option maxHeartbeats 4000000 in
theorem t_X9_plainSlots_4 (x1 : Int32) (x2 : Int32) (M : mz_M) {res : mz_O} (h :
    ((4 ≤ x2 →
      res = (some (.int x1), M)) ∧
    (¬ (4 ≤ x2) →
      (∃ (r2 : Int32), (mq_C mq_X7_isPlain [.ref 8, .int x2, .int (M.1 2 1)] M (some (.int r2), M)) ∧
      ((r2 = 0 →
        mq_G mq_X9_plainSlots (4, [some (.ref 0), some (.int (x1 ||| 0)), some (.int (x2 + 1))], [], M) res) ∧
      (¬ (r2 = 0) →
        mq_G mq_X9_plainSlots (4, [some (.ref 0), some (.int (x1 ||| ((1 : Int32) <<< (x2 &&& 31)))), some (.int (x2 + 1))], [], M) res)))))) :
    mq_G mq_X9_plainSlots (4, [some (.ref 0), some (.int x1), some (.int x2)], [], M) res := by
  refine mz_Go.steps (n := 3) (k2 := (if 4 ≤ x2 then 43 else 9, [some (.ref 0), some (.int x1), some (.int x2)], [], M)) (P := []) rfl mz_o0 ?_
  refine mz_Go.ite (fun c6 => ?_) (fun c6 => ?_)
  · replace h := h.1 c6
    refine mz_Go.steps (n := 1) (k2 := (44, [some (.ref 0), some (.int x1), some (.int x2)], [.int x1], M)) (P := []) rfl mz_o0 ?_
    rw [h]
    exact mz_Go.iret (rfl : mz_find 44 (mz_rows mq_X9_plainSlots) = some (44, .ireturn, 1, 0, 0, 0)) rfl
  · replace h := h.2 c6
    refine mz_Go.steps (n := 7) (k2 := (22, [some (.ref 0), some (.int x1), some (.int x2)], [.int (M.1 2 1), .int x2, .ref 8, .int x1], M)) (P := []) rfl mz_o0 ?_
    obtain ⟨r2, k2, h⟩ := h
    refine mz_Go.callV (As := [.int x2, .int (M.1 2 1)]) (rest := [.int x1]) (rfl : mz_find 22 (mz_rows mq_X9_plainSlots) = some (22, .invokevirtual 308, 3, 51, 0, 141)) (rfl : mz_nth mq_tab 51 = some mq_X7_isPlain) rfl rfl rfl rfl (Nat.le_of_ble_eq_true rfl) (Nat.le_of_ble_eq_true rfl) k2 ?_
    show mq_G mq_X9_plainSlots (25, [some (.ref 0), some (.int x1), some (.int x2)], [.int r2, .int x1], M) res
    refine mz_Go.steps (n := 1) (k2 := (if r2 = 0 then 34 else 28, [some (.ref 0), some (.int x1), some (.int x2)], [.int x1], M)) (P := []) rfl mz_o0 ?_
    refine mz_Go.ite (fun c25 => ?_) (fun c25 => ?_)
    · replace h := h.1 c25
      refine mz_Go.steps (n := 5) (k2 := (4, [some (.ref 0), some (.int (x1 ||| 0)), some (.int (x2 + 1))], [], M)) (P := []) rfl mz_o0 ?_
      exact h
    · replace h := h.2 c25
      refine mz_Go.steps (n := 8) (k2 := (4, [some (.ref 0), some (.int (x1 ||| ((1 : Int32) <<< (x2 &&& 31)))), some (.int (x2 + 1))], [], M)) (P := []) rfl mz_o0 ?_
      exact h
set_option maxRecDepth 100000 in
set_option maxHeartbeats 4000000 in
theorem t_X10_thrown_0 (M : mz_M) {res : mz_O} (h :
    res = (some (.int (M.1 77 10)), M)) :
    mq_G mq_X10_thrown (0, [some (.ref 77)], [], M) res := by
  refine mz_Go.steps (n := 2) (k2 := (4, [some (.ref 77)], [.int (M.1 77 10)], M)) (P := []) rfl mz_o0 ?_
  rw [h]
  exact mz_Go.iret (rfl : mz_find 4 (mz_rows mq_X10_thrown) = some (4, .ireturn, 1, 0, 0, 0)) rfl
set_option maxRecDepth 100000 in
set_option maxHeartbeats 4000000 in
theorem t_X10_in_0 (x0 : Int64) (x2 : Int64) (x4 : Int64) (M : mz_M) {res : mz_O} (h :
    (((lg_cmp x0 x2) < 0 →
      res = (some (.int 0), M)) ∧
    (¬ ((lg_cmp x0 x2) < 0) →
      ((0 < (lg_cmp x0 x4) →
        res = (some (.int 0), M)) ∧
      (¬ (0 < (lg_cmp x0 x4)) →
        res = (some (.int 1), M)))))) :
    mq_G mq_X10_in (0, [some (.long x0), none, some (.long x2), none, some (.long x4), none], [], M) res := by
  refine mz_Go.steps (n := 4) (k2 := (if (lg_cmp x0 x2) < 0 then 17 else 6, [some (.long x0), none, some (.long x2), none, some (.long x4), none], [], M)) (P := []) rfl mz_o0 ?_
  refine mz_Go.ite (fun c3 => ?_) (fun c3 => ?_)
  · replace h := h.1 c3
    refine mz_Go.steps (n := 1) (k2 := (18, [some (.long x0), none, some (.long x2), none, some (.long x4), none], [.int 0], M)) (P := []) rfl mz_o0 ?_
    rw [h]
    exact mz_Go.zret (rfl : mz_find 18 (mz_rows mq_X10_in) = some (18, .ireturn, 1, 0, 0, 0)) rfl (Or.inl rfl)
  · replace h := h.2 c3
    refine mz_Go.steps (n := 4) (k2 := (if 0 < (lg_cmp x0 x4) then 17 else 13, [some (.long x0), none, some (.long x2), none, some (.long x4), none], [], M)) (P := []) rfl mz_o0 ?_
    refine mz_Go.ite (fun c10 => ?_) (fun c10 => ?_)
    · replace h := h.1 c10
      refine mz_Go.steps (n := 1) (k2 := (18, [some (.long x0), none, some (.long x2), none, some (.long x4), none], [.int 0], M)) (P := []) rfl mz_o0 ?_
      rw [h]
      exact mz_Go.zret (rfl : mz_find 18 (mz_rows mq_X10_in) = some (18, .ireturn, 1, 0, 0, 0)) rfl (Or.inl rfl)
    · replace h := h.2 c10
      refine mz_Go.steps (n := 2) (k2 := (18, [some (.long x0), none, some (.long x2), none, some (.long x4), none], [.int 1], M)) (P := []) rfl mz_o0 ?_
      rw [h]
      exact mz_Go.zret (rfl : mz_find 18 (mz_rows mq_X10_in) = some (18, .ireturn, 1, 0, 0, 0)) rfl (Or.inr rfl)
set_option maxRecDepth 100000 in
set_option maxHeartbeats 4000000 in
theorem t_X10_lost_0 (M : mz_M) {res : mz_O} (h :
    (∀ M1 : mz_M, M1 = mz_wr M 77 (upd (M.1 77) 10 1) →
    res = (some (.int 0), M1))) :
    mq_G mq_X10_lost (0, [some (.ref 77)], [], M) res := by
  obtain ⟨M1, e1⟩ : ∃ y, y = mz_wr M 77 (upd (M.1 77) 10 1) := ⟨_, rfl⟩
  replace h := h M1 e1
  refine mz_Go.steps (n := 3) (k2 := (5, [some (.ref 77)], [], (mz_wr M 77 (upd (M.1 77) 10 1)))) (P := []) rfl mz_o0 ?_
  rw [← e1]
  refine mz_Go.steps (n := 1) (k2 := (6, [some (.ref 77)], [.int 0], M1)) (P := []) rfl mz_o0 ?_
  rw [h]
  exact mz_Go.iret (rfl : mz_find 6 (mz_rows mq_X10_lost) = some (6, .ireturn, 1, 0, 0, 0)) rfl
set_option maxRecDepth 100000 in
set_option maxHeartbeats 4000000 in
theorem t_X10_tell_0 (x1 : Int64) (M : mz_M) {res : mz_O} (h :
    (vp_in (M.1 77 9) 64) ∧
    (∀ M1 : mz_M, M1 = mz_wrl M 83 (vp_updL (M.2 83) (M.1 77 9).toNatClampNeg x1) →
    (∀ M3 : mz_M, M3 = mz_wr M1 77 (upd (M1.1 77) 9 ((M1.1 77 9) + 1)) →
    res = (none, M3)))) :
    mq_G mq_X10_tell (0, [some (.ref 77), some (.long x1), none], [], M) res := by
  obtain ⟨q2, h⟩ := h
  obtain ⟨M1, e1⟩ : ∃ y, y = mz_wrl M 83 (vp_updL (M.2 83) (M.1 77 9).toNatClampNeg x1) := ⟨_, rfl⟩
  replace h := h M1 e1
  refine mz_Go.steps (n := 6) (k2 := (10, [some (.ref 77), some (.long x1), none], [], (mz_wrl M 83 (vp_updL (M.2 83) (M.1 77 9).toNatClampNeg x1)))) (P := [vp_in (M.1 77 9) 64]) rfl (mz_o1 q2) ?_
  rw [← e1]
  obtain ⟨M3, e3⟩ : ∃ y, y = mz_wr M1 77 (upd (M1.1 77) 9 ((M1.1 77 9) + 1)) := ⟨_, rfl⟩
  replace h := h M3 e3
  refine mz_Go.steps (n := 6) (k2 := (20, [some (.ref 77), some (.long x1), none], [], (mz_wr M1 77 (upd (M1.1 77) 9 ((M1.1 77 9) + 1))))) (P := []) rfl mz_o0 ?_
  rw [← e3]
  rw [h]
  exact mz_Go.vret (rfl : mz_find 20 (mz_rows mq_X10_tell) = some (20, .return_, 1, 0, 0, 0)) rfl
set_option maxRecDepth 100000 in
set_option maxHeartbeats 4000000 in
theorem t_X10_bits_0 (x0 : Int32) (M : mz_M) {res : mz_O} (h :
    mq_G mq_X10_bits (4, [some (.int x0), some (.int 0), some (.int x0)], [], M) res) :
    mq_G mq_X10_bits (0, [some (.int x0), none, none], [], M) res := by
  refine mz_Go.steps (n := 4) (k2 := (4, [some (.int x0), some (.int 0), some (.int x0)], [], M)) (P := []) rfl mz_o0 ?_
  exact h
set_option maxRecDepth 100000 in
set_option maxHeartbeats 4000000 in
theorem t_X10_bits_4 (o0 : Option Value) (x1 : Int32) (x2 : Int32) (M : mz_M) {res : mz_O} (h :
    ((x2 = 0 →
      res = (some (.int x1), M)) ∧
    (¬ (x2 = 0) →
      mq_G mq_X10_bits (4, [(mz_nw o0), some (.int (x1 + 1)), some (.int (x2 &&& (x2 - 1)))], [], M) res))) :
    mq_G mq_X10_bits (4, [o0, some (.int x1), some (.int x2)], [], M) res := by
  refine mz_Go.steps (n := 2) (k2 := (if x2 = 0 then 20 else 8, [o0, some (.int x1), some (.int x2)], [], M)) (P := []) rfl mz_o0 ?_
  refine mz_Go.ite (fun c5 => ?_) (fun c5 => ?_)
  · replace h := h.1 c5
    refine mz_Go.steps (n := 1) (k2 := (21, [o0, some (.int x1), some (.int x2)], [.int x1], M)) (P := []) rfl mz_o0 ?_
    rw [h]
    exact mz_Go.iret (rfl : mz_find 21 (mz_rows mq_X10_bits) = some (21, .ireturn, 1, 0, 0, 0)) rfl
  · replace h := h.2 c5
    refine mz_Go.steps (n := 8) (k2 := (4, [(mz_nw o0), some (.int (x1 + 1)), some (.int (x2 &&& (x2 - 1)))], [], M)) (P := []) rfl mz_o0 ?_
    exact h
set_option maxRecDepth 100000 in
set_option maxHeartbeats 4000000 in
theorem t_X10_sign_0 (x1 : Int32) (M : mz_M) {res : mz_O} (h :
    (∀ M1 : mz_M, M1 = mz_wr M 77 (upd (M.1 77) 10 0) →
    ((((M1.1 77 7) + 4) ≤ 100 →
      mq_G mq_X10_sign (20, [some (.ref 77), some (.int x1), some (.int 3)], [], M1) res) ∧
    (¬ (((M1.1 77 7) + 4) ≤ 100) →
      res = (some (.int (-1)), M1))))) :
    mq_G mq_X10_sign (0, [some (.ref 77), some (.int x1), none], [], M) res := by
  obtain ⟨M1, e1⟩ : ∃ y, y = mz_wr M 77 (upd (M.1 77) 10 0) := ⟨_, rfl⟩
  replace h := h M1 e1
  refine mz_Go.steps (n := 3) (k2 := (5, [some (.ref 77), some (.int x1), none], [], (mz_wr M 77 (upd (M.1 77) 10 0)))) (P := []) rfl mz_o0 ?_
  rw [← e1]
  refine mz_Go.steps (n := 6) (k2 := (if ((M1.1 77 7) + 4) ≤ 100 then 18 else 16, [some (.ref 77), some (.int x1), none], [], M1)) (P := []) rfl mz_o0 ?_
  refine mz_Go.ite (fun c13 => ?_) (fun c13 => ?_)
  · replace h := h.1 c13
    refine mz_Go.steps (n := 2) (k2 := (20, [some (.ref 77), some (.int x1), some (.int 3)], [], M1)) (P := []) rfl mz_o0 ?_
    exact h
  · replace h := h.2 c13
    refine mz_Go.steps (n := 1) (k2 := (17, [some (.ref 77), some (.int x1), none], [.int (-1)], M1)) (P := []) rfl mz_o0 ?_
    rw [h]
    exact mz_Go.iret (rfl : mz_find 17 (mz_rows mq_X10_sign) = some (17, .ireturn, 1, 0, 0, 0)) rfl
set_option maxRecDepth 100000 in
set_option maxHeartbeats 4000000 in
theorem t_X10_sign_20 (x1 : Int32) (x2 : Int32) (M : mz_M) {res : mz_O} (h :
    ((x2 < 0 →
      res = (some (.int (M.1 77 7)), M)) ∧
    (¬ (x2 < 0) →
      (∀ M2 : mz_M, M2 = mz_wr M 77 (upd (M.1 77) 7 ((M.1 77 7) + 1)) →
      (vp_in (M.1 77 7) 100) ∧
      (∀ M3 : mz_M, M3 = mz_wr M2 82 (upd (M2.1 82) (M.1 77 7).toNatClampNeg (vp_nar .byte ((x1 >>> ((8 * x2) &&& 31)).toInt8.toInt32))) →
      mq_G mq_X10_sign (20, [some (.ref 77), some (.int x1), some (.int (x2 + (-1)))], [], M3) res))))) :
    mq_G mq_X10_sign (20, [some (.ref 77), some (.int x1), some (.int x2)], [], M) res := by
  refine mz_Go.steps (n := 2) (k2 := (if x2 < 0 then 53 else 24, [some (.ref 77), some (.int x1), some (.int x2)], [], M)) (P := []) rfl mz_o0 ?_
  refine mz_Go.ite (fun c21 => ?_) (fun c21 => ?_)
  · replace h := h.1 c21
    refine mz_Go.steps (n := 2) (k2 := (57, [some (.ref 77), some (.int x1), some (.int x2)], [.int (M.1 77 7)], M)) (P := []) rfl mz_o0 ?_
    rw [h]
    exact mz_Go.iret (rfl : mz_find 57 (mz_rows mq_X10_sign) = some (57, .ireturn, 1, 0, 0, 0)) rfl
  · replace h := h.2 c21
    obtain ⟨M2, e2⟩ : ∃ y, y = mz_wr M 77 (upd (M.1 77) 7 ((M.1 77 7) + 1)) := ⟨_, rfl⟩
    replace h := h M2 e2
    refine mz_Go.steps (n := 9) (k2 := (39, [some (.ref 77), some (.int x1), some (.int x2)], [.int (M.1 77 7), .ref 82], (mz_wr M 77 (upd (M.1 77) 7 ((M.1 77 7) + 1))))) (P := []) rfl mz_o0 ?_
    rw [← e2]
    obtain ⟨q4, h⟩ := h
    obtain ⟨M3, e3⟩ : ∃ y, y = mz_wr M2 82 (upd (M2.1 82) (M.1 77 7).toNatClampNeg (vp_nar .byte ((x1 >>> ((8 * x2) &&& 31)).toInt8.toInt32))) := ⟨_, rfl⟩
    replace h := h M3 e3
    refine mz_Go.steps (n := 7) (k2 := (47, [some (.ref 77), some (.int x1), some (.int x2)], [], (mz_wr M2 82 (upd (M2.1 82) (M.1 77 7).toNatClampNeg (vp_nar .byte ((x1 >>> ((8 * x2) &&& 31)).toInt8.toInt32)))))) (P := [vp_in (M.1 77 7) 100]) rfl (mz_o1 q4) ?_
    rw [← e3]
    refine mz_Go.steps (n := 2) (k2 := (20, [some (.ref 77), some (.int x1), some (.int (x2 + (-1)))], [], M3)) (P := []) rfl mz_o0 ?_
    exact h
set_option maxRecDepth 100000 in
set_option maxHeartbeats 4000000 in
theorem t_X10_end_0 (x1 : Int32) (M : mz_M) {res : mz_O} (h :
    (∀ M1 : mz_M, M1 = mz_wr M 77 (upd (M.1 77) 10 0) →
    (∃ (r2 : Int32), (mq_C mq_X10_in [.long (x1.toInt64), .long ((0 : Int32).toInt64), .long ((M1.1 77 7).toInt64)] M1 (some (.int r2), M1)) ∧
    ((¬ r2 = 0 →
      (∀ M4 : mz_M, M4 = mz_wr M1 77 (upd (M1.1 77) 7 x1) →
      res = (some (.int 1), M4))) ∧
    (¬ (¬ r2 = 0) →
      res = (some (.int 0), M1)))))) :
    mq_G mq_X10_end (0, [some (.ref 77), some (.int x1)], [], M) res := by
  obtain ⟨M1, e1⟩ : ∃ y, y = mz_wr M 77 (upd (M.1 77) 10 0) := ⟨_, rfl⟩
  replace h := h M1 e1
  refine mz_Go.steps (n := 3) (k2 := (5, [some (.ref 77), some (.int x1)], [], (mz_wr M 77 (upd (M.1 77) 10 0)))) (P := []) rfl mz_o0 ?_
  rw [← e1]
  refine mz_Go.steps (n := 6) (k2 := (13, [some (.ref 77), some (.int x1)], [.long ((M1.1 77 7).toInt64), .long ((0 : Int32).toInt64), .long (x1.toInt64)], M1)) (P := []) rfl mz_o0 ?_
  obtain ⟨r2, k2, h⟩ := h
  refine mz_Go.callS (As := [.long (x1.toInt64), .long ((0 : Int32).toInt64), .long ((M1.1 77 7).toInt64)]) (rest := []) (rfl : mz_find 13 (mz_rows mq_X10_end) = some (13, .invokestatic 65, 3, 133, 0, 147)) (rfl : mz_nth mq_tab 133 = some mq_X10_in) (by decide) rfl rfl rfl (Nat.le_of_ble_eq_true rfl) (Nat.le_of_ble_eq_true rfl) k2 ?_
  show mq_G mq_X10_end (16, [some (.ref 77), some (.int x1)], [.int r2], M1) res
  refine mz_Go.steps (n := 1) (k2 := (if ¬ r2 = 0 then 21 else 19, [some (.ref 77), some (.int x1)], [], M1)) (P := []) rfl mz_o0 ?_
  refine mz_Go.ite (fun c16 => ?_) (fun c16 => ?_)
  · replace h := h.1 c16
    obtain ⟨M4, e4⟩ : ∃ y, y = mz_wr M1 77 (upd (M1.1 77) 7 x1) := ⟨_, rfl⟩
    replace h := h M4 e4
    refine mz_Go.steps (n := 3) (k2 := (26, [some (.ref 77), some (.int x1)], [], (mz_wr M1 77 (upd (M1.1 77) 7 x1)))) (P := []) rfl mz_o0 ?_
    rw [← e4]
    refine mz_Go.steps (n := 1) (k2 := (27, [some (.ref 77), some (.int x1)], [.int 1], M4)) (P := []) rfl mz_o0 ?_
    rw [h]
    exact mz_Go.zret (rfl : mz_find 27 (mz_rows mq_X10_end) = some (27, .ireturn, 1, 0, 0, 0)) rfl (Or.inr rfl)
  · replace h := h.2 c16
    refine mz_Go.steps (n := 1) (k2 := (20, [some (.ref 77), some (.int x1)], [.int 0], M1)) (P := []) rfl mz_o0 ?_
    rw [h]
    exact mz_Go.zret (rfl : mz_find 20 (mz_rows mq_X10_end) = some (20, .ireturn, 1, 0, 0, 0)) rfl (Or.inl rfl)
set_option maxRecDepth 100000 in
set_option maxHeartbeats 4000000 in
theorem t_X10_degree_0 (x0 : Int32) (M : mz_M) {res : mz_O} (h :
    mq_G mq_X10_degree (4, [some (.int x0), some (.int (-1)), some (.int x0)], [], M) res) :
    mq_G mq_X10_degree (0, [some (.int x0), none, none], [], M) res := by
  refine mz_Go.steps (n := 4) (k2 := (4, [some (.int x0), some (.int (-1)), some (.int x0)], [], M)) (P := []) rfl mz_o0 ?_
  exact h
set_option maxRecDepth 100000 in
set_option maxHeartbeats 4000000 in
theorem t_X10_degree_4 (o0 : Option Value) (x1 : Int32) (x2 : Int32) (M : mz_M) {res : mz_O} (h :
    ((x2 ≤ 0 →
      res = (some (.int x1), M)) ∧
    (¬ (x2 ≤ 0) →
      mq_G mq_X10_degree (4, [(mz_nw o0), some (.int (x1 + 1)), some (.int (x2 >>> (1 &&& 31)))], [], M) res))) :
    mq_G mq_X10_degree (4, [o0, some (.int x1), some (.int x2)], [], M) res := by
  refine mz_Go.steps (n := 2) (k2 := (if x2 ≤ 0 then 18 else 8, [o0, some (.int x1), some (.int x2)], [], M)) (P := []) rfl mz_o0 ?_
  refine mz_Go.ite (fun c5 => ?_) (fun c5 => ?_)
  · replace h := h.1 c5
    refine mz_Go.steps (n := 1) (k2 := (19, [o0, some (.int x1), some (.int x2)], [.int x1], M)) (P := []) rfl mz_o0 ?_
    rw [h]
    exact mz_Go.iret (rfl : mz_find 19 (mz_rows mq_X10_degree) = some (19, .ireturn, 1, 0, 0, 0)) rfl
  · replace h := h.2 c5
    refine mz_Go.steps (n := 6) (k2 := (4, [(mz_nw o0), some (.int (x1 + 1)), some (.int (x2 >>> (1 &&& 31)))], [], M)) (P := []) rfl mz_o0 ?_
    exact h
set_option maxRecDepth 100000 in
set_option maxHeartbeats 4000000 in
theorem t_X10_modulo_0 (x0 : Int32) (x1 : Int32) (M : mz_M) {res : mz_O} (h :
    (∃ (r1 : Int32), (mq_C mq_X10_degree [.int x1] M (some (.int r1), M)) ∧
    (∃ (r2 : Int32), (mq_C mq_X10_degree [.int x0] M (some (.int r2), M)) ∧
    mq_G mq_X10_modulo (13, [some (.int x0), some (.int x1), some (.int x0), some (.int r1), some (.int r2)], [], M) res))) :
    mq_G mq_X10_modulo (0, [some (.int x0), some (.int x1), none, none, none], [], M) res := by
  refine mz_Go.steps (n := 3) (k2 := (3, [some (.int x0), some (.int x1), some (.int x0), none, none], [.int x1], M)) (P := []) rfl mz_o0 ?_
  obtain ⟨r1, k1, h⟩ := h
  refine mz_Go.callS (As := [.int x1]) (rest := []) (rfl : mz_find 3 (mz_rows mq_X10_modulo) = some (3, .invokestatic 69, 3, 139, 0, 148)) (rfl : mz_nth mq_tab 139 = some mq_X10_degree) (by decide) rfl rfl rfl (Nat.le_of_ble_eq_true rfl) (Nat.le_of_ble_eq_true rfl) k1 ?_
  show mq_G mq_X10_modulo (6, [some (.int x0), some (.int x1), some (.int x0), none, none], [.int r1], M) res
  refine mz_Go.steps (n := 2) (k2 := (8, [some (.int x0), some (.int x1), some (.int x0), some (.int r1), none], [.int x0], M)) (P := []) rfl mz_o0 ?_
  obtain ⟨r2, k2, h⟩ := h
  refine mz_Go.callS (As := [.int x0]) (rest := []) (rfl : mz_find 8 (mz_rows mq_X10_modulo) = some (8, .invokestatic 69, 3, 139, 0, 148)) (rfl : mz_nth mq_tab 139 = some mq_X10_degree) (by decide) rfl rfl rfl (Nat.le_of_ble_eq_true rfl) (Nat.le_of_ble_eq_true rfl) k2 ?_
  show mq_G mq_X10_modulo (11, [some (.int x0), some (.int x1), some (.int x0), some (.int r1), none], [.int r2], M) res
  refine mz_Go.steps (n := 1) (k2 := (13, [some (.int x0), some (.int x1), some (.int x0), some (.int r1), some (.int r2)], [], M)) (P := []) rfl mz_o0 ?_
  exact h
set_option maxRecDepth 100000 in
set_option maxHeartbeats 4000000 in
theorem t_X10_modulo_13 (o0 : Option Value) (x1 : Int32) (x2 : Int32) (x3 : Int32) (x4 : Int32) (M : mz_M) {res : mz_O} (h :
    ((x4 < x3 →
      res = (some (.int x2), M)) ∧
    (¬ (x4 < x3) →
      (∃ (r2 : Int32), (mq_C mq_X10_degree [.int (x2 ^^^ (x1 <<< ((x4 - x3) &&& 31)))] M (some (.int r2), M)) ∧
      mq_G mq_X10_modulo (13, [o0, some (.int x1), some (.int (x2 ^^^ (x1 <<< ((x4 - x3) &&& 31)))), some (.int x3), some (.int r2)], [], M) res)))) :
    mq_G mq_X10_modulo (13, [o0, some (.int x1), some (.int x2), some (.int x3), some (.int x4)], [], M) res := by
  refine mz_Go.steps (n := 3) (k2 := (if x4 < x3 then 37 else 19, [o0, some (.int x1), some (.int x2), some (.int x3), some (.int x4)], [], M)) (P := []) rfl mz_o0 ?_
  refine mz_Go.ite (fun c16 => ?_) (fun c16 => ?_)
  · replace h := h.1 c16
    refine mz_Go.steps (n := 1) (k2 := (38, [o0, some (.int x1), some (.int x2), some (.int x3), some (.int x4)], [.int x2], M)) (P := []) rfl mz_o0 ?_
    rw [h]
    exact mz_Go.iret (rfl : mz_find 38 (mz_rows mq_X10_modulo) = some (38, .ireturn, 1, 0, 0, 0)) rfl
  · replace h := h.2 c16
    refine mz_Go.steps (n := 9) (k2 := (29, [o0, some (.int x1), some (.int (x2 ^^^ (x1 <<< ((x4 - x3) &&& 31)))), some (.int x3), some (.int x4)], [.int (x2 ^^^ (x1 <<< ((x4 - x3) &&& 31)))], M)) (P := []) rfl mz_o0 ?_
    obtain ⟨r2, k2, h⟩ := h
    refine mz_Go.callS (As := [.int (x2 ^^^ (x1 <<< ((x4 - x3) &&& 31)))]) (rest := []) (rfl : mz_find 29 (mz_rows mq_X10_modulo) = some (29, .invokestatic 69, 3, 139, 0, 148)) (rfl : mz_nth mq_tab 139 = some mq_X10_degree) (by decide) rfl rfl rfl (Nat.le_of_ble_eq_true rfl) (Nat.le_of_ble_eq_true rfl) k2 ?_
    show mq_G mq_X10_modulo (32, [o0, some (.int x1), some (.int (x2 ^^^ (x1 <<< ((x4 - x3) &&& 31)))), some (.int x3), some (.int x4)], [.int r2], M) res
    refine mz_Go.steps (n := 2) (k2 := (13, [o0, some (.int x1), some (.int (x2 ^^^ (x1 <<< ((x4 - x3) &&& 31)))), some (.int x3), some (.int r2)], [], M)) (P := []) rfl mz_o0 ?_
    exact h
set_option maxRecDepth 100000 in
set_option maxHeartbeats 4000000 in
theorem t_X10_timesPoly_0 (x0 : Int32) (x1 : Int32) (M : mz_M) {res : mz_O} (h :
    mq_G mq_X10_timesPoly (4, [some (.int x0), some (.int x1), some (.int 0), some (.int 0)], [], M) res) :
    mq_G mq_X10_timesPoly (0, [some (.int x0), some (.int x1), none, none], [], M) res := by
  refine mz_Go.steps (n := 4) (k2 := (4, [some (.int x0), some (.int x1), some (.int 0), some (.int 0)], [], M)) (P := []) rfl mz_o0 ?_
  exact h
set_option maxRecDepth 100000 in
set_option maxHeartbeats 4000000 in
theorem t_X10_timesPoly_4 (x0 : Int32) (x1 : Int32) (x2 : Int32) (x3 : Int32) (M : mz_M) {res : mz_O} (h :
    ((16 ≤ x3 →
      res = (some (.int x2), M)) ∧
    (¬ (16 ≤ x3) →
      ((¬ ((x1 >>> (x3 &&& 31)) &&& 1) = 1 →
        mq_G mq_X10_timesPoly (4, [some (.int x0), some (.int x1), some (.int (x2 ^^^ 0)), some (.int (x3 + 1))], [], M) res) ∧
      (¬ (¬ ((x1 >>> (x3 &&& 31)) &&& 1) = 1) →
        mq_G mq_X10_timesPoly (4, [some (.int x0), some (.int x1), some (.int (x2 ^^^ (x0 <<< (x3 &&& 31)))), some (.int (x3 + 1))], [], M) res))))) :
    mq_G mq_X10_timesPoly (4, [some (.int x0), some (.int x1), some (.int x2), some (.int x3)], [], M) res := by
  refine mz_Go.steps (n := 3) (k2 := (if 16 ≤ x3 then 35 else 10, [some (.int x0), some (.int x1), some (.int x2), some (.int x3)], [], M)) (P := []) rfl mz_o0 ?_
  refine mz_Go.ite (fun c7 => ?_) (fun c7 => ?_)
  · replace h := h.1 c7
    refine mz_Go.steps (n := 1) (k2 := (36, [some (.int x0), some (.int x1), some (.int x2), some (.int x3)], [.int x2], M)) (P := []) rfl mz_o0 ?_
    rw [h]
    exact mz_Go.iret (rfl : mz_find 36 (mz_rows mq_X10_timesPoly) = some (36, .ireturn, 1, 0, 0, 0)) rfl
  · replace h := h.2 c7
    refine mz_Go.steps (n := 8) (k2 := (if ¬ ((x1 >>> (x3 &&& 31)) &&& 1) = 1 then 26 else 20, [some (.int x0), some (.int x1), some (.int x2), some (.int x3)], [.int x2], M)) (P := []) rfl mz_o0 ?_
    refine mz_Go.ite (fun c17 => ?_) (fun c17 => ?_)
    · replace h := h.1 c17
      refine mz_Go.steps (n := 5) (k2 := (4, [some (.int x0), some (.int x1), some (.int (x2 ^^^ 0)), some (.int (x3 + 1))], [], M)) (P := []) rfl mz_o0 ?_
      exact h
    · replace h := h.2 c17
      refine mz_Go.steps (n := 8) (k2 := (4, [some (.int x0), some (.int x1), some (.int (x2 ^^^ (x0 <<< (x3 &&& 31)))), some (.int (x3 + 1))], [], M)) (P := []) rfl mz_o0 ?_
      exact h
set_option maxRecDepth 100000 in
set_option maxHeartbeats 4000000 in
theorem t_X10_quotient_0 (x0 : Int32) (x1 : Int32) (M : mz_M) {res : mz_O} (h :
    (∃ (r1 : Int32), (mq_C mq_X10_degree [.int x1] M (some (.int r1), M)) ∧
    (∃ (r2 : Int32), (mq_C mq_X10_degree [.int x0] M (some (.int r2), M)) ∧
    mq_G mq_X10_quotient (16, [some (.int x0), some (.int x1), some (.int x0), some (.int 0), some (.int r1), some (.int r2)], [], M) res))) :
    mq_G mq_X10_quotient (0, [some (.int x0), some (.int x1), none, none, none, none], [], M) res := by
  refine mz_Go.steps (n := 5) (k2 := (5, [some (.int x0), some (.int x1), some (.int x0), some (.int 0), none, none], [.int x1], M)) (P := []) rfl mz_o0 ?_
  obtain ⟨r1, k1, h⟩ := h
  refine mz_Go.callS (As := [.int x1]) (rest := []) (rfl : mz_find 5 (mz_rows mq_X10_quotient) = some (5, .invokestatic 69, 3, 139, 0, 148)) (rfl : mz_nth mq_tab 139 = some mq_X10_degree) (by decide) rfl rfl rfl (Nat.le_of_ble_eq_true rfl) (Nat.le_of_ble_eq_true rfl) k1 ?_
  show mq_G mq_X10_quotient (8, [some (.int x0), some (.int x1), some (.int x0), some (.int 0), none, none], [.int r1], M) res
  refine mz_Go.steps (n := 2) (k2 := (11, [some (.int x0), some (.int x1), some (.int x0), some (.int 0), some (.int r1), none], [.int x0], M)) (P := []) rfl mz_o0 ?_
  obtain ⟨r2, k2, h⟩ := h
  refine mz_Go.callS (As := [.int x0]) (rest := []) (rfl : mz_find 11 (mz_rows mq_X10_quotient) = some (11, .invokestatic 69, 3, 139, 0, 148)) (rfl : mz_nth mq_tab 139 = some mq_X10_degree) (by decide) rfl rfl rfl (Nat.le_of_ble_eq_true rfl) (Nat.le_of_ble_eq_true rfl) k2 ?_
  show mq_G mq_X10_quotient (14, [some (.int x0), some (.int x1), some (.int x0), some (.int 0), some (.int r1), none], [.int r2], M) res
  refine mz_Go.steps (n := 1) (k2 := (16, [some (.int x0), some (.int x1), some (.int x0), some (.int 0), some (.int r1), some (.int r2)], [], M)) (P := []) rfl mz_o0 ?_
  exact h
set_option maxRecDepth 100000 in
set_option maxHeartbeats 4000000 in
theorem t_X10_quotient_16 (o0 : Option Value) (x1 : Int32) (x2 : Int32) (x3 : Int32) (x4 : Int32) (x5 : Int32) (M : mz_M) {res : mz_O} (h :
    ((x5 < x4 →
      res = (some (.int x3), M)) ∧
    (¬ (x5 < x4) →
      (∃ (r2 : Int32), (mq_C mq_X10_degree [.int (x2 ^^^ (x1 <<< ((x5 - x4) &&& 31)))] M (some (.int r2), M)) ∧
      mq_G mq_X10_quotient (16, [o0, some (.int x1), some (.int (x2 ^^^ (x1 <<< ((x5 - x4) &&& 31)))), some (.int (x3 ||| ((1 : Int32) <<< ((x5 - x4) &&& 31)))), some (.int x4), some (.int r2)], [], M) res)))) :
    mq_G mq_X10_quotient (16, [o0, some (.int x1), some (.int x2), some (.int x3), some (.int x4), some (.int x5)], [], M) res := by
  refine mz_Go.steps (n := 3) (k2 := (if x5 < x4 then 52 else 23, [o0, some (.int x1), some (.int x2), some (.int x3), some (.int x4), some (.int x5)], [], M)) (P := []) rfl mz_o0 ?_
  refine mz_Go.ite (fun c20 => ?_) (fun c20 => ?_)
  · replace h := h.1 c20
    refine mz_Go.steps (n := 1) (k2 := (53, [o0, some (.int x1), some (.int x2), some (.int x3), some (.int x4), some (.int x5)], [.int x3], M)) (P := []) rfl mz_o0 ?_
    rw [h]
    exact mz_Go.iret (rfl : mz_find 53 (mz_rows mq_X10_quotient) = some (53, .ireturn, 1, 0, 0, 0)) rfl
  · replace h := h.2 c20
    refine mz_Go.steps (n := 17) (k2 := (44, [o0, some (.int x1), some (.int (x2 ^^^ (x1 <<< ((x5 - x4) &&& 31)))), some (.int (x3 ||| ((1 : Int32) <<< ((x5 - x4) &&& 31)))), some (.int x4), some (.int x5)], [.int (x2 ^^^ (x1 <<< ((x5 - x4) &&& 31)))], M)) (P := []) rfl mz_o0 ?_
    obtain ⟨r2, k2, h⟩ := h
    refine mz_Go.callS (As := [.int (x2 ^^^ (x1 <<< ((x5 - x4) &&& 31)))]) (rest := []) (rfl : mz_find 44 (mz_rows mq_X10_quotient) = some (44, .invokestatic 69, 3, 139, 0, 148)) (rfl : mz_nth mq_tab 139 = some mq_X10_degree) (by decide) rfl rfl rfl (Nat.le_of_ble_eq_true rfl) (Nat.le_of_ble_eq_true rfl) k2 ?_
    show mq_G mq_X10_quotient (47, [o0, some (.int x1), some (.int (x2 ^^^ (x1 <<< ((x5 - x4) &&& 31)))), some (.int (x3 ||| ((1 : Int32) <<< ((x5 - x4) &&& 31)))), some (.int x4), some (.int x5)], [.int r2], M) res
    refine mz_Go.steps (n := 2) (k2 := (16, [o0, some (.int x1), some (.int (x2 ^^^ (x1 <<< ((x5 - x4) &&& 31)))), some (.int (x3 ||| ((1 : Int32) <<< ((x5 - x4) &&& 31)))), some (.int x4), some (.int r2)], [], M)) (P := []) rfl mz_o0 ?_
    exact h
set_option maxRecDepth 100000 in
set_option maxHeartbeats 4000000 in
theorem t_X10_leastFactor_0 (x0 : Int32) (M : mz_M) {res : mz_O} (h :
    mq_G mq_X10_leastFactor (2, [some (.int x0), some (.int 2)], [], M) res) :
    mq_G mq_X10_leastFactor (0, [some (.int x0), none], [], M) res := by
  refine mz_Go.steps (n := 2) (k2 := (2, [some (.int x0), some (.int 2)], [], M)) (P := []) rfl mz_o0 ?_
  exact h
set_option maxRecDepth 100000 in
set_option maxHeartbeats 4000000 in
theorem t_X10_leastFactor_2 (x0 : Int32) (x1 : Int32) (M : mz_M) {res : mz_O} (h :
    ((x0 ≤ x1 →
      res = (some (.int x0), M)) ∧
    (¬ (x0 ≤ x1) →
      (∃ (r2 : Int32), (mq_C mq_X10_modulo [.int x0, .int x1] M (some (.int r2), M)) ∧
      ((¬ r2 = 0 →
        mq_G mq_X10_leastFactor (2, [some (.int x0), some (.int (x1 + 1))], [], M) res) ∧
      (¬ (¬ r2 = 0) →
        res = (some (.int x1), M))))))) :
    mq_G mq_X10_leastFactor (2, [some (.int x0), some (.int x1)], [], M) res := by
  refine mz_Go.steps (n := 3) (k2 := (if x0 ≤ x1 then 23 else 7, [some (.int x0), some (.int x1)], [], M)) (P := []) rfl mz_o0 ?_
  refine mz_Go.ite (fun c4 => ?_) (fun c4 => ?_)
  · replace h := h.1 c4
    refine mz_Go.steps (n := 1) (k2 := (24, [some (.int x0), some (.int x1)], [.int x0], M)) (P := []) rfl mz_o0 ?_
    rw [h]
    exact mz_Go.iret (rfl : mz_find 24 (mz_rows mq_X10_leastFactor) = some (24, .ireturn, 1, 0, 0, 0)) rfl
  · replace h := h.2 c4
    refine mz_Go.steps (n := 2) (k2 := (9, [some (.int x0), some (.int x1)], [.int x1, .int x0], M)) (P := []) rfl mz_o0 ?_
    obtain ⟨r2, k2, h⟩ := h
    refine mz_Go.callS (As := [.int x0, .int x1]) (rest := []) (rfl : mz_find 9 (mz_rows mq_X10_leastFactor) = some (9, .invokestatic 73, 3, 140, 0, 149)) (rfl : mz_nth mq_tab 140 = some mq_X10_modulo) (by decide) rfl rfl rfl (Nat.le_of_ble_eq_true rfl) (Nat.le_of_ble_eq_true rfl) k2 ?_
    show mq_G mq_X10_leastFactor (12, [some (.int x0), some (.int x1)], [.int r2], M) res
    refine mz_Go.steps (n := 1) (k2 := (if ¬ r2 = 0 then 17 else 15, [some (.int x0), some (.int x1)], [], M)) (P := []) rfl mz_o0 ?_
    refine mz_Go.ite (fun c12 => ?_) (fun c12 => ?_)
    · replace h := h.1 c12
      refine mz_Go.steps (n := 2) (k2 := (2, [some (.int x0), some (.int (x1 + 1))], [], M)) (P := []) rfl mz_o0 ?_
      exact h
    · replace h := h.2 c12
      refine mz_Go.steps (n := 1) (k2 := (16, [some (.int x0), some (.int x1)], [.int x1], M)) (P := []) rfl mz_o0 ?_
      rw [h]
      exact mz_Go.iret (rfl : mz_find 16 (mz_rows mq_X10_leastFactor) = some (16, .ireturn, 1, 0, 0, 0)) rfl
set_option maxRecDepth 100000 in
set_option maxHeartbeats 4000000 in
theorem t_X10_isIrreducible_0 (x0 : Int32) (M : mz_M) {res : mz_O} (h :
    ((x0 ≤ 1 →
      res = (some (.int 0), M)) ∧
    (¬ (x0 ≤ 1) →
      (∃ (r2 : Int32), (mq_C mq_X10_leastFactor [.int x0] M (some (.int r2), M)) ∧
      ((¬ r2 = x0 →
        res = (some (.int 0), M)) ∧
      (¬ (¬ r2 = x0) →
        res = (some (.int 1), M))))))) :
    mq_G mq_X10_isIrreducible (0, [some (.int x0)], [], M) res := by
  refine mz_Go.steps (n := 3) (k2 := (if x0 ≤ 1 then 17 else 5, [some (.int x0)], [], M)) (P := []) rfl mz_o0 ?_
  refine mz_Go.ite (fun c2 => ?_) (fun c2 => ?_)
  · replace h := h.1 c2
    refine mz_Go.steps (n := 1) (k2 := (18, [some (.int x0)], [.int 0], M)) (P := []) rfl mz_o0 ?_
    rw [h]
    exact mz_Go.zret (rfl : mz_find 18 (mz_rows mq_X10_isIrreducible) = some (18, .ireturn, 1, 0, 0, 0)) rfl (Or.inl rfl)
  · replace h := h.2 c2
    refine mz_Go.steps (n := 1) (k2 := (6, [some (.int x0)], [.int x0], M)) (P := []) rfl mz_o0 ?_
    obtain ⟨r2, k2, h⟩ := h
    refine mz_Go.callS (As := [.int x0]) (rest := []) (rfl : mz_find 6 (mz_rows mq_X10_isIrreducible) = some (6, .invokestatic 77, 3, 143, 0, 150)) (rfl : mz_nth mq_tab 143 = some mq_X10_leastFactor) (by decide) rfl rfl rfl (Nat.le_of_ble_eq_true rfl) (Nat.le_of_ble_eq_true rfl) k2 ?_
    show mq_G mq_X10_isIrreducible (9, [some (.int x0)], [.int r2], M) res
    refine mz_Go.steps (n := 2) (k2 := (if ¬ r2 = x0 then 17 else 13, [some (.int x0)], [], M)) (P := []) rfl mz_o0 ?_
    refine mz_Go.ite (fun c10 => ?_) (fun c10 => ?_)
    · replace h := h.1 c10
      refine mz_Go.steps (n := 1) (k2 := (18, [some (.int x0)], [.int 0], M)) (P := []) rfl mz_o0 ?_
      rw [h]
      exact mz_Go.zret (rfl : mz_find 18 (mz_rows mq_X10_isIrreducible) = some (18, .ireturn, 1, 0, 0, 0)) rfl (Or.inl rfl)
    · replace h := h.2 c10
      refine mz_Go.steps (n := 2) (k2 := (18, [some (.int x0)], [.int 1], M)) (P := []) rfl mz_o0 ?_
      rw [h]
      exact mz_Go.zret (rfl : mz_find 18 (mz_rows mq_X10_isIrreducible) = some (18, .ireturn, 1, 0, 0, 0)) rfl (Or.inr rfl)
set_option maxRecDepth 100000 in
set_option maxHeartbeats 4000000 in
theorem t_X10_lays_0 (M : mz_M) {res : mz_O} (h :
    (vp_in 0 33) ∧
    (∃ (r2 : Int32), (mq_C mq_X10_degree [.int (M.1 78 (0 : Int32).toNatClampNeg)] M (some (.int r2), M)) ∧
    (∀ M3 : mz_M, M3 = mz_wr M 77 (upd (M.1 77) 11 r2) →
    (∀ M4 : mz_M, M4 = mz_wr M3 77 (upd (M3.1 77) 12 ((1 : Int32) <<< ((M3.1 77 11) &&& 31))) →
    res = (none, M4))))) :
    mq_G mq_X10_lays (0, [some (.ref 77)], [], M) res := by
  obtain ⟨q1, h⟩ := h
  refine mz_Go.steps (n := 5) (k2 := (7, [some (.ref 77)], [.int (M.1 78 (0 : Int32).toNatClampNeg), .ref 77], M)) (P := [vp_in 0 33]) rfl (mz_o1 q1) ?_
  obtain ⟨r2, k2, h⟩ := h
  refine mz_Go.callS (As := [.int (M.1 78 (0 : Int32).toNatClampNeg)]) (rest := [.ref 77]) (rfl : mz_find 7 (mz_rows mq_X10_lays) = some (7, .invokestatic 69, 3, 139, 0, 148)) (rfl : mz_nth mq_tab 139 = some mq_X10_degree) (by decide) rfl rfl rfl (Nat.le_of_ble_eq_true rfl) (Nat.le_of_ble_eq_true rfl) k2 ?_
  show mq_G mq_X10_lays (10, [some (.ref 77)], [.int r2, .ref 77], M) res
  obtain ⟨M3, e3⟩ : ∃ y, y = mz_wr M 77 (upd (M.1 77) 11 r2) := ⟨_, rfl⟩
  replace h := h M3 e3
  refine mz_Go.steps (n := 1) (k2 := (13, [some (.ref 77)], [], (mz_wr M 77 (upd (M.1 77) 11 r2)))) (P := []) rfl mz_o0 ?_
  rw [← e3]
  obtain ⟨M4, e4⟩ : ∃ y, y = mz_wr M3 77 (upd (M3.1 77) 12 ((1 : Int32) <<< ((M3.1 77 11) &&& 31))) := ⟨_, rfl⟩
  replace h := h M4 e4
  refine mz_Go.steps (n := 6) (k2 := (23, [some (.ref 77)], [], (mz_wr M3 77 (upd (M3.1 77) 12 ((1 : Int32) <<< ((M3.1 77 11) &&& 31)))))) (P := []) rfl mz_o0 ?_
  rw [← e4]
  rw [h]
  exact mz_Go.vret (rfl : mz_find 23 (mz_rows mq_X10_lays) = some (23, .return_, 1, 0, 0, 0)) rfl
set_option maxRecDepth 100000 in
set_option maxHeartbeats 4000000 in
theorem t_X10_fields_0 (x1 : Int32) (M : mz_M) {res : mz_O} (h :
    (vp_in 0 33) ∧
    (∀ M1 : mz_M, M1 = mz_wr M 78 (upd (M.1 78) (0 : Int32).toNatClampNeg x1) →
    mq_G mq_X10_fields (9, [some (.ref 77), some (.int x1), some (.int 0), none], [], M1) res)) :
    mq_G mq_X10_fields (0, [some (.ref 77), some (.int x1), none, none], [], M) res := by
  obtain ⟨q2, h⟩ := h
  obtain ⟨M1, e1⟩ : ∃ y, y = mz_wr M 78 (upd (M.1 78) (0 : Int32).toNatClampNeg x1) := ⟨_, rfl⟩
  replace h := h M1 e1
  refine mz_Go.steps (n := 5) (k2 := (7, [some (.ref 77), some (.int x1), none, none], [], (mz_wr M 78 (upd (M.1 78) (0 : Int32).toNatClampNeg x1)))) (P := [vp_in 0 33]) rfl (mz_o1 q2) ?_
  rw [← e1]
  refine mz_Go.steps (n := 2) (k2 := (9, [some (.ref 77), some (.int x1), some (.int 0), none], [], M1)) (P := []) rfl mz_o0 ?_
  exact h
set_option maxRecDepth 100000 in
set_option maxHeartbeats 4000000 in
theorem t_X10_fields_9 (x1 : Int32) (x2 : Int32) (o3 : Option Value) (M : mz_M) {res : mz_O} (h :
    ((4 ≤ x2 →
      (∃ (M2 : mz_M), (mq_C mq_X10_lays [.ref 77] M (none, M2)) ∧
      res = (none, M2))) ∧
    (¬ (4 ≤ x2) →
      mq_G mq_X10_fields (16, [some (.ref 77), some (.int x1), some (.int x2), some (.int 0)], [], M) res))) :
    mq_G mq_X10_fields (9, [some (.ref 77), some (.int x1), some (.int x2), o3], [], M) res := by
  refine mz_Go.steps (n := 3) (k2 := (if 4 ≤ x2 then 62 else 14, [some (.ref 77), some (.int x1), some (.int x2), o3], [], M)) (P := []) rfl mz_o0 ?_
  refine mz_Go.ite (fun c11 => ?_) (fun c11 => ?_)
  · replace h := h.1 c11
    refine mz_Go.steps (n := 1) (k2 := (63, [some (.ref 77), some (.int x1), some (.int x2), o3], [.ref 77], M)) (P := []) rfl mz_o0 ?_
    obtain ⟨M2, k2, h⟩ := h
    refine mz_Go.callV (As := []) (rest := []) (rfl : mz_find 63 (mz_rows mq_X10_fields) = some (63, .invokevirtual 86, 3, 145, 0, 154)) (rfl : mz_nth mq_tab 145 = some mq_X10_lays) rfl rfl rfl rfl (Nat.le_of_ble_eq_true rfl) (Nat.le_of_ble_eq_true rfl) k2 ?_
    show mq_G mq_X10_fields (66, [some (.ref 77), some (.int x1), some (.int x2), o3], [], M2) res
    rw [h]
    exact mz_Go.vret (rfl : mz_find 66 (mz_rows mq_X10_fields) = some (66, .return_, 1, 0, 0, 0)) rfl
  · replace h := h.2 c11
    refine mz_Go.steps (n := 2) (k2 := (16, [some (.ref 77), some (.int x1), some (.int x2), some (.int 0)], [], M)) (P := []) rfl mz_o0 ?_
    exact h
set_option maxRecDepth 100000 in
set_option maxHeartbeats 4000000 in
theorem t_X10_fields_16 (x1 : Int32) (x2 : Int32) (x3 : Int32) (M : mz_M) {res : mz_O} (h :
    ((8 ≤ x3 →
      mq_G mq_X10_fields (9, [some (.ref 77), some (.int x1), some (.int (x2 + 1)), some (.int x3)], [], M) res) ∧
    (¬ (8 ≤ x3) →
      (∃ (r2 : Int32), (mq_C mq_X10_degree [.int x1] M (some (.int r2), M)) ∧
      ((r2 ≤ x3 →
        (vp_in ((1 + (8 * x2)) + x3) 33) ∧
        (∀ M4 : mz_M, M4 = mz_wr M 78 (upd (M.1 78) ((1 + (8 * x2)) + x3).toNatClampNeg 0) →
        mq_G mq_X10_fields (16, [some (.ref 77), some (.int x1), some (.int x2), some (.int (x3 + 1))], [], M4) res)) ∧
      (¬ (r2 ≤ x3) →
        (vp_in ((1 + (8 * x2)) + x3) 33) ∧
        (∀ M6 : mz_M, M6 = mz_wr M 78 (upd (M.1 78) ((1 + (8 * x2)) + x3).toNatClampNeg ((1 : Int32) <<< (x3 &&& 31))) →
        mq_G mq_X10_fields (16, [some (.ref 77), some (.int x1), some (.int x2), some (.int (x3 + 1))], [], M6) res))))))) :
    mq_G mq_X10_fields (16, [some (.ref 77), some (.int x1), some (.int x2), some (.int x3)], [], M) res := by
  refine mz_Go.steps (n := 3) (k2 := (if 8 ≤ x3 then 56 else 22, [some (.ref 77), some (.int x1), some (.int x2), some (.int x3)], [], M)) (P := []) rfl mz_o0 ?_
  refine mz_Go.ite (fun c19 => ?_) (fun c19 => ?_)
  · replace h := h.1 c19
    refine mz_Go.steps (n := 2) (k2 := (9, [some (.ref 77), some (.int x1), some (.int (x2 + 1)), some (.int x3)], [], M)) (P := []) rfl mz_o0 ?_
    exact h
  · replace h := h.2 c19
    refine mz_Go.steps (n := 11) (k2 := (36, [some (.ref 77), some (.int x1), some (.int x2), some (.int x3)], [.int x1, .int x3, .int ((1 + (8 * x2)) + x3), .ref 78], M)) (P := []) rfl mz_o0 ?_
    obtain ⟨r2, k2, h⟩ := h
    refine mz_Go.callS (As := [.int x1]) (rest := [.int x3, .int ((1 + (8 * x2)) + x3), .ref 78]) (rfl : mz_find 36 (mz_rows mq_X10_fields) = some (36, .invokestatic 69, 3, 139, 0, 148)) (rfl : mz_nth mq_tab 139 = some mq_X10_degree) (by decide) rfl rfl rfl (Nat.le_of_ble_eq_true rfl) (Nat.le_of_ble_eq_true rfl) k2 ?_
    show mq_G mq_X10_fields (39, [some (.ref 77), some (.int x1), some (.int x2), some (.int x3)], [.int r2, .int x3, .int ((1 + (8 * x2)) + x3), .ref 78], M) res
    refine mz_Go.steps (n := 1) (k2 := (if r2 ≤ x3 then 48 else 42, [some (.ref 77), some (.int x1), some (.int x2), some (.int x3)], [.int ((1 + (8 * x2)) + x3), .ref 78], M)) (P := []) rfl mz_o0 ?_
    refine mz_Go.ite (fun c39 => ?_) (fun c39 => ?_)
    · replace h := h.1 c39
      obtain ⟨q5, h⟩ := h
      obtain ⟨M4, e4⟩ : ∃ y, y = mz_wr M 78 (upd (M.1 78) ((1 + (8 * x2)) + x3).toNatClampNeg 0) := ⟨_, rfl⟩
      replace h := h M4 e4
      refine mz_Go.steps (n := 2) (k2 := (50, [some (.ref 77), some (.int x1), some (.int x2), some (.int x3)], [], (mz_wr M 78 (upd (M.1 78) ((1 + (8 * x2)) + x3).toNatClampNeg 0)))) (P := [vp_in ((1 + (8 * x2)) + x3) 33]) rfl (mz_o1 q5) ?_
      rw [← e4]
      refine mz_Go.steps (n := 2) (k2 := (16, [some (.ref 77), some (.int x1), some (.int x2), some (.int (x3 + 1))], [], M4)) (P := []) rfl mz_o0 ?_
      exact h
    · replace h := h.2 c39
      obtain ⟨q7, h⟩ := h
      obtain ⟨M6, e6⟩ : ∃ y, y = mz_wr M 78 (upd (M.1 78) ((1 + (8 * x2)) + x3).toNatClampNeg ((1 : Int32) <<< (x3 &&& 31))) := ⟨_, rfl⟩
      replace h := h M6 e6
      refine mz_Go.steps (n := 5) (k2 := (50, [some (.ref 77), some (.int x1), some (.int x2), some (.int x3)], [], (mz_wr M 78 (upd (M.1 78) ((1 + (8 * x2)) + x3).toNatClampNeg ((1 : Int32) <<< (x3 &&& 31)))))) (P := [vp_in ((1 + (8 * x2)) + x3) 33]) rfl (mz_o1 q7) ?_
      rw [← e6]
      refine mz_Go.steps (n := 2) (k2 := (16, [some (.ref 77), some (.int x1), some (.int x2), some (.int (x3 + 1))], [], M6)) (P := []) rfl mz_o0 ?_
      exact h
set_option maxRecDepth 100000 in
set_option maxHeartbeats 4000000 in
theorem t_X10_times_0 (x1 : Int32) (x2 : Int32) (M : mz_M) {res : mz_O} (h :
    (∃ (r1 : Int32), (mq_C mq_X10_timesPoly [.int x1, .int x2] M (some (.int r1), M)) ∧
    (vp_in 0 33) ∧
    (∃ (r3 : Int32), (mq_C mq_X10_modulo [.int r1, .int (M.1 78 (0 : Int32).toNatClampNeg)] M (some (.int r3), M)) ∧
    res = (some (.int r3), M)))) :
    mq_G mq_X10_times (0, [some (.ref 77), some (.int x1), some (.int x2)], [], M) res := by
  refine mz_Go.steps (n := 2) (k2 := (2, [some (.ref 77), some (.int x1), some (.int x2)], [.int x2, .int x1], M)) (P := []) rfl mz_o0 ?_
  obtain ⟨r1, k1, h⟩ := h
  refine mz_Go.callS (As := [.int x1, .int x2]) (rest := []) (rfl : mz_find 2 (mz_rows mq_X10_times) = some (2, .invokestatic 89, 3, 141, 0, 155)) (rfl : mz_nth mq_tab 141 = some mq_X10_timesPoly) (by decide) rfl rfl rfl (Nat.le_of_ble_eq_true rfl) (Nat.le_of_ble_eq_true rfl) k1 ?_
  show mq_G mq_X10_times (5, [some (.ref 77), some (.int x1), some (.int x2)], [.int r1], M) res
  obtain ⟨q2, h⟩ := h
  refine mz_Go.steps (n := 4) (k2 := (11, [some (.ref 77), some (.int x1), some (.int x2)], [.int (M.1 78 (0 : Int32).toNatClampNeg), .int r1], M)) (P := [vp_in 0 33]) rfl (mz_o1 q2) ?_
  obtain ⟨r3, k3, h⟩ := h
  refine mz_Go.callS (As := [.int r1, .int (M.1 78 (0 : Int32).toNatClampNeg)]) (rest := []) (rfl : mz_find 11 (mz_rows mq_X10_times) = some (11, .invokestatic 73, 3, 140, 0, 149)) (rfl : mz_nth mq_tab 140 = some mq_X10_modulo) (by decide) rfl rfl rfl (Nat.le_of_ble_eq_true rfl) (Nat.le_of_ble_eq_true rfl) k3 ?_
  show mq_G mq_X10_times (14, [some (.ref 77), some (.int x1), some (.int x2)], [.int r3], M) res
  rw [h]
  exact mz_Go.iret (rfl : mz_find 14 (mz_rows mq_X10_times) = some (14, .ireturn, 1, 0, 0, 0)) rfl
set_option maxRecDepth 100000 in
set_option maxHeartbeats 4000000 in
theorem t_X10_conj_0 (x1 : Int32) (x2 : Int32) (M : mz_M) {res : mz_O} (h :
    mq_G mq_X10_conj (5, [some (.ref 77), some (.int x1), some (.int x2), some (.int x1), some (.int 0)], [], M) res) :
    mq_G mq_X10_conj (0, [some (.ref 77), some (.int x1), some (.int x2), none, none], [], M) res := by
  refine mz_Go.steps (n := 4) (k2 := (5, [some (.ref 77), some (.int x1), some (.int x2), some (.int x1), some (.int 0)], [], M)) (P := []) rfl mz_o0 ?_
  exact h
set_option maxRecDepth 100000 in
set_option maxHeartbeats 4000000 in
theorem t_X10_conj_5 (o1 : Option Value) (x2 : Int32) (x3 : Int32) (x4 : Int32) (M : mz_M) {res : mz_O} (h :
    ((x2 ≤ x4 →
      res = (some (.int x3), M)) ∧
    (¬ (x2 ≤ x4) →
      (∃ (r2 : Int32), (mq_C mq_X10_times [.ref 77, .int x3, .int x3] M (some (.int r2), M)) ∧
      mq_G mq_X10_conj (5, [some (.ref 77), o1, some (.int x2), some (.int r2), some (.int (x4 + 1))], [], M) res)))) :
    mq_G mq_X10_conj (5, [some (.ref 77), o1, some (.int x2), some (.int x3), some (.int x4)], [], M) res := by
  refine mz_Go.steps (n := 3) (k2 := (if x2 ≤ x4 then 24 else 11, [some (.ref 77), o1, some (.int x2), some (.int x3), some (.int x4)], [], M)) (P := []) rfl mz_o0 ?_
  refine mz_Go.ite (fun c8 => ?_) (fun c8 => ?_)
  · replace h := h.1 c8
    refine mz_Go.steps (n := 1) (k2 := (25, [some (.ref 77), o1, some (.int x2), some (.int x3), some (.int x4)], [.int x3], M)) (P := []) rfl mz_o0 ?_
    rw [h]
    exact mz_Go.iret (rfl : mz_find 25 (mz_rows mq_X10_conj) = some (25, .ireturn, 1, 0, 0, 0)) rfl
  · replace h := h.2 c8
    refine mz_Go.steps (n := 3) (k2 := (14, [some (.ref 77), o1, some (.int x2), some (.int x3), some (.int x4)], [.int x3, .int x3, .ref 77], M)) (P := []) rfl mz_o0 ?_
    obtain ⟨r2, k2, h⟩ := h
    refine mz_Go.callV (As := [.int x3, .int x3]) (rest := []) (rfl : mz_find 14 (mz_rows mq_X10_conj) = some (14, .invokevirtual 92, 3, 147, 0, 156)) (rfl : mz_nth mq_tab 147 = some mq_X10_times) rfl rfl rfl rfl (Nat.le_of_ble_eq_true rfl) (Nat.le_of_ble_eq_true rfl) k2 ?_
    show mq_G mq_X10_conj (17, [some (.ref 77), o1, some (.int x2), some (.int x3), some (.int x4)], [.int r2], M) res
    refine mz_Go.steps (n := 3) (k2 := (5, [some (.ref 77), o1, some (.int x2), some (.int r2), some (.int (x4 + 1))], [], M)) (P := []) rfl mz_o0 ?_
    exact h
set_option maxRecDepth 100000 in
set_option maxHeartbeats 4000000 in
theorem t_X10_powered_0 (x1 : Int32) (x2 : Int32) (M : mz_M) {res : mz_O} (h :
    mq_G mq_X10_powered (8, [some (.ref 77), some (.int x1), some (.int x2), some (.int 1), some (.int x1), some (.int x2)], [], M) res) :
    mq_G mq_X10_powered (0, [some (.ref 77), some (.int x1), some (.int x2), none, none, none], [], M) res := by
  refine mz_Go.steps (n := 6) (k2 := (8, [some (.ref 77), some (.int x1), some (.int x2), some (.int 1), some (.int x1), some (.int x2)], [], M)) (P := []) rfl mz_o0 ?_
  exact h
set_option maxRecDepth 100000 in
set_option maxHeartbeats 4000000 in
theorem t_X10_powered_8 (o1 : Option Value) (o2 : Option Value) (x3 : Int32) (x4 : Int32) (x5 : Int32) (M : mz_M) {res : mz_O} (h :
    ((x5 ≤ 0 →
      res = (some (.int x3), M)) ∧
    (¬ (x5 ≤ 0) →
      ((¬ (x5 &&& 1) = 1 →
        (∃ (r3 : Int32), (mq_C mq_X10_times [.ref 77, .int x4, .int x4] M (some (.int r3), M)) ∧
        mq_G mq_X10_powered (8, [some (.ref 77), o1, (mz_nw o2), some (.int x3), some (.int r3), some (.int (x5 >>> (1 &&& 31)))], [], M) res)) ∧
      (¬ (¬ (x5 &&& 1) = 1) →
        (∃ (r4 : Int32), (mq_C mq_X10_times [.ref 77, .int x3, .int x4] M (some (.int r4), M)) ∧
        (∃ (r5 : Int32), (mq_C mq_X10_times [.ref 77, .int x4, .int x4] M (some (.int r5), M)) ∧
        mq_G mq_X10_powered (8, [some (.ref 77), o1, (mz_nw o2), some (.int r4), some (.int r5), some (.int (x5 >>> (1 &&& 31)))], [], M) res))))))) :
    mq_G mq_X10_powered (8, [some (.ref 77), o1, o2, some (.int x3), some (.int x4), some (.int x5)], [], M) res := by
  refine mz_Go.steps (n := 2) (k2 := (if x5 ≤ 0 then 52 else 13, [some (.ref 77), o1, o2, some (.int x3), some (.int x4), some (.int x5)], [], M)) (P := []) rfl mz_o0 ?_
  refine mz_Go.ite (fun c10 => ?_) (fun c10 => ?_)
  · replace h := h.1 c10
    refine mz_Go.steps (n := 1) (k2 := (53, [some (.ref 77), o1, o2, some (.int x3), some (.int x4), some (.int x5)], [.int x3], M)) (P := []) rfl mz_o0 ?_
    rw [h]
    exact mz_Go.iret (rfl : mz_find 53 (mz_rows mq_X10_powered) = some (53, .ireturn, 1, 0, 0, 0)) rfl
  · replace h := h.2 c10
    refine mz_Go.steps (n := 5) (k2 := (if ¬ (x5 &&& 1) = 1 then 31 else 21, [some (.ref 77), o1, o2, some (.int x3), some (.int x4), some (.int x5)], [], M)) (P := []) rfl mz_o0 ?_
    refine mz_Go.ite (fun c18 => ?_) (fun c18 => ?_)
    · replace h := h.1 c18
      refine mz_Go.steps (n := 5) (k2 := (38, [some (.ref 77), o1, (mz_nw o2), some (.int x3), some (.int x4), some (.int x5)], [.int x4, .int x4, .ref 77], M)) (P := []) rfl mz_o0 ?_
      obtain ⟨r3, k3, h⟩ := h
      refine mz_Go.callV (As := [.int x4, .int x4]) (rest := []) (rfl : mz_find 38 (mz_rows mq_X10_powered) = some (38, .invokevirtual 92, 3, 147, 0, 156)) (rfl : mz_nth mq_tab 147 = some mq_X10_times) rfl rfl rfl rfl (Nat.le_of_ble_eq_true rfl) (Nat.le_of_ble_eq_true rfl) k3 ?_
      show mq_G mq_X10_powered (41, [some (.ref 77), o1, (mz_nw o2), some (.int x3), some (.int x4), some (.int x5)], [.int r3], M) res
      refine mz_Go.steps (n := 6) (k2 := (8, [some (.ref 77), o1, (mz_nw o2), some (.int x3), some (.int r3), some (.int (x5 >>> (1 &&& 31)))], [], M)) (P := []) rfl mz_o0 ?_
      exact h
    · replace h := h.2 c18
      refine mz_Go.steps (n := 3) (k2 := (25, [some (.ref 77), o1, o2, some (.int x3), some (.int x4), some (.int x5)], [.int x4, .int x3, .ref 77], M)) (P := []) rfl mz_o0 ?_
      obtain ⟨r4, k4, h⟩ := h
      refine mz_Go.callV (As := [.int x3, .int x4]) (rest := []) (rfl : mz_find 25 (mz_rows mq_X10_powered) = some (25, .invokevirtual 92, 3, 147, 0, 156)) (rfl : mz_nth mq_tab 147 = some mq_X10_times) rfl rfl rfl rfl (Nat.le_of_ble_eq_true rfl) (Nat.le_of_ble_eq_true rfl) k4 ?_
      show mq_G mq_X10_powered (28, [some (.ref 77), o1, o2, some (.int x3), some (.int x4), some (.int x5)], [.int r4], M) res
      refine mz_Go.steps (n := 5) (k2 := (38, [some (.ref 77), o1, (mz_nw o2), some (.int r4), some (.int x4), some (.int x5)], [.int x4, .int x4, .ref 77], M)) (P := []) rfl mz_o0 ?_
      obtain ⟨r5, k5, h⟩ := h
      refine mz_Go.callV (As := [.int x4, .int x4]) (rest := []) (rfl : mz_find 38 (mz_rows mq_X10_powered) = some (38, .invokevirtual 92, 3, 147, 0, 156)) (rfl : mz_nth mq_tab 147 = some mq_X10_times) rfl rfl rfl rfl (Nat.le_of_ble_eq_true rfl) (Nat.le_of_ble_eq_true rfl) k5 ?_
      show mq_G mq_X10_powered (41, [some (.ref 77), o1, (mz_nw o2), some (.int r4), some (.int x4), some (.int x5)], [.int r5], M) res
      refine mz_Go.steps (n := 6) (k2 := (8, [some (.ref 77), o1, (mz_nw o2), some (.int r4), some (.int r5), some (.int (x5 >>> (1 &&& 31)))], [], M)) (P := []) rfl mz_o0 ?_
      exact h
set_option maxRecDepth 100000 in
set_option maxHeartbeats 4000000 in
theorem t_X10_inverseOf_0 (x1 : Int32) (M : mz_M) {res : mz_O} (h :
    (∃ (r1 : Int32), (mq_C mq_X10_powered [.ref 77, .int x1, .int ((M.1 77 12) - 2)] M (some (.int r1), M)) ∧
    res = (some (.int r1), M))) :
    mq_G mq_X10_inverseOf (0, [some (.ref 77), some (.int x1)], [], M) res := by
  refine mz_Go.steps (n := 6) (k2 := (8, [some (.ref 77), some (.int x1)], [.int ((M.1 77 12) - 2), .int x1, .ref 77], M)) (P := []) rfl mz_o0 ?_
  obtain ⟨r1, k1, h⟩ := h
  refine mz_Go.callV (As := [.int x1, .int ((M.1 77 12) - 2)]) (rest := []) (rfl : mz_find 8 (mz_rows mq_X10_inverseOf) = some (8, .invokevirtual 95, 3, 149, 0, 157)) (rfl : mz_nth mq_tab 149 = some mq_X10_powered) rfl rfl rfl rfl (Nat.le_of_ble_eq_true rfl) (Nat.le_of_ble_eq_true rfl) k1 ?_
  show mq_G mq_X10_inverseOf (11, [some (.ref 77), some (.int x1)], [.int r1], M) res
  rw [h]
  exact mz_Go.iret (rfl : mz_find 11 (mz_rows mq_X10_inverseOf) = some (11, .ireturn, 1, 0, 0, 0)) rfl
set_option maxRecDepth 100000 in
set_option maxHeartbeats 4000000 in
theorem t_X10_sizeOf_0 (x1 : Int32) (M : mz_M) {res : mz_O} (h :
    mq_G mq_X10_sizeOf (2, [some (.ref 77), some (.int x1), some (.int 1)], [], M) res) :
    mq_G mq_X10_sizeOf (0, [some (.ref 77), some (.int x1), none], [], M) res := by
  refine mz_Go.steps (n := 2) (k2 := (2, [some (.ref 77), some (.int x1), some (.int 1)], [], M)) (P := []) rfl mz_o0 ?_
  exact h
set_option maxRecDepth 100000 in
set_option maxHeartbeats 4000000 in
theorem t_X10_sizeOf_2 (x1 : Int32) (x2 : Int32) (M : mz_M) {res : mz_O} (h :
    (∃ (r1 : Int32), (mq_C mq_X10_conj [.ref 77, .int x1, .int x2] M (some (.int r1), M)) ∧
    ((r1 = x1 →
      res = (some (.int x2), M)) ∧
    (¬ (r1 = x1) →
      mq_G mq_X10_sizeOf (2, [some (.ref 77), some (.int x1), some (.int (x2 + 1))], [], M) res)))) :
    mq_G mq_X10_sizeOf (2, [some (.ref 77), some (.int x1), some (.int x2)], [], M) res := by
  refine mz_Go.steps (n := 3) (k2 := (5, [some (.ref 77), some (.int x1), some (.int x2)], [.int x2, .int x1, .ref 77], M)) (P := []) rfl mz_o0 ?_
  obtain ⟨r1, k1, h⟩ := h
  refine mz_Go.callV (As := [.int x1, .int x2]) (rest := []) (rfl : mz_find 5 (mz_rows mq_X10_sizeOf) = some (5, .invokevirtual 98, 3, 148, 0, 158)) (rfl : mz_nth mq_tab 148 = some mq_X10_conj) rfl rfl rfl rfl (Nat.le_of_ble_eq_true rfl) (Nat.le_of_ble_eq_true rfl) k1 ?_
  show mq_G mq_X10_sizeOf (8, [some (.ref 77), some (.int x1), some (.int x2)], [.int r1], M) res
  refine mz_Go.steps (n := 2) (k2 := (if r1 = x1 then 18 else 12, [some (.ref 77), some (.int x1), some (.int x2)], [], M)) (P := []) rfl mz_o0 ?_
  refine mz_Go.ite (fun c9 => ?_) (fun c9 => ?_)
  · replace h := h.1 c9
    refine mz_Go.steps (n := 1) (k2 := (19, [some (.ref 77), some (.int x1), some (.int x2)], [.int x2], M)) (P := []) rfl mz_o0 ?_
    rw [h]
    exact mz_Go.iret (rfl : mz_find 19 (mz_rows mq_X10_sizeOf) = some (19, .ireturn, 1, 0, 0, 0)) rfl
  · replace h := h.2 c9
    refine mz_Go.steps (n := 2) (k2 := (2, [some (.ref 77), some (.int x1), some (.int (x2 + 1))], [], M)) (P := []) rfl mz_o0 ?_
    exact h
set_option maxRecDepth 100000 in
set_option maxHeartbeats 4000000 in
theorem t_X10_orderOf_0 (x1 : Int32) (M : mz_M) {res : mz_O} (h :
    mq_G mq_X10_orderOf (4, [some (.ref 77), some (.int x1), some (.int 1), some (.int x1)], [], M) res) :
    mq_G mq_X10_orderOf (0, [some (.ref 77), some (.int x1), none, none], [], M) res := by
  refine mz_Go.steps (n := 4) (k2 := (4, [some (.ref 77), some (.int x1), some (.int 1), some (.int x1)], [], M)) (P := []) rfl mz_o0 ?_
  exact h
set_option maxRecDepth 100000 in
set_option maxHeartbeats 4000000 in
theorem t_X10_orderOf_4 (x1 : Int32) (x2 : Int32) (x3 : Int32) (M : mz_M) {res : mz_O} (h :
    ((x3 = 1 →
      res = (some (.int x2), M)) ∧
    (¬ (x3 = 1) →
      (∃ (r2 : Int32), (mq_C mq_X10_times [.ref 77, .int x3, .int x1] M (some (.int r2), M)) ∧
      mq_G mq_X10_orderOf (4, [some (.ref 77), some (.int x1), some (.int (x2 + 1)), some (.int r2)], [], M) res)))) :
    mq_G mq_X10_orderOf (4, [some (.ref 77), some (.int x1), some (.int x2), some (.int x3)], [], M) res := by
  refine mz_Go.steps (n := 3) (k2 := (if x3 = 1 then 22 else 9, [some (.ref 77), some (.int x1), some (.int x2), some (.int x3)], [], M)) (P := []) rfl mz_o0 ?_
  refine mz_Go.ite (fun c6 => ?_) (fun c6 => ?_)
  · replace h := h.1 c6
    refine mz_Go.steps (n := 1) (k2 := (23, [some (.ref 77), some (.int x1), some (.int x2), some (.int x3)], [.int x2], M)) (P := []) rfl mz_o0 ?_
    rw [h]
    exact mz_Go.iret (rfl : mz_find 23 (mz_rows mq_X10_orderOf) = some (23, .ireturn, 1, 0, 0, 0)) rfl
  · replace h := h.2 c6
    refine mz_Go.steps (n := 4) (k2 := (15, [some (.ref 77), some (.int x1), some (.int (x2 + 1)), some (.int x3)], [.int x1, .int x3, .ref 77], M)) (P := []) rfl mz_o0 ?_
    obtain ⟨r2, k2, h⟩ := h
    refine mz_Go.callV (As := [.int x3, .int x1]) (rest := []) (rfl : mz_find 15 (mz_rows mq_X10_orderOf) = some (15, .invokevirtual 92, 3, 147, 0, 156)) (rfl : mz_nth mq_tab 147 = some mq_X10_times) rfl rfl rfl rfl (Nat.le_of_ble_eq_true rfl) (Nat.le_of_ble_eq_true rfl) k2 ?_
    show mq_G mq_X10_orderOf (18, [some (.ref 77), some (.int x1), some (.int (x2 + 1)), some (.int x3)], [.int r2], M) res
    refine mz_Go.steps (n := 2) (k2 := (4, [some (.ref 77), some (.int x1), some (.int (x2 + 1)), some (.int r2)], [], M)) (P := []) rfl mz_o0 ?_
    exact h
set_option maxRecDepth 100000 in
set_option maxHeartbeats 4000000 in
theorem t_X10_isGenerator_0 (x1 : Int32) (M : mz_M) {res : mz_O} (h :
    ((x1 ≤ 0 →
      res = (some (.int 0), M)) ∧
    (¬ (x1 ≤ 0) →
      (∃ (r2 : Int32), (mq_C mq_X10_orderOf [.ref 77, .int x1] M (some (.int r2), M)) ∧
      ((¬ r2 = ((M.1 77 12) - 1) →
        res = (some (.int 0), M)) ∧
      (¬ (¬ r2 = ((M.1 77 12) - 1)) →
        res = (some (.int 1), M))))))) :
    mq_G mq_X10_isGenerator (0, [some (.ref 77), some (.int x1)], [], M) res := by
  refine mz_Go.steps (n := 2) (k2 := (if x1 ≤ 0 then 22 else 4, [some (.ref 77), some (.int x1)], [], M)) (P := []) rfl mz_o0 ?_
  refine mz_Go.ite (fun c1 => ?_) (fun c1 => ?_)
  · replace h := h.1 c1
    refine mz_Go.steps (n := 1) (k2 := (23, [some (.ref 77), some (.int x1)], [.int 0], M)) (P := []) rfl mz_o0 ?_
    rw [h]
    exact mz_Go.zret (rfl : mz_find 23 (mz_rows mq_X10_isGenerator) = some (23, .ireturn, 1, 0, 0, 0)) rfl (Or.inl rfl)
  · replace h := h.2 c1
    refine mz_Go.steps (n := 2) (k2 := (6, [some (.ref 77), some (.int x1)], [.int x1, .ref 77], M)) (P := []) rfl mz_o0 ?_
    obtain ⟨r2, k2, h⟩ := h
    refine mz_Go.callV (As := [.int x1]) (rest := []) (rfl : mz_find 6 (mz_rows mq_X10_isGenerator) = some (6, .invokevirtual 101, 3, 152, 0, 159)) (rfl : mz_nth mq_tab 152 = some mq_X10_orderOf) rfl rfl rfl rfl (Nat.le_of_ble_eq_true rfl) (Nat.le_of_ble_eq_true rfl) k2 ?_
    show mq_G mq_X10_isGenerator (9, [some (.ref 77), some (.int x1)], [.int r2], M) res
    refine mz_Go.steps (n := 5) (k2 := (if ¬ r2 = ((M.1 77 12) - 1) then 22 else 18, [some (.ref 77), some (.int x1)], [], M)) (P := []) rfl mz_o0 ?_
    refine mz_Go.ite (fun c15 => ?_) (fun c15 => ?_)
    · replace h := h.1 c15
      refine mz_Go.steps (n := 1) (k2 := (23, [some (.ref 77), some (.int x1)], [.int 0], M)) (P := []) rfl mz_o0 ?_
      rw [h]
      exact mz_Go.zret (rfl : mz_find 23 (mz_rows mq_X10_isGenerator) = some (23, .ireturn, 1, 0, 0, 0)) rfl (Or.inl rfl)
    · replace h := h.2 c15
      refine mz_Go.steps (n := 2) (k2 := (23, [some (.ref 77), some (.int x1)], [.int 1], M)) (P := []) rfl mz_o0 ?_
      rw [h]
      exact mz_Go.zret (rfl : mz_find 23 (mz_rows mq_X10_isGenerator) = some (23, .ireturn, 1, 0, 0, 0)) rfl (Or.inr rfl)
set_option maxRecDepth 100000 in
set_option maxHeartbeats 4000000 in
theorem t_X10_traceTo_0 (x1 : Int32) (x2 : Int32) (M : mz_M) {res : mz_O} (h :
    mq_G mq_X10_traceTo (5, [some (.ref 77), some (.int x1), some (.int x2), some (.int 0), some (.int 0)], [], M) res) :
    mq_G mq_X10_traceTo (0, [some (.ref 77), some (.int x1), some (.int x2), none, none], [], M) res := by
  refine mz_Go.steps (n := 4) (k2 := (5, [some (.ref 77), some (.int x1), some (.int x2), some (.int 0), some (.int 0)], [], M)) (P := []) rfl mz_o0 ?_
  exact h
set_option maxRecDepth 100000 in
set_option maxHeartbeats 4000000 in
theorem t_X10_traceTo_5 (x1 : Int32) (x2 : Int32) (x3 : Int32) (x4 : Int32) (M : mz_M) {res : mz_O} (h :
    (((M.1 77 11) ≤ x4 →
      res = (some (.int x3), M)) ∧
    (¬ ((M.1 77 11) ≤ x4) →
      (∃ (r2 : Int32), (mq_C mq_X10_conj [.ref 77, .int x1, .int x4] M (some (.int r2), M)) ∧
      mq_G mq_X10_traceTo (5, [some (.ref 77), some (.int x1), some (.int x2), some (.int (x3 ^^^ r2)), some (.int (x4 + x2))], [], M) res)))) :
    mq_G mq_X10_traceTo (5, [some (.ref 77), some (.int x1), some (.int x2), some (.int x3), some (.int x4)], [], M) res := by
  refine mz_Go.steps (n := 4) (k2 := (if (M.1 77 11) ≤ x4 then 33 else 14, [some (.ref 77), some (.int x1), some (.int x2), some (.int x3), some (.int x4)], [], M)) (P := []) rfl mz_o0 ?_
  refine mz_Go.ite (fun c11 => ?_) (fun c11 => ?_)
  · replace h := h.1 c11
    refine mz_Go.steps (n := 1) (k2 := (34, [some (.ref 77), some (.int x1), some (.int x2), some (.int x3), some (.int x4)], [.int x3], M)) (P := []) rfl mz_o0 ?_
    rw [h]
    exact mz_Go.iret (rfl : mz_find 34 (mz_rows mq_X10_traceTo) = some (34, .ireturn, 1, 0, 0, 0)) rfl
  · replace h := h.2 c11
    refine mz_Go.steps (n := 4) (k2 := (19, [some (.ref 77), some (.int x1), some (.int x2), some (.int x3), some (.int x4)], [.int x4, .int x1, .ref 77, .int x3], M)) (P := []) rfl mz_o0 ?_
    obtain ⟨r2, k2, h⟩ := h
    refine mz_Go.callV (As := [.int x1, .int x4]) (rest := [.int x3]) (rfl : mz_find 19 (mz_rows mq_X10_traceTo) = some (19, .invokevirtual 98, 3, 148, 0, 158)) (rfl : mz_nth mq_tab 148 = some mq_X10_conj) rfl rfl rfl rfl (Nat.le_of_ble_eq_true rfl) (Nat.le_of_ble_eq_true rfl) k2 ?_
    show mq_G mq_X10_traceTo (22, [some (.ref 77), some (.int x1), some (.int x2), some (.int x3), some (.int x4)], [.int r2, .int x3], M) res
    refine mz_Go.steps (n := 7) (k2 := (5, [some (.ref 77), some (.int x1), some (.int x2), some (.int (x3 ^^^ r2)), some (.int (x4 + x2))], [], M)) (P := []) rfl mz_o0 ?_
    exact h
set_option maxRecDepth 100000 in
set_option maxHeartbeats 4000000 in
theorem t_X10_normTo_0 (x1 : Int32) (x2 : Int32) (M : mz_M) {res : mz_O} (h :
    mq_G mq_X10_normTo (5, [some (.ref 77), some (.int x1), some (.int x2), some (.int 1), some (.int 0)], [], M) res) :
    mq_G mq_X10_normTo (0, [some (.ref 77), some (.int x1), some (.int x2), none, none], [], M) res := by
  refine mz_Go.steps (n := 4) (k2 := (5, [some (.ref 77), some (.int x1), some (.int x2), some (.int 1), some (.int 0)], [], M)) (P := []) rfl mz_o0 ?_
  exact h
set_option maxRecDepth 100000 in
set_option maxHeartbeats 4000000 in
theorem t_X10_normTo_5 (x1 : Int32) (x2 : Int32) (x3 : Int32) (x4 : Int32) (M : mz_M) {res : mz_O} (h :
    (((M.1 77 11) ≤ x4 →
      res = (some (.int x3), M)) ∧
    (¬ ((M.1 77 11) ≤ x4) →
      (∃ (r2 : Int32), (mq_C mq_X10_conj [.ref 77, .int x1, .int x4] M (some (.int r2), M)) ∧
      (∃ (r3 : Int32), (mq_C mq_X10_times [.ref 77, .int x3, .int r2] M (some (.int r3), M)) ∧
      mq_G mq_X10_normTo (5, [some (.ref 77), some (.int x1), some (.int x2), some (.int r3), some (.int (x4 + x2))], [], M) res))))) :
    mq_G mq_X10_normTo (5, [some (.ref 77), some (.int x1), some (.int x2), some (.int x3), some (.int x4)], [], M) res := by
  refine mz_Go.steps (n := 4) (k2 := (if (M.1 77 11) ≤ x4 then 36 else 14, [some (.ref 77), some (.int x1), some (.int x2), some (.int x3), some (.int x4)], [], M)) (P := []) rfl mz_o0 ?_
  refine mz_Go.ite (fun c11 => ?_) (fun c11 => ?_)
  · replace h := h.1 c11
    refine mz_Go.steps (n := 1) (k2 := (37, [some (.ref 77), some (.int x1), some (.int x2), some (.int x3), some (.int x4)], [.int x3], M)) (P := []) rfl mz_o0 ?_
    rw [h]
    exact mz_Go.iret (rfl : mz_find 37 (mz_rows mq_X10_normTo) = some (37, .ireturn, 1, 0, 0, 0)) rfl
  · replace h := h.2 c11
    refine mz_Go.steps (n := 5) (k2 := (20, [some (.ref 77), some (.int x1), some (.int x2), some (.int x3), some (.int x4)], [.int x4, .int x1, .ref 77, .int x3, .ref 77], M)) (P := []) rfl mz_o0 ?_
    obtain ⟨r2, k2, h⟩ := h
    refine mz_Go.callV (As := [.int x1, .int x4]) (rest := [.int x3, .ref 77]) (rfl : mz_find 20 (mz_rows mq_X10_normTo) = some (20, .invokevirtual 98, 3, 148, 0, 158)) (rfl : mz_nth mq_tab 148 = some mq_X10_conj) rfl rfl rfl rfl (Nat.le_of_ble_eq_true rfl) (Nat.le_of_ble_eq_true rfl) k2 ?_
    show mq_G mq_X10_normTo (23, [some (.ref 77), some (.int x1), some (.int x2), some (.int x3), some (.int x4)], [.int r2, .int x3, .ref 77], M) res
    obtain ⟨r3, k3, h⟩ := h
    refine mz_Go.callV (As := [.int x3, .int r2]) (rest := []) (rfl : mz_find 23 (mz_rows mq_X10_normTo) = some (23, .invokevirtual 92, 3, 147, 0, 156)) (rfl : mz_nth mq_tab 147 = some mq_X10_times) rfl rfl rfl rfl (Nat.le_of_ble_eq_true rfl) (Nat.le_of_ble_eq_true rfl) k3 ?_
    show mq_G mq_X10_normTo (26, [some (.ref 77), some (.int x1), some (.int x2), some (.int x3), some (.int x4)], [.int r3], M) res
    refine mz_Go.steps (n := 6) (k2 := (5, [some (.ref 77), some (.int x1), some (.int x2), some (.int r3), some (.int (x4 + x2))], [], M)) (P := []) rfl mz_o0 ?_
    exact h
set_option maxRecDepth 100000 in
set_option maxHeartbeats 4000000 in
theorem t_X10_isElement_0 (x1 : Int32) (M : mz_M) {res : mz_O} (h :
    (∃ (r1 : Int32), (mq_C mq_X10_in [.long (x1.toInt64), .long ((0 : Int32).toInt64), .long (((M.1 77 12) - 1).toInt64)] M (some (.int r1), M)) ∧
    (r1 = 0 ∨ r1 = 1) ∧
    res = (some (.int r1), M))) :
    mq_G mq_X10_isElement (0, [some (.ref 77), some (.int x1)], [], M) res := by
  refine mz_Go.steps (n := 8) (k2 := (10, [some (.ref 77), some (.int x1)], [.long (((M.1 77 12) - 1).toInt64), .long ((0 : Int32).toInt64), .long (x1.toInt64)], M)) (P := []) rfl mz_o0 ?_
  obtain ⟨r1, k1, h⟩ := h
  refine mz_Go.callS (As := [.long (x1.toInt64), .long ((0 : Int32).toInt64), .long (((M.1 77 12) - 1).toInt64)]) (rest := []) (rfl : mz_find 10 (mz_rows mq_X10_isElement) = some (10, .invokestatic 65, 3, 133, 0, 147)) (rfl : mz_nth mq_tab 133 = some mq_X10_in) (by decide) rfl rfl rfl (Nat.le_of_ble_eq_true rfl) (Nat.le_of_ble_eq_true rfl) k1 ?_
  show mq_G mq_X10_isElement (13, [some (.ref 77), some (.int x1)], [.int r1], M) res
  obtain ⟨q2, h⟩ := h
  rw [h]
  exact mz_Go.zret (rfl : mz_find 13 (mz_rows mq_X10_isElement) = some (13, .ireturn, 1, 0, 0, 0)) rfl q2
set_option maxRecDepth 100000 in
set_option maxHeartbeats 4000000 in
theorem t_X10_isPart_0 (x1 : Int32) (M : mz_M) {res : mz_O} (h :
    ((x1 ≤ 0 →
      res = (some (.int 0), M)) ∧
    (¬ (x1 ≤ 0) →
      (((M.1 77 11) < x1 →
        res = (some (.int 0), M)) ∧
      (¬ ((M.1 77 11) < x1) →
        (¬ x1 = 0) ∧
        ((¬ ((M.1 77 11) - (M.1 77 11) / x1 * x1) = 0 →
          res = (some (.int 0), M)) ∧
        (¬ (¬ ((M.1 77 11) - (M.1 77 11) / x1 * x1) = 0) →
          res = (some (.int 1), M)))))))) :
    mq_G mq_X10_isPart (0, [some (.ref 77), some (.int x1)], [], M) res := by
  refine mz_Go.steps (n := 2) (k2 := (if x1 ≤ 0 then 25 else 4, [some (.ref 77), some (.int x1)], [], M)) (P := []) rfl mz_o0 ?_
  refine mz_Go.ite (fun c1 => ?_) (fun c1 => ?_)
  · replace h := h.1 c1
    refine mz_Go.steps (n := 1) (k2 := (26, [some (.ref 77), some (.int x1)], [.int 0], M)) (P := []) rfl mz_o0 ?_
    rw [h]
    exact mz_Go.zret (rfl : mz_find 26 (mz_rows mq_X10_isPart) = some (26, .ireturn, 1, 0, 0, 0)) rfl (Or.inl rfl)
  · replace h := h.2 c1
    refine mz_Go.steps (n := 4) (k2 := (if (M.1 77 11) < x1 then 25 else 12, [some (.ref 77), some (.int x1)], [], M)) (P := []) rfl mz_o0 ?_
    refine mz_Go.ite (fun c9 => ?_) (fun c9 => ?_)
    · replace h := h.1 c9
      refine mz_Go.steps (n := 1) (k2 := (26, [some (.ref 77), some (.int x1)], [.int 0], M)) (P := []) rfl mz_o0 ?_
      rw [h]
      exact mz_Go.zret (rfl : mz_find 26 (mz_rows mq_X10_isPart) = some (26, .ireturn, 1, 0, 0, 0)) rfl (Or.inl rfl)
    · replace h := h.2 c9
      obtain ⟨q4, h⟩ := h
      refine mz_Go.steps (n := 5) (k2 := (if ¬ ((M.1 77 11) - (M.1 77 11) / x1 * x1) = 0 then 25 else 21, [some (.ref 77), some (.int x1)], [], M)) (P := [¬ x1 = 0]) rfl (mz_o1 q4) ?_
      refine mz_Go.ite (fun c18 => ?_) (fun c18 => ?_)
      · replace h := h.1 c18
        refine mz_Go.steps (n := 1) (k2 := (26, [some (.ref 77), some (.int x1)], [.int 0], M)) (P := []) rfl mz_o0 ?_
        rw [h]
        exact mz_Go.zret (rfl : mz_find 26 (mz_rows mq_X10_isPart) = some (26, .ireturn, 1, 0, 0, 0)) rfl (Or.inl rfl)
      · replace h := h.2 c18
        refine mz_Go.steps (n := 2) (k2 := (26, [some (.ref 77), some (.int x1)], [.int 1], M)) (P := []) rfl mz_o0 ?_
        rw [h]
        exact mz_Go.zret (rfl : mz_find 26 (mz_rows mq_X10_isPart) = some (26, .ireturn, 1, 0, 0, 0)) rfl (Or.inr rfl)
set_option maxRecDepth 100000 in
set_option maxHeartbeats 4000000 in
theorem t_X10_isSlot_0 (x0 : Int32) (M : mz_M) {res : mz_O} (h :
    (∃ (r1 : Int32), (mq_C mq_X10_in [.long (x0.toInt64), .long ((0 : Int32).toInt64), .long ((3 : Int32).toInt64)] M (some (.int r1), M)) ∧
    (r1 = 0 ∨ r1 = 1) ∧
    res = (some (.int r1), M))) :
    mq_G mq_X10_isSlot (0, [some (.int x0)], [], M) res := by
  refine mz_Go.steps (n := 4) (k2 := (6, [some (.int x0)], [.long ((3 : Int32).toInt64), .long ((0 : Int32).toInt64), .long (x0.toInt64)], M)) (P := []) rfl mz_o0 ?_
  obtain ⟨r1, k1, h⟩ := h
  refine mz_Go.callS (As := [.long (x0.toInt64), .long ((0 : Int32).toInt64), .long ((3 : Int32).toInt64)]) (rest := []) (rfl : mz_find 6 (mz_rows mq_X10_isSlot) = some (6, .invokestatic 65, 3, 133, 0, 147)) (rfl : mz_nth mq_tab 133 = some mq_X10_in) (by decide) rfl rfl rfl (Nat.le_of_ble_eq_true rfl) (Nat.le_of_ble_eq_true rfl) k1 ?_
  show mq_G mq_X10_isSlot (9, [some (.int x0)], [.int r1], M) res
  obtain ⟨q2, h⟩ := h
  rw [h]
  exact mz_Go.zret (rfl : mz_find 9 (mz_rows mq_X10_isSlot) = some (9, .ireturn, 1, 0, 0, 0)) rfl q2
set_option maxRecDepth 100000 in
set_option maxHeartbeats 4000000 in
theorem t_X10_isPlace_0 (x1 : Int32) (M : mz_M) {res : mz_O} (h :
    (∃ (r1 : Int32), (mq_C mq_X10_in [.long (x1.toInt64), .long ((0 : Int32).toInt64), .long (((M.1 77 11) - 1).toInt64)] M (some (.int r1), M)) ∧
    (r1 = 0 ∨ r1 = 1) ∧
    res = (some (.int r1), M))) :
    mq_G mq_X10_isPlace (0, [some (.ref 77), some (.int x1)], [], M) res := by
  refine mz_Go.steps (n := 8) (k2 := (10, [some (.ref 77), some (.int x1)], [.long (((M.1 77 11) - 1).toInt64), .long ((0 : Int32).toInt64), .long (x1.toInt64)], M)) (P := []) rfl mz_o0 ?_
  obtain ⟨r1, k1, h⟩ := h
  refine mz_Go.callS (As := [.long (x1.toInt64), .long ((0 : Int32).toInt64), .long (((M.1 77 11) - 1).toInt64)]) (rest := []) (rfl : mz_find 10 (mz_rows mq_X10_isPlace) = some (10, .invokestatic 65, 3, 133, 0, 147)) (rfl : mz_nth mq_tab 133 = some mq_X10_in) (by decide) rfl rfl rfl (Nat.le_of_ble_eq_true rfl) (Nat.le_of_ble_eq_true rfl) k1 ?_
  show mq_G mq_X10_isPlace (13, [some (.ref 77), some (.int x1)], [.int r1], M) res
  obtain ⟨q2, h⟩ := h
  rw [h]
  exact mz_Go.zret (rfl : mz_find 13 (mz_rows mq_X10_isPlace) = some (13, .ireturn, 1, 0, 0, 0)) rfl q2
set_option maxRecDepth 100000 in
set_option maxHeartbeats 4000000 in
theorem t_X10_rank_0 (x1 : Int32) (M : mz_M) {res : mz_O} (h :
    mq_G mq_X10_rank (4, [some (.ref 77), some (.int x1), some (.int 0), some (.int 0), none, none], [], M) res) :
    mq_G mq_X10_rank (0, [some (.ref 77), some (.int x1), none, none, none, none], [], M) res := by
  refine mz_Go.steps (n := 4) (k2 := (4, [some (.ref 77), some (.int x1), some (.int 0), some (.int 0), none, none], [], M)) (P := []) rfl mz_o0 ?_
  exact h
set_option maxRecDepth 100000 in
set_option maxHeartbeats 4000000 in
theorem t_X10_rank_4 (x1 : Int32) (x2 : Int32) (x3 : Int32) (o4 : Option Value) (o5 : Option Value) (M : mz_M) {res : mz_O} (h :
    ((x1 ≤ x3 →
      res = (some (.int x2), M)) ∧
    (¬ (x1 ≤ x3) →
      (vp_in x3 8) ∧
      mq_G mq_X10_rank (20, [some (.ref 77), some (.int x1), some (.int x2), some (.int x3), some (.int (M.1 84 x3.toNatClampNeg)), some (.int 0)], [], M) res))) :
    mq_G mq_X10_rank (4, [some (.ref 77), some (.int x1), some (.int x2), some (.int x3), o4, o5], [], M) res := by
  refine mz_Go.steps (n := 3) (k2 := (if x1 ≤ x3 then 74 else 9, [some (.ref 77), some (.int x1), some (.int x2), some (.int x3), o4, o5], [], M)) (P := []) rfl mz_o0 ?_
  refine mz_Go.ite (fun c6 => ?_) (fun c6 => ?_)
  · replace h := h.1 c6
    refine mz_Go.steps (n := 1) (k2 := (75, [some (.ref 77), some (.int x1), some (.int x2), some (.int x3), o4, o5], [.int x2], M)) (P := []) rfl mz_o0 ?_
    rw [h]
    exact mz_Go.iret (rfl : mz_find 75 (mz_rows mq_X10_rank) = some (75, .ireturn, 1, 0, 0, 0)) rfl
  · replace h := h.2 c6
    obtain ⟨q2, h⟩ := h
    refine mz_Go.steps (n := 7) (k2 := (20, [some (.ref 77), some (.int x1), some (.int x2), some (.int x3), some (.int (M.1 84 x3.toNatClampNeg)), some (.int 0)], [], M)) (P := [vp_in x3 8]) rfl (mz_o1 q2) ?_
    exact h
set_option maxRecDepth 100000 in
set_option maxHeartbeats 4000000 in
theorem t_X10_rank_20 (x1 : Int32) (x2 : Int32) (x3 : Int32) (x4 : Int32) (x5 : Int32) (M : mz_M) {res : mz_O} (h :
    ((x2 ≤ x5 →
      ((¬ x4 = 0 →
        (vp_in x2 8) ∧
        (∀ M3 : mz_M, M3 = mz_wr M 85 (upd (M.1 85) x2.toNatClampNeg x4) →
        mq_G mq_X10_rank (4, [some (.ref 77), some (.int x1), some (.int (x2 + 1)), some (.int (x3 + 1)), some (.int x4), some (.int x5)], [], M3) res)) ∧
      (¬ (¬ x4 = 0) →
        mq_G mq_X10_rank (4, [some (.ref 77), some (.int x1), some (.int x2), some (.int (x3 + 1)), some (.int x4), some (.int x5)], [], M) res))) ∧
    (¬ (x2 ≤ x5) →
      (vp_in x5 8) ∧
      mq_G mq_X10_rank (20, [some (.ref 77), some (.int x1), some (.int x2), some (.int x3), some (.int (if (x4 ^^^ (M.1 85 x5.toNatClampNeg)) < x4 then (x4 ^^^ (M.1 85 x5.toNatClampNeg)) else x4)), some (.int (x5 + 1))], [], M) res))) :
    mq_G mq_X10_rank (20, [some (.ref 77), some (.int x1), some (.int x2), some (.int x3), some (.int x4), some (.int x5)], [], M) res := by
  refine mz_Go.steps (n := 3) (k2 := (if x2 ≤ x5 then 49 else 26, [some (.ref 77), some (.int x1), some (.int x2), some (.int x3), some (.int x4), some (.int x5)], [], M)) (P := []) rfl mz_o0 ?_
  refine mz_Go.ite (fun c23 => ?_) (fun c23 => ?_)
  · replace h := h.1 c23
    refine mz_Go.steps (n := 2) (k2 := (if ¬ x4 = 0 then 57 else 54, [some (.ref 77), some (.int x1), some (.int x2), some (.int x3), some (.int x4), some (.int x5)], [], M)) (P := []) rfl mz_o0 ?_
    refine mz_Go.ite (fun c51 => ?_) (fun c51 => ?_)
    · replace h := h.1 c51
      obtain ⟨q4, h⟩ := h
      obtain ⟨M3, e3⟩ : ∃ y, y = mz_wr M 85 (upd (M.1 85) x2.toNatClampNeg x4) := ⟨_, rfl⟩
      replace h := h M3 e3
      refine mz_Go.steps (n := 5) (k2 := (65, [some (.ref 77), some (.int x1), some (.int x2), some (.int x3), some (.int x4), some (.int x5)], [], (mz_wr M 85 (upd (M.1 85) x2.toNatClampNeg x4)))) (P := [vp_in x2 8]) rfl (mz_o1 q4) ?_
      rw [← e3]
      refine mz_Go.steps (n := 3) (k2 := (4, [some (.ref 77), some (.int x1), some (.int (x2 + 1)), some (.int (x3 + 1)), some (.int x4), some (.int x5)], [], M3)) (P := []) rfl mz_o0 ?_
      exact h
    · replace h := h.2 c51
      refine mz_Go.steps (n := 3) (k2 := (4, [some (.ref 77), some (.int x1), some (.int x2), some (.int (x3 + 1)), some (.int x4), some (.int x5)], [], M)) (P := []) rfl mz_o0 ?_
      exact h
  · replace h := h.2 c23
    obtain ⟨q5, h⟩ := h
    refine mz_Go.steps (n := 7) (k2 := (38, [some (.ref 77), some (.int x1), some (.int x2), some (.int x3), some (.int x4), some (.int x5)], [.int (x4 ^^^ (M.1 85 x5.toNatClampNeg)), .int x4], M)) (P := [vp_in x5 8]) rfl (mz_o1 q5) ?_
    refine mz_Go.mmin (rfl : mz_find 38 (mz_rows mq_X10_rank) = some (38, .invokestatic 106, 3, 1001, 0, 163)) (Nat.le_of_ble_eq_true rfl) ?_
    show mq_G mq_X10_rank (41, [some (.ref 77), some (.int x1), some (.int x2), some (.int x3), some (.int x4), some (.int x5)], [.int (if (x4 ^^^ (M.1 85 x5.toNatClampNeg)) < x4 then (x4 ^^^ (M.1 85 x5.toNatClampNeg)) else x4)], M) res
    refine mz_Go.steps (n := 3) (k2 := (20, [some (.ref 77), some (.int x1), some (.int x2), some (.int x3), some (.int (if (x4 ^^^ (M.1 85 x5.toNatClampNeg)) < x4 then (x4 ^^^ (M.1 85 x5.toNatClampNeg)) else x4)), some (.int (x5 + 1))], [], M)) (P := []) rfl mz_o0 ?_
    exact h
set_option maxRecDepth 100000 in
set_option maxHeartbeats 4000000 in
theorem t_X10_takesConjugates_0 (x1 : Int32) (M : mz_M) {res : mz_O} (h :
    mq_G mq_X10_takesConjugates (2, [some (.ref 77), some (.int x1), some (.int 0)], [], M) res) :
    mq_G mq_X10_takesConjugates (0, [some (.ref 77), some (.int x1), none], [], M) res := by
  refine mz_Go.steps (n := 2) (k2 := (2, [some (.ref 77), some (.int x1), some (.int 0)], [], M)) (P := []) rfl mz_o0 ?_
  exact h
set_option maxRecDepth 100000 in
set_option maxHeartbeats 4000000 in
theorem t_X10_takesConjugates_2 (x1 : Int32) (x2 : Int32) (M : mz_M) {res : mz_O} (h :
    (((M.1 77 11) ≤ x2 →
      res = (none, M)) ∧
    (¬ ((M.1 77 11) ≤ x2) →
      (∃ (r2 : Int32), (mq_C mq_X10_conj [.ref 77, .int x1, .int x2] M (some (.int r2), M)) ∧
      (vp_in x2 8) ∧
      (∀ M3 : mz_M, M3 = mz_wr M 84 (upd (M.1 84) x2.toNatClampNeg r2) →
      mq_G mq_X10_takesConjugates (2, [some (.ref 77), some (.int x1), some (.int (x2 + 1))], [], M3) res))))) :
    mq_G mq_X10_takesConjugates (2, [some (.ref 77), some (.int x1), some (.int x2)], [], M) res := by
  refine mz_Go.steps (n := 4) (k2 := (if (M.1 77 11) ≤ x2 then 28 else 10, [some (.ref 77), some (.int x1), some (.int x2)], [], M)) (P := []) rfl mz_o0 ?_
  refine mz_Go.ite (fun c7 => ?_) (fun c7 => ?_)
  · replace h := h.1 c7
    rw [h]
    exact mz_Go.vret (rfl : mz_find 28 (mz_rows mq_X10_takesConjugates) = some (28, .return_, 1, 0, 0, 0)) rfl
  · replace h := h.2 c7
    refine mz_Go.steps (n := 6) (k2 := (18, [some (.ref 77), some (.int x1), some (.int x2)], [.int x2, .int x1, .ref 77, .int x2, .ref 84], M)) (P := []) rfl mz_o0 ?_
    obtain ⟨r2, k2, h⟩ := h
    refine mz_Go.callV (As := [.int x1, .int x2]) (rest := [.int x2, .ref 84]) (rfl : mz_find 18 (mz_rows mq_X10_takesConjugates) = some (18, .invokevirtual 98, 3, 148, 0, 158)) (rfl : mz_nth mq_tab 148 = some mq_X10_conj) rfl rfl rfl rfl (Nat.le_of_ble_eq_true rfl) (Nat.le_of_ble_eq_true rfl) k2 ?_
    show mq_G mq_X10_takesConjugates (21, [some (.ref 77), some (.int x1), some (.int x2)], [.int r2, .int x2, .ref 84], M) res
    obtain ⟨q4, h⟩ := h
    obtain ⟨M3, e3⟩ : ∃ y, y = mz_wr M 84 (upd (M.1 84) x2.toNatClampNeg r2) := ⟨_, rfl⟩
    replace h := h M3 e3
    refine mz_Go.steps (n := 1) (k2 := (22, [some (.ref 77), some (.int x1), some (.int x2)], [], (mz_wr M 84 (upd (M.1 84) x2.toNatClampNeg r2)))) (P := [vp_in x2 8]) rfl (mz_o1 q4) ?_
    rw [← e3]
    refine mz_Go.steps (n := 2) (k2 := (2, [some (.ref 77), some (.int x1), some (.int (x2 + 1))], [], M3)) (P := []) rfl mz_o0 ?_
    exact h
set_option maxRecDepth 100000 in
set_option maxHeartbeats 4000000 in
theorem t_X10_isNormal_0 (x1 : Int32) (M : mz_M) {res : mz_O} (h :
    (∃ (M1 : mz_M), (mq_C mq_X10_takesConjugates [.ref 77, .int x1] M (none, M1)) ∧
    (∃ (r2 : Int32) (M2 : mz_M), (mq_C mq_X10_rank [.ref 77, .int (M1.1 77 11)] M1 (some (.int r2), M2)) ∧
    ((¬ r2 = (M2.1 77 11) →
      res = (some (.int 0), M2)) ∧
    (¬ (¬ r2 = (M2.1 77 11)) →
      res = (some (.int 1), M2)))))) :
    mq_G mq_X10_isNormal (0, [some (.ref 77), some (.int x1)], [], M) res := by
  refine mz_Go.steps (n := 2) (k2 := (2, [some (.ref 77), some (.int x1)], [.int x1, .ref 77], M)) (P := []) rfl mz_o0 ?_
  obtain ⟨M1, k1, h⟩ := h
  refine mz_Go.callV (As := [.int x1]) (rest := []) (rfl : mz_find 2 (mz_rows mq_X10_isNormal) = some (2, .invokevirtual 111, 3, 161, 0, 164)) (rfl : mz_nth mq_tab 161 = some mq_X10_takesConjugates) rfl rfl rfl rfl (Nat.le_of_ble_eq_true rfl) (Nat.le_of_ble_eq_true rfl) k1 ?_
  show mq_G mq_X10_isNormal (5, [some (.ref 77), some (.int x1)], [], M1) res
  refine mz_Go.steps (n := 3) (k2 := (10, [some (.ref 77), some (.int x1)], [.int (M1.1 77 11), .ref 77], M1)) (P := []) rfl mz_o0 ?_
  obtain ⟨r2, M2, k2, h⟩ := h
  refine mz_Go.callV (As := [.int (M1.1 77 11)]) (rest := []) (rfl : mz_find 10 (mz_rows mq_X10_isNormal) = some (10, .invokevirtual 114, 3, 160, 0, 165)) (rfl : mz_nth mq_tab 160 = some mq_X10_rank) rfl rfl rfl rfl (Nat.le_of_ble_eq_true rfl) (Nat.le_of_ble_eq_true rfl) k2 ?_
  show mq_G mq_X10_isNormal (13, [some (.ref 77), some (.int x1)], [.int r2], M2) res
  refine mz_Go.steps (n := 3) (k2 := (if ¬ r2 = (M2.1 77 11) then 24 else 20, [some (.ref 77), some (.int x1)], [], M2)) (P := []) rfl mz_o0 ?_
  refine mz_Go.ite (fun c17 => ?_) (fun c17 => ?_)
  · replace h := h.1 c17
    refine mz_Go.steps (n := 1) (k2 := (25, [some (.ref 77), some (.int x1)], [.int 0], M2)) (P := []) rfl mz_o0 ?_
    rw [h]
    exact mz_Go.zret (rfl : mz_find 25 (mz_rows mq_X10_isNormal) = some (25, .ireturn, 1, 0, 0, 0)) rfl (Or.inl rfl)
  · replace h := h.2 c17
    refine mz_Go.steps (n := 2) (k2 := (25, [some (.ref 77), some (.int x1)], [.int 1], M2)) (P := []) rfl mz_o0 ?_
    rw [h]
    exact mz_Go.zret (rfl : mz_find 25 (mz_rows mq_X10_isNormal) = some (25, .ireturn, 1, 0, 0, 0)) rfl (Or.inr rfl)
set_option maxRecDepth 100000 in
set_option maxHeartbeats 4000000 in
theorem t_X10_takesSubbase_0 (x1 : Int32) (M : mz_M) {res : mz_O} (h :
    mq_G mq_X10_takesSubbase (4, [some (.ref 77), some (.int x1), some (.int 0), some (.int 1), none], [], M) res) :
    mq_G mq_X10_takesSubbase (0, [some (.ref 77), some (.int x1), none, none, none], [], M) res := by
  refine mz_Go.steps (n := 4) (k2 := (4, [some (.ref 77), some (.int x1), some (.int 0), some (.int 1), none], [], M)) (P := []) rfl mz_o0 ?_
  exact h
set_option maxRecDepth 100000 in
set_option maxHeartbeats 4000000 in
theorem t_X10_takesSubbase_4 (x1 : Int32) (x2 : Int32) (x3 : Int32) (o4 : Option Value) (M : mz_M) {res : mz_O} (h :
    (((M.1 77 12) ≤ x3 →
      res = (none, M)) ∧
    (¬ ((M.1 77 12) ≤ x3) →
      ((x1 ≤ x2 →
        res = (none, M)) ∧
      (¬ (x1 ≤ x2) →
        (∃ (r3 : Int32), (mq_C mq_X10_conj [.ref 77, .int x3, .int x1] M (some (.int r3), M)) ∧
        ((r3 = x3 →
          mq_G mq_X10_takesSubbase (33, [some (.ref 77), some (.int x1), some (.int x2), some (.int x3), some (.int 0)], [], M) res) ∧
        (¬ (r3 = x3) →
          mq_G mq_X10_takesSubbase (4, [some (.ref 77), some (.int x1), some (.int x2), some (.int (x3 + 1)), o4], [], M) res)))))))) :
    mq_G mq_X10_takesSubbase (4, [some (.ref 77), some (.int x1), some (.int x2), some (.int x3), o4], [], M) res := by
  refine mz_Go.steps (n := 4) (k2 := (if (M.1 77 12) ≤ x3 then 96 else 12, [some (.ref 77), some (.int x1), some (.int x2), some (.int x3), o4], [], M)) (P := []) rfl mz_o0 ?_
  refine mz_Go.ite (fun c9 => ?_) (fun c9 => ?_)
  · replace h := h.1 c9
    rw [h]
    exact mz_Go.vret (rfl : mz_find 96 (mz_rows mq_X10_takesSubbase) = some (96, .return_, 1, 0, 0, 0)) rfl
  · replace h := h.2 c9
    refine mz_Go.steps (n := 3) (k2 := (if x1 ≤ x2 then 96 else 17, [some (.ref 77), some (.int x1), some (.int x2), some (.int x3), o4], [], M)) (P := []) rfl mz_o0 ?_
    refine mz_Go.ite (fun c14 => ?_) (fun c14 => ?_)
    · replace h := h.1 c14
      rw [h]
      exact mz_Go.vret (rfl : mz_find 96 (mz_rows mq_X10_takesSubbase) = some (96, .return_, 1, 0, 0, 0)) rfl
    · replace h := h.2 c14
      refine mz_Go.steps (n := 3) (k2 := (20, [some (.ref 77), some (.int x1), some (.int x2), some (.int x3), o4], [.int x1, .int x3, .ref 77], M)) (P := []) rfl mz_o0 ?_
      obtain ⟨r3, k3, h⟩ := h
      refine mz_Go.callV (As := [.int x3, .int x1]) (rest := []) (rfl : mz_find 20 (mz_rows mq_X10_takesSubbase) = some (20, .invokevirtual 98, 3, 148, 0, 158)) (rfl : mz_nth mq_tab 148 = some mq_X10_conj) rfl rfl rfl rfl (Nat.le_of_ble_eq_true rfl) (Nat.le_of_ble_eq_true rfl) k3 ?_
      show mq_G mq_X10_takesSubbase (23, [some (.ref 77), some (.int x1), some (.int x2), some (.int x3), o4], [.int r3], M) res
      refine mz_Go.steps (n := 2) (k2 := (if r3 = x3 then 30 else 27, [some (.ref 77), some (.int x1), some (.int x2), some (.int x3), o4], [], M)) (P := []) rfl mz_o0 ?_
      refine mz_Go.ite (fun c24 => ?_) (fun c24 => ?_)
      · replace h := h.1 c24
        refine mz_Go.steps (n := 2) (k2 := (33, [some (.ref 77), some (.int x1), some (.int x2), some (.int x3), some (.int 0)], [], M)) (P := []) rfl mz_o0 ?_
        exact h
      · replace h := h.2 c24
        refine mz_Go.steps (n := 3) (k2 := (4, [some (.ref 77), some (.int x1), some (.int x2), some (.int (x3 + 1)), o4], [], M)) (P := []) rfl mz_o0 ?_
        exact h
set_option maxRecDepth 100000 in
set_option maxHeartbeats 4000000 in
theorem t_X10_takesSubbase_33 (x1 : Int32) (x2 : Int32) (x3 : Int32) (x4 : Int32) (M : mz_M) {res : mz_O} (h :
    ((x2 ≤ x4 →
      (vp_in x2 8) ∧
      (∀ M2 : mz_M, M2 = mz_wr M 84 (upd (M.1 84) x2.toNatClampNeg x3) →
      (∃ (r4 : Int32) (M4 : mz_M), (mq_C mq_X10_rank [.ref 77, .int (x2 + 1)] M2 (some (.int r4), M4)) ∧
      ((x2 < r4 →
        (vp_in x2 8) ∧
        (∀ M6 : mz_M, M6 = mz_wr M4 86 (upd (M4.1 86) x2.toNatClampNeg x3) →
        mq_G mq_X10_takesSubbase (4, [some (.ref 77), some (.int x1), some (.int (x2 + 1)), some (.int (x3 + 1)), some (.int x4)], [], M6) res)) ∧
      (¬ (x2 < r4) →
        mq_G mq_X10_takesSubbase (4, [some (.ref 77), some (.int x1), some (.int x2), some (.int (x3 + 1)), some (.int x4)], [], M4) res))))) ∧
    (¬ (x2 ≤ x4) →
      (vp_in x4 8) ∧
      (vp_in x4 8) ∧
      (∀ M8 : mz_M, M8 = mz_wr M 84 (upd (M.1 84) x4.toNatClampNeg (M.1 86 x4.toNatClampNeg)) →
      mq_G mq_X10_takesSubbase (33, [some (.ref 77), some (.int x1), some (.int x2), some (.int x3), some (.int (x4 + 1))], [], M8) res)))) :
    mq_G mq_X10_takesSubbase (33, [some (.ref 77), some (.int x1), some (.int x2), some (.int x3), some (.int x4)], [], M) res := by
  refine mz_Go.steps (n := 3) (k2 := (if x2 ≤ x4 then 59 else 39, [some (.ref 77), some (.int x1), some (.int x2), some (.int x3), some (.int x4)], [], M)) (P := []) rfl mz_o0 ?_
  refine mz_Go.ite (fun c36 => ?_) (fun c36 => ?_)
  · replace h := h.1 c36
    obtain ⟨q3, h⟩ := h
    obtain ⟨M2, e2⟩ : ∃ y, y = mz_wr M 84 (upd (M.1 84) x2.toNatClampNeg x3) := ⟨_, rfl⟩
    replace h := h M2 e2
    refine mz_Go.steps (n := 5) (k2 := (66, [some (.ref 77), some (.int x1), some (.int x2), some (.int x3), some (.int x4)], [], (mz_wr M 84 (upd (M.1 84) x2.toNatClampNeg x3)))) (P := [vp_in x2 8]) rfl (mz_o1 q3) ?_
    rw [← e2]
    refine mz_Go.steps (n := 4) (k2 := (70, [some (.ref 77), some (.int x1), some (.int x2), some (.int x3), some (.int x4)], [.int (x2 + 1), .ref 77], M2)) (P := []) rfl mz_o0 ?_
    obtain ⟨r4, M4, k4, h⟩ := h
    refine mz_Go.callV (As := [.int (x2 + 1)]) (rest := []) (rfl : mz_find 70 (mz_rows mq_X10_takesSubbase) = some (70, .invokevirtual 114, 3, 160, 0, 165)) (rfl : mz_nth mq_tab 160 = some mq_X10_rank) rfl rfl rfl rfl (Nat.le_of_ble_eq_true rfl) (Nat.le_of_ble_eq_true rfl) k4 ?_
    show mq_G mq_X10_takesSubbase (73, [some (.ref 77), some (.int x1), some (.int x2), some (.int x3), some (.int x4)], [.int r4], M4) res
    refine mz_Go.steps (n := 2) (k2 := (if x2 < r4 then 80 else 77, [some (.ref 77), some (.int x1), some (.int x2), some (.int x3), some (.int x4)], [], M4)) (P := []) rfl mz_o0 ?_
    refine mz_Go.ite (fun c74 => ?_) (fun c74 => ?_)
    · replace h := h.1 c74
      obtain ⟨q7, h⟩ := h
      obtain ⟨M6, e6⟩ : ∃ y, y = mz_wr M4 86 (upd (M4.1 86) x2.toNatClampNeg x3) := ⟨_, rfl⟩
      replace h := h M6 e6
      refine mz_Go.steps (n := 5) (k2 := (87, [some (.ref 77), some (.int x1), some (.int x2), some (.int x3), some (.int x4)], [], (mz_wr M4 86 (upd (M4.1 86) x2.toNatClampNeg x3)))) (P := [vp_in x2 8]) rfl (mz_o1 q7) ?_
      rw [← e6]
      refine mz_Go.steps (n := 3) (k2 := (4, [some (.ref 77), some (.int x1), some (.int (x2 + 1)), some (.int (x3 + 1)), some (.int x4)], [], M6)) (P := []) rfl mz_o0 ?_
      exact h
    · replace h := h.2 c74
      refine mz_Go.steps (n := 3) (k2 := (4, [some (.ref 77), some (.int x1), some (.int x2), some (.int (x3 + 1)), some (.int x4)], [], M4)) (P := []) rfl mz_o0 ?_
      exact h
  · replace h := h.2 c36
    obtain ⟨q9, q10, h⟩ := h
    obtain ⟨M8, e8⟩ : ∃ y, y = mz_wr M 84 (upd (M.1 84) x4.toNatClampNeg (M.1 86 x4.toNatClampNeg)) := ⟨_, rfl⟩
    replace h := h M8 e8
    refine mz_Go.steps (n := 8) (k2 := (53, [some (.ref 77), some (.int x1), some (.int x2), some (.int x3), some (.int x4)], [], (mz_wr M 84 (upd (M.1 84) x4.toNatClampNeg (M.1 86 x4.toNatClampNeg))))) (P := [vp_in x4 8, vp_in x4 8]) rfl (mz_o2 q9 q10) ?_
    rw [← e8]
    refine mz_Go.steps (n := 2) (k2 := (33, [some (.ref 77), some (.int x1), some (.int x2), some (.int x3), some (.int (x4 + 1))], [], M8)) (P := []) rfl mz_o0 ?_
    exact h
set_option maxRecDepth 100000 in
set_option maxHeartbeats 4000000 in
theorem t_X10_isNormalOver_0 (x1 : Int32) (x2 : Int32) (M : mz_M) {res : mz_O} (h :
    (∃ (M1 : mz_M), (mq_C mq_X10_takesSubbase [.ref 77, .int x2] M (none, M1)) ∧
    mq_G mq_X10_isNormalOver (10, [some (.ref 77), some (.int x1), some (.int x2), some (.int 0), some (.int 0), none], [], M1) res)) :
    mq_G mq_X10_isNormalOver (0, [some (.ref 77), some (.int x1), some (.int x2), none, none, none], [], M) res := by
  refine mz_Go.steps (n := 2) (k2 := (2, [some (.ref 77), some (.int x1), some (.int x2), none, none, none], [.int x2, .ref 77], M)) (P := []) rfl mz_o0 ?_
  obtain ⟨M1, k1, h⟩ := h
  refine mz_Go.callV (As := [.int x2]) (rest := []) (rfl : mz_find 2 (mz_rows mq_X10_isNormalOver) = some (2, .invokevirtual 117, 3, 163, 0, 167)) (rfl : mz_nth mq_tab 163 = some mq_X10_takesSubbase) rfl rfl rfl rfl (Nat.le_of_ble_eq_true rfl) (Nat.le_of_ble_eq_true rfl) k1 ?_
  show mq_G mq_X10_isNormalOver (5, [some (.ref 77), some (.int x1), some (.int x2), none, none, none], [], M1) res
  refine mz_Go.steps (n := 4) (k2 := (10, [some (.ref 77), some (.int x1), some (.int x2), some (.int 0), some (.int 0), none], [], M1)) (P := []) rfl mz_o0 ?_
  exact h
set_option maxRecDepth 100000 in
set_option maxHeartbeats 4000000 in
theorem t_X10_isNormalOver_10 (x1 : Int32) (x2 : Int32) (x3 : Int32) (x4 : Int32) (o5 : Option Value) (M : mz_M) {res : mz_O} (h :
    (((M.1 77 11) ≤ x4 →
      (∃ (r2 : Int32) (M2 : mz_M), (mq_C mq_X10_rank [.ref 77, .int (M.1 77 11)] M (some (.int r2), M2)) ∧
      ((¬ r2 = (M2.1 77 11) →
        res = (some (.int 0), M2)) ∧
      (¬ (¬ r2 = (M2.1 77 11)) →
        res = (some (.int 1), M2))))) ∧
    (¬ ((M.1 77 11) ≤ x4) →
      mq_G mq_X10_isNormalOver (22, [some (.ref 77), some (.int x1), some (.int x2), some (.int x3), some (.int x4), some (.int 0)], [], M) res))) :
    mq_G mq_X10_isNormalOver (10, [some (.ref 77), some (.int x1), some (.int x2), some (.int x3), some (.int x4), o5], [], M) res := by
  refine mz_Go.steps (n := 4) (k2 := (if (M.1 77 11) ≤ x4 then 70 else 19, [some (.ref 77), some (.int x1), some (.int x2), some (.int x3), some (.int x4), o5], [], M)) (P := []) rfl mz_o0 ?_
  refine mz_Go.ite (fun c16 => ?_) (fun c16 => ?_)
  · replace h := h.1 c16
    refine mz_Go.steps (n := 3) (k2 := (75, [some (.ref 77), some (.int x1), some (.int x2), some (.int x3), some (.int x4), o5], [.int (M.1 77 11), .ref 77], M)) (P := []) rfl mz_o0 ?_
    obtain ⟨r2, M2, k2, h⟩ := h
    refine mz_Go.callV (As := [.int (M.1 77 11)]) (rest := []) (rfl : mz_find 75 (mz_rows mq_X10_isNormalOver) = some (75, .invokevirtual 114, 3, 160, 0, 165)) (rfl : mz_nth mq_tab 160 = some mq_X10_rank) rfl rfl rfl rfl (Nat.le_of_ble_eq_true rfl) (Nat.le_of_ble_eq_true rfl) k2 ?_
    show mq_G mq_X10_isNormalOver (78, [some (.ref 77), some (.int x1), some (.int x2), some (.int x3), some (.int x4), o5], [.int r2], M2) res
    refine mz_Go.steps (n := 3) (k2 := (if ¬ r2 = (M2.1 77 11) then 89 else 85, [some (.ref 77), some (.int x1), some (.int x2), some (.int x3), some (.int x4), o5], [], M2)) (P := []) rfl mz_o0 ?_
    refine mz_Go.ite (fun c82 => ?_) (fun c82 => ?_)
    · replace h := h.1 c82
      refine mz_Go.steps (n := 1) (k2 := (90, [some (.ref 77), some (.int x1), some (.int x2), some (.int x3), some (.int x4), o5], [.int 0], M2)) (P := []) rfl mz_o0 ?_
      rw [h]
      exact mz_Go.zret (rfl : mz_find 90 (mz_rows mq_X10_isNormalOver) = some (90, .ireturn, 1, 0, 0, 0)) rfl (Or.inl rfl)
    · replace h := h.2 c82
      refine mz_Go.steps (n := 2) (k2 := (90, [some (.ref 77), some (.int x1), some (.int x2), some (.int x3), some (.int x4), o5], [.int 1], M2)) (P := []) rfl mz_o0 ?_
      rw [h]
      exact mz_Go.zret (rfl : mz_find 90 (mz_rows mq_X10_isNormalOver) = some (90, .ireturn, 1, 0, 0, 0)) rfl (Or.inr rfl)
  · replace h := h.2 c16
    refine mz_Go.steps (n := 2) (k2 := (22, [some (.ref 77), some (.int x1), some (.int x2), some (.int x3), some (.int x4), some (.int 0)], [], M)) (P := []) rfl mz_o0 ?_
    exact h
set_option maxRecDepth 100000 in
set_option maxHeartbeats 4000000 in
theorem t_X10_isNormalOver_22 (x1 : Int32) (x2 : Int32) (x3 : Int32) (x4 : Int32) (x5 : Int32) (M : mz_M) {res : mz_O} (h :
    ((x2 ≤ x5 →
      mq_G mq_X10_isNormalOver (10, [some (.ref 77), some (.int x1), some (.int x2), some (.int x3), some (.int (x4 + x2)), some (.int x5)], [], M) res) ∧
    (¬ (x2 ≤ x5) →
      (vp_in x5 8) ∧
      (∃ (r3 : Int32), (mq_C mq_X10_conj [.ref 77, .int x1, .int x4] M (some (.int r3), M)) ∧
      (∃ (r4 : Int32), (mq_C mq_X10_times [.ref 77, .int (M.1 86 x5.toNatClampNeg), .int r3] M (some (.int r4), M)) ∧
      (vp_in x3 8) ∧
      (∀ M5 : mz_M, M5 = mz_wr M 84 (upd (M.1 84) x3.toNatClampNeg r4) →
      mq_G mq_X10_isNormalOver (22, [some (.ref 77), some (.int x1), some (.int x2), some (.int (x3 + 1)), some (.int x4), some (.int (x5 + 1))], [], M5) res)))))) :
    mq_G mq_X10_isNormalOver (22, [some (.ref 77), some (.int x1), some (.int x2), some (.int x3), some (.int x4), some (.int x5)], [], M) res := by
  refine mz_Go.steps (n := 3) (k2 := (if x2 ≤ x5 then 61 else 28, [some (.ref 77), some (.int x1), some (.int x2), some (.int x3), some (.int x4), some (.int x5)], [], M)) (P := []) rfl mz_o0 ?_
  refine mz_Go.ite (fun c25 => ?_) (fun c25 => ?_)
  · replace h := h.1 c25
    refine mz_Go.steps (n := 5) (k2 := (10, [some (.ref 77), some (.int x1), some (.int x2), some (.int x3), some (.int (x4 + x2)), some (.int x5)], [], M)) (P := []) rfl mz_o0 ?_
    exact h
  · replace h := h.2 c25
    obtain ⟨q2, h⟩ := h
    refine mz_Go.steps (n := 11) (k2 := (45, [some (.ref 77), some (.int x1), some (.int x2), some (.int x3), some (.int x4), some (.int x5)], [.int x4, .int x1, .ref 77, .int (M.1 86 x5.toNatClampNeg), .ref 77, .int x3, .ref 84], M)) (P := [vp_in x5 8]) rfl (mz_o1 q2) ?_
    obtain ⟨r3, k3, h⟩ := h
    refine mz_Go.callV (As := [.int x1, .int x4]) (rest := [.int (M.1 86 x5.toNatClampNeg), .ref 77, .int x3, .ref 84]) (rfl : mz_find 45 (mz_rows mq_X10_isNormalOver) = some (45, .invokevirtual 98, 3, 148, 0, 158)) (rfl : mz_nth mq_tab 148 = some mq_X10_conj) rfl rfl rfl rfl (Nat.le_of_ble_eq_true rfl) (Nat.le_of_ble_eq_true rfl) k3 ?_
    show mq_G mq_X10_isNormalOver (48, [some (.ref 77), some (.int x1), some (.int x2), some (.int x3), some (.int x4), some (.int x5)], [.int r3, .int (M.1 86 x5.toNatClampNeg), .ref 77, .int x3, .ref 84], M) res
    obtain ⟨r4, k4, h⟩ := h
    refine mz_Go.callV (As := [.int (M.1 86 x5.toNatClampNeg), .int r3]) (rest := [.int x3, .ref 84]) (rfl : mz_find 48 (mz_rows mq_X10_isNormalOver) = some (48, .invokevirtual 92, 3, 147, 0, 156)) (rfl : mz_nth mq_tab 147 = some mq_X10_times) rfl rfl rfl rfl (Nat.le_of_ble_eq_true rfl) (Nat.le_of_ble_eq_true rfl) k4 ?_
    show mq_G mq_X10_isNormalOver (51, [some (.ref 77), some (.int x1), some (.int x2), some (.int x3), some (.int x4), some (.int x5)], [.int r4, .int x3, .ref 84], M) res
    obtain ⟨q6, h⟩ := h
    obtain ⟨M5, e5⟩ : ∃ y, y = mz_wr M 84 (upd (M.1 84) x3.toNatClampNeg r4) := ⟨_, rfl⟩
    replace h := h M5 e5
    refine mz_Go.steps (n := 1) (k2 := (52, [some (.ref 77), some (.int x1), some (.int x2), some (.int x3), some (.int x4), some (.int x5)], [], (mz_wr M 84 (upd (M.1 84) x3.toNatClampNeg r4)))) (P := [vp_in x3 8]) rfl (mz_o1 q6) ?_
    rw [← e5]
    refine mz_Go.steps (n := 3) (k2 := (22, [some (.ref 77), some (.int x1), some (.int x2), some (.int (x3 + 1)), some (.int x4), some (.int (x5 + 1))], [], M5)) (P := []) rfl mz_o0 ?_
    exact h
set_option maxRecDepth 100000 in
set_option maxHeartbeats 4000000 in
theorem t_X10_madeOf_0 (x1 : Int32) (M : mz_M) {res : mz_O} (h :
    mq_G mq_X10_madeOf (4, [some (.ref 77), some (.int x1), some (.int 0), some (.int 0)], [], M) res) :
    mq_G mq_X10_madeOf (0, [some (.ref 77), some (.int x1), none, none], [], M) res := by
  refine mz_Go.steps (n := 4) (k2 := (4, [some (.ref 77), some (.int x1), some (.int 0), some (.int 0)], [], M)) (P := []) rfl mz_o0 ?_
  exact h
set_option maxRecDepth 100000 in
set_option maxHeartbeats 4000000 in
theorem t_X10_madeOf_4 (x1 : Int32) (x2 : Int32) (x3 : Int32) (M : mz_M) {res : mz_O} (h :
    (((M.1 77 11) ≤ x3 →
      res = (some (.int x2), M)) ∧
    (¬ ((M.1 77 11) ≤ x3) →
      ((¬ ((x1 >>> (x3 &&& 31)) &&& 1) = 1 →
        mq_G mq_X10_madeOf (4, [some (.ref 77), some (.int x1), some (.int (x2 ^^^ 0)), some (.int (x3 + 1))], [], M) res) ∧
      (¬ (¬ ((x1 >>> (x3 &&& 31)) &&& 1) = 1) →
        (vp_in x3 8) ∧
        mq_G mq_X10_madeOf (4, [some (.ref 77), some (.int x1), some (.int (x2 ^^^ (M.1 87 x3.toNatClampNeg))), some (.int (x3 + 1))], [], M) res))))) :
    mq_G mq_X10_madeOf (4, [some (.ref 77), some (.int x1), some (.int x2), some (.int x3)], [], M) res := by
  refine mz_Go.steps (n := 4) (k2 := (if (M.1 77 11) ≤ x3 then 40 else 12, [some (.ref 77), some (.int x1), some (.int x2), some (.int x3)], [], M)) (P := []) rfl mz_o0 ?_
  refine mz_Go.ite (fun c9 => ?_) (fun c9 => ?_)
  · replace h := h.1 c9
    refine mz_Go.steps (n := 1) (k2 := (41, [some (.ref 77), some (.int x1), some (.int x2), some (.int x3)], [.int x2], M)) (P := []) rfl mz_o0 ?_
    rw [h]
    exact mz_Go.iret (rfl : mz_find 41 (mz_rows mq_X10_madeOf) = some (41, .ireturn, 1, 0, 0, 0)) rfl
  · replace h := h.2 c9
    refine mz_Go.steps (n := 8) (k2 := (if ¬ ((x1 >>> (x3 &&& 31)) &&& 1) = 1 then 31 else 22, [some (.ref 77), some (.int x1), some (.int x2), some (.int x3)], [.int x2], M)) (P := []) rfl mz_o0 ?_
    refine mz_Go.ite (fun c19 => ?_) (fun c19 => ?_)
    · replace h := h.1 c19
      refine mz_Go.steps (n := 5) (k2 := (4, [some (.ref 77), some (.int x1), some (.int (x2 ^^^ 0)), some (.int (x3 + 1))], [], M)) (P := []) rfl mz_o0 ?_
      exact h
    · replace h := h.2 c19
      obtain ⟨q3, h⟩ := h
      refine mz_Go.steps (n := 9) (k2 := (4, [some (.ref 77), some (.int x1), some (.int (x2 ^^^ (M.1 87 x3.toNatClampNeg))), some (.int (x3 + 1))], [], M)) (P := [vp_in x3 8]) rfl (mz_o1 q3) ?_
      exact h
set_option maxRecDepth 100000 in
set_option maxHeartbeats 4000000 in
theorem t_X10_laysCoordinates_0 (M : mz_M) {res : mz_O} (h :
    mq_G mq_X10_laysCoordinates (2, [some (.ref 77), some (.int 0)], [], M) res) :
    mq_G mq_X10_laysCoordinates (0, [some (.ref 77), none], [], M) res := by
  refine mz_Go.steps (n := 2) (k2 := (2, [some (.ref 77), some (.int 0)], [], M)) (P := []) rfl mz_o0 ?_
  exact h
set_option maxRecDepth 100000 in
set_option maxHeartbeats 4000000 in
theorem t_X10_laysCoordinates_2 (x1 : Int32) (M : mz_M) {res : mz_O} (h :
    (((M.1 77 12) ≤ x1 →
      res = (none, M)) ∧
    (¬ ((M.1 77 12) ≤ x1) →
      (∃ (r2 : Int32), (mq_C mq_X10_madeOf [.ref 77, .int x1] M (some (.int r2), M)) ∧
      (vp_in r2 256) ∧
      (∀ M3 : mz_M, M3 = mz_wr M 88 (upd (M.1 88) r2.toNatClampNeg x1) →
      mq_G mq_X10_laysCoordinates (2, [some (.ref 77), some (.int (x1 + 1))], [], M3) res))))) :
    mq_G mq_X10_laysCoordinates (2, [some (.ref 77), some (.int x1)], [], M) res := by
  refine mz_Go.steps (n := 4) (k2 := (if (M.1 77 12) ≤ x1 then 27 else 10, [some (.ref 77), some (.int x1)], [], M)) (P := []) rfl mz_o0 ?_
  refine mz_Go.ite (fun c7 => ?_) (fun c7 => ?_)
  · replace h := h.1 c7
    rw [h]
    exact mz_Go.vret (rfl : mz_find 27 (mz_rows mq_X10_laysCoordinates) = some (27, .return_, 1, 0, 0, 0)) rfl
  · replace h := h.2 c7
    refine mz_Go.steps (n := 4) (k2 := (16, [some (.ref 77), some (.int x1)], [.int x1, .ref 77, .ref 88], M)) (P := []) rfl mz_o0 ?_
    obtain ⟨r2, k2, h⟩ := h
    refine mz_Go.callV (As := [.int x1]) (rest := [.ref 88]) (rfl : mz_find 16 (mz_rows mq_X10_laysCoordinates) = some (16, .invokevirtual 120, 3, 165, 0, 170)) (rfl : mz_nth mq_tab 165 = some mq_X10_madeOf) rfl rfl rfl rfl (Nat.le_of_ble_eq_true rfl) (Nat.le_of_ble_eq_true rfl) k2 ?_
    show mq_G mq_X10_laysCoordinates (19, [some (.ref 77), some (.int x1)], [.int r2, .ref 88], M) res
    obtain ⟨q4, h⟩ := h
    obtain ⟨M3, e3⟩ : ∃ y, y = mz_wr M 88 (upd (M.1 88) r2.toNatClampNeg x1) := ⟨_, rfl⟩
    replace h := h M3 e3
    refine mz_Go.steps (n := 2) (k2 := (21, [some (.ref 77), some (.int x1)], [], (mz_wr M 88 (upd (M.1 88) r2.toNatClampNeg x1)))) (P := [vp_in r2 256]) rfl (mz_o1 q4) ?_
    rw [← e3]
    refine mz_Go.steps (n := 2) (k2 := (2, [some (.ref 77), some (.int (x1 + 1))], [], M3)) (P := []) rfl mz_o0 ?_
    exact h
set_option maxRecDepth 100000 in
set_option maxHeartbeats 4000000 in
theorem t_X10_baseAt_0 (x1 : Int32) (x2 : Int32) (M : mz_M) {res : mz_O} (h :
    (vp_in ((1 + (8 * x1)) + x2) 33) ∧
    res = (some (.int (M.1 78 ((1 + (8 * x1)) + x2).toNatClampNeg)), M)) :
    mq_G mq_X10_baseAt (0, [some (.ref 77), some (.int x1), some (.int x2)], [], M) res := by
  obtain ⟨q1, h⟩ := h
  refine mz_Go.steps (n := 10) (k2 := (13, [some (.ref 77), some (.int x1), some (.int x2)], [.int (M.1 78 ((1 + (8 * x1)) + x2).toNatClampNeg)], M)) (P := [vp_in ((1 + (8 * x1)) + x2) 33]) rfl (mz_o1 q1) ?_
  rw [h]
  exact mz_Go.iret (rfl : mz_find 13 (mz_rows mq_X10_baseAt) = some (13, .ireturn, 1, 0, 0, 0)) rfl
set_option maxRecDepth 100000 in
set_option maxHeartbeats 4000000 in
theorem t_X10_looksAt_0 (x1 : Int32) (M : mz_M) {res : mz_O} (h :
    mq_G mq_X10_looksAt (2, [some (.ref 77), some (.int x1), some (.int 0)], [], M) res) :
    mq_G mq_X10_looksAt (0, [some (.ref 77), some (.int x1), none], [], M) res := by
  refine mz_Go.steps (n := 2) (k2 := (2, [some (.ref 77), some (.int x1), some (.int 0)], [], M)) (P := []) rfl mz_o0 ?_
  exact h
set_option maxRecDepth 100000 in
set_option maxHeartbeats 4000000 in
theorem t_X10_looksAt_2 (x1 : Int32) (x2 : Int32) (M : mz_M) {res : mz_O} (h :
    (((M.1 77 11) ≤ x2 →
      (∃ (M2 : mz_M), (mq_C mq_X10_laysCoordinates [.ref 77] M (none, M2)) ∧
      res = (none, M2))) ∧
    (¬ ((M.1 77 11) ≤ x2) →
      (∃ (r3 : Int32), (mq_C mq_X10_baseAt [.ref 77, .int x1, .int x2] M (some (.int r3), M)) ∧
      (vp_in x2 8) ∧
      (∀ M4 : mz_M, M4 = mz_wr M 87 (upd (M.1 87) x2.toNatClampNeg r3) →
      mq_G mq_X10_looksAt (2, [some (.ref 77), some (.int x1), some (.int (x2 + 1))], [], M4) res))))) :
    mq_G mq_X10_looksAt (2, [some (.ref 77), some (.int x1), some (.int x2)], [], M) res := by
  refine mz_Go.steps (n := 4) (k2 := (if (M.1 77 11) ≤ x2 then 28 else 10, [some (.ref 77), some (.int x1), some (.int x2)], [], M)) (P := []) rfl mz_o0 ?_
  refine mz_Go.ite (fun c7 => ?_) (fun c7 => ?_)
  · replace h := h.1 c7
    refine mz_Go.steps (n := 1) (k2 := (29, [some (.ref 77), some (.int x1), some (.int x2)], [.ref 77], M)) (P := []) rfl mz_o0 ?_
    obtain ⟨M2, k2, h⟩ := h
    refine mz_Go.callV (As := []) (rest := []) (rfl : mz_find 29 (mz_rows mq_X10_looksAt) = some (29, .invokevirtual 126, 3, 166, 0, 172)) (rfl : mz_nth mq_tab 166 = some mq_X10_laysCoordinates) rfl rfl rfl rfl (Nat.le_of_ble_eq_true rfl) (Nat.le_of_ble_eq_true rfl) k2 ?_
    show mq_G mq_X10_looksAt (32, [some (.ref 77), some (.int x1), some (.int x2)], [], M2) res
    rw [h]
    exact mz_Go.vret (rfl : mz_find 32 (mz_rows mq_X10_looksAt) = some (32, .return_, 1, 0, 0, 0)) rfl
  · replace h := h.2 c7
    refine mz_Go.steps (n := 6) (k2 := (18, [some (.ref 77), some (.int x1), some (.int x2)], [.int x2, .int x1, .ref 77, .int x2, .ref 87], M)) (P := []) rfl mz_o0 ?_
    obtain ⟨r3, k3, h⟩ := h
    refine mz_Go.callV (As := [.int x1, .int x2]) (rest := [.int x2, .ref 87]) (rfl : mz_find 18 (mz_rows mq_X10_looksAt) = some (18, .invokevirtual 123, 3, 167, 0, 171)) (rfl : mz_nth mq_tab 167 = some mq_X10_baseAt) rfl rfl rfl rfl (Nat.le_of_ble_eq_true rfl) (Nat.le_of_ble_eq_true rfl) k3 ?_
    show mq_G mq_X10_looksAt (21, [some (.ref 77), some (.int x1), some (.int x2)], [.int r3, .int x2, .ref 87], M) res
    obtain ⟨q5, h⟩ := h
    obtain ⟨M4, e4⟩ : ∃ y, y = mz_wr M 87 (upd (M.1 87) x2.toNatClampNeg r3) := ⟨_, rfl⟩
    replace h := h M4 e4
    refine mz_Go.steps (n := 1) (k2 := (22, [some (.ref 77), some (.int x1), some (.int x2)], [], (mz_wr M 87 (upd (M.1 87) x2.toNatClampNeg r3)))) (P := [vp_in x2 8]) rfl (mz_o1 q5) ?_
    rw [← e4]
    refine mz_Go.steps (n := 2) (k2 := (2, [some (.ref 77), some (.int x1), some (.int (x2 + 1))], [], M4)) (P := []) rfl mz_o0 ?_
    exact h
set_option maxRecDepth 100000 in
set_option maxHeartbeats 4000000 in
theorem t_X10_complexityNow_0 (M : mz_M) {res : mz_O} (h :
    mq_G mq_X10_complexityNow (4, [some (.ref 77), some (.int 0), some (.int 0)], [], M) res) :
    mq_G mq_X10_complexityNow (0, [some (.ref 77), none, none], [], M) res := by
  refine mz_Go.steps (n := 4) (k2 := (4, [some (.ref 77), some (.int 0), some (.int 0)], [], M)) (P := []) rfl mz_o0 ?_
  exact h
set_option maxRecDepth 100000 in
set_option maxHeartbeats 4000000 in
theorem t_X10_complexityNow_4 (x1 : Int32) (x2 : Int32) (M : mz_M) {res : mz_O} (h :
    (((M.1 77 11) ≤ x2 →
      res = (some (.int x1), M)) ∧
    (¬ ((M.1 77 11) ≤ x2) →
      (vp_in 0 8) ∧
      (vp_in x2 8) ∧
      (∃ (r4 : Int32), (mq_C mq_X10_times [.ref 77, .int (M.1 87 (0 : Int32).toNatClampNeg), .int (M.1 87 x2.toNatClampNeg)] M (some (.int r4), M)) ∧
      (vp_in r4 256) ∧
      (∃ (r6 : Int32), (mq_C mq_X10_bits [.int (M.1 88 r4.toNatClampNeg)] M (some (.int r6), M)) ∧
      mq_G mq_X10_complexityNow (4, [some (.ref 77), some (.int (x1 + r6)), some (.int (x2 + 1))], [], M) res))))) :
    mq_G mq_X10_complexityNow (4, [some (.ref 77), some (.int x1), some (.int x2)], [], M) res := by
  refine mz_Go.steps (n := 4) (k2 := (if (M.1 77 11) ≤ x2 then 45 else 12, [some (.ref 77), some (.int x1), some (.int x2)], [], M)) (P := []) rfl mz_o0 ?_
  refine mz_Go.ite (fun c9 => ?_) (fun c9 => ?_)
  · replace h := h.1 c9
    refine mz_Go.steps (n := 1) (k2 := (46, [some (.ref 77), some (.int x1), some (.int x2)], [.int x1], M)) (P := []) rfl mz_o0 ?_
    rw [h]
    exact mz_Go.iret (rfl : mz_find 46 (mz_rows mq_X10_complexityNow) = some (46, .ireturn, 1, 0, 0, 0)) rfl
  · replace h := h.2 c9
    obtain ⟨q2, q3, h⟩ := h
    refine mz_Go.steps (n := 12) (k2 := (30, [some (.ref 77), some (.int x1), some (.int x2)], [.int (M.1 87 x2.toNatClampNeg), .int (M.1 87 (0 : Int32).toNatClampNeg), .ref 77, .ref 88, .int x1], M)) (P := [vp_in 0 8, vp_in x2 8]) rfl (mz_o2 q2 q3) ?_
    obtain ⟨r4, k4, h⟩ := h
    refine mz_Go.callV (As := [.int (M.1 87 (0 : Int32).toNatClampNeg), .int (M.1 87 x2.toNatClampNeg)]) (rest := [.ref 88, .int x1]) (rfl : mz_find 30 (mz_rows mq_X10_complexityNow) = some (30, .invokevirtual 92, 3, 147, 0, 156)) (rfl : mz_nth mq_tab 147 = some mq_X10_times) rfl rfl rfl rfl (Nat.le_of_ble_eq_true rfl) (Nat.le_of_ble_eq_true rfl) k4 ?_
    show mq_G mq_X10_complexityNow (33, [some (.ref 77), some (.int x1), some (.int x2)], [.int r4, .ref 88, .int x1], M) res
    obtain ⟨q5, h⟩ := h
    refine mz_Go.steps (n := 1) (k2 := (34, [some (.ref 77), some (.int x1), some (.int x2)], [.int (M.1 88 r4.toNatClampNeg), .int x1], M)) (P := [vp_in r4 256]) rfl (mz_o1 q5) ?_
    obtain ⟨r6, k6, h⟩ := h
    refine mz_Go.callS (As := [.int (M.1 88 r4.toNatClampNeg)]) (rest := [.int x1]) (rfl : mz_find 34 (mz_rows mq_X10_complexityNow) = some (34, .invokestatic 129, 3, 136, 0, 173)) (rfl : mz_nth mq_tab 136 = some mq_X10_bits) (by decide) rfl rfl rfl (Nat.le_of_ble_eq_true rfl) (Nat.le_of_ble_eq_true rfl) k6 ?_
    show mq_G mq_X10_complexityNow (37, [some (.ref 77), some (.int x1), some (.int x2)], [.int r6, .int x1], M) res
    refine mz_Go.steps (n := 4) (k2 := (4, [some (.ref 77), some (.int (x1 + r6)), some (.int (x2 + 1))], [], M)) (P := []) rfl mz_o0 ?_
    exact h
set_option maxRecDepth 100000 in
set_option maxHeartbeats 4000000 in
theorem t_X10_weightNow_0 (M : mz_M) {res : mz_O} (h :
    mq_G mq_X10_weightNow (4, [some (.ref 77), some (.int 0), some (.int 0), none], [], M) res) :
    mq_G mq_X10_weightNow (0, [some (.ref 77), none, none, none], [], M) res := by
  refine mz_Go.steps (n := 4) (k2 := (4, [some (.ref 77), some (.int 0), some (.int 0), none], [], M)) (P := []) rfl mz_o0 ?_
  exact h
set_option maxRecDepth 100000 in
set_option maxHeartbeats 4000000 in
theorem t_X10_weightNow_4 (x1 : Int32) (x2 : Int32) (o3 : Option Value) (M : mz_M) {res : mz_O} (h :
    (((M.1 77 11) ≤ x2 →
      res = (some (.int x1), M)) ∧
    (¬ ((M.1 77 11) ≤ x2) →
      mq_G mq_X10_weightNow (14, [some (.ref 77), some (.int x1), some (.int x2), some (.int x2)], [], M) res))) :
    mq_G mq_X10_weightNow (4, [some (.ref 77), some (.int x1), some (.int x2), o3], [], M) res := by
  refine mz_Go.steps (n := 4) (k2 := (if (M.1 77 11) ≤ x2 then 61 else 12, [some (.ref 77), some (.int x1), some (.int x2), o3], [], M)) (P := []) rfl mz_o0 ?_
  refine mz_Go.ite (fun c9 => ?_) (fun c9 => ?_)
  · replace h := h.1 c9
    refine mz_Go.steps (n := 1) (k2 := (62, [some (.ref 77), some (.int x1), some (.int x2), o3], [.int x1], M)) (P := []) rfl mz_o0 ?_
    rw [h]
    exact mz_Go.iret (rfl : mz_find 62 (mz_rows mq_X10_weightNow) = some (62, .ireturn, 1, 0, 0, 0)) rfl
  · replace h := h.2 c9
    refine mz_Go.steps (n := 2) (k2 := (14, [some (.ref 77), some (.int x1), some (.int x2), some (.int x2)], [], M)) (P := []) rfl mz_o0 ?_
    exact h
set_option maxRecDepth 100000 in
set_option maxHeartbeats 4000000 in
theorem t_X10_weightNow_14 (x1 : Int32) (x2 : Int32) (x3 : Int32) (M : mz_M) {res : mz_O} (h :
    (((M.1 77 11) ≤ x3 →
      mq_G mq_X10_weightNow (4, [some (.ref 77), some (.int x1), some (.int (x2 + 1)), some (.int x3)], [], M) res) ∧
    (¬ ((M.1 77 11) ≤ x3) →
      (vp_in x2 8) ∧
      (vp_in x3 8) ∧
      (∃ (r4 : Int32), (mq_C mq_X10_times [.ref 77, .int (M.1 87 x2.toNatClampNeg), .int (M.1 87 x3.toNatClampNeg)] M (some (.int r4), M)) ∧
      (vp_in r4 256) ∧
      (∃ (r6 : Int32), (mq_C mq_X10_bits [.int (M.1 88 r4.toNatClampNeg)] M (some (.int r6), M)) ∧
      mq_G mq_X10_weightNow (14, [some (.ref 77), some (.int (x1 + r6)), some (.int x2), some (.int (x3 + 1))], [], M) res))))) :
    mq_G mq_X10_weightNow (14, [some (.ref 77), some (.int x1), some (.int x2), some (.int x3)], [], M) res := by
  refine mz_Go.steps (n := 4) (k2 := (if (M.1 77 11) ≤ x3 then 55 else 22, [some (.ref 77), some (.int x1), some (.int x2), some (.int x3)], [], M)) (P := []) rfl mz_o0 ?_
  refine mz_Go.ite (fun c19 => ?_) (fun c19 => ?_)
  · replace h := h.1 c19
    refine mz_Go.steps (n := 2) (k2 := (4, [some (.ref 77), some (.int x1), some (.int (x2 + 1)), some (.int x3)], [], M)) (P := []) rfl mz_o0 ?_
    exact h
  · replace h := h.2 c19
    obtain ⟨q2, q3, h⟩ := h
    refine mz_Go.steps (n := 12) (k2 := (40, [some (.ref 77), some (.int x1), some (.int x2), some (.int x3)], [.int (M.1 87 x3.toNatClampNeg), .int (M.1 87 x2.toNatClampNeg), .ref 77, .ref 88, .int x1], M)) (P := [vp_in x2 8, vp_in x3 8]) rfl (mz_o2 q2 q3) ?_
    obtain ⟨r4, k4, h⟩ := h
    refine mz_Go.callV (As := [.int (M.1 87 x2.toNatClampNeg), .int (M.1 87 x3.toNatClampNeg)]) (rest := [.ref 88, .int x1]) (rfl : mz_find 40 (mz_rows mq_X10_weightNow) = some (40, .invokevirtual 92, 3, 147, 0, 156)) (rfl : mz_nth mq_tab 147 = some mq_X10_times) rfl rfl rfl rfl (Nat.le_of_ble_eq_true rfl) (Nat.le_of_ble_eq_true rfl) k4 ?_
    show mq_G mq_X10_weightNow (43, [some (.ref 77), some (.int x1), some (.int x2), some (.int x3)], [.int r4, .ref 88, .int x1], M) res
    obtain ⟨q5, h⟩ := h
    refine mz_Go.steps (n := 1) (k2 := (44, [some (.ref 77), some (.int x1), some (.int x2), some (.int x3)], [.int (M.1 88 r4.toNatClampNeg), .int x1], M)) (P := [vp_in r4 256]) rfl (mz_o1 q5) ?_
    obtain ⟨r6, k6, h⟩ := h
    refine mz_Go.callS (As := [.int (M.1 88 r4.toNatClampNeg)]) (rest := [.int x1]) (rfl : mz_find 44 (mz_rows mq_X10_weightNow) = some (44, .invokestatic 129, 3, 136, 0, 173)) (rfl : mz_nth mq_tab 136 = some mq_X10_bits) (by decide) rfl rfl rfl (Nat.le_of_ble_eq_true rfl) (Nat.le_of_ble_eq_true rfl) k6 ?_
    show mq_G mq_X10_weightNow (47, [some (.ref 77), some (.int x1), some (.int x2), some (.int x3)], [.int r6, .int x1], M) res
    refine mz_Go.steps (n := 4) (k2 := (14, [some (.ref 77), some (.int (x1 + r6)), some (.int x2), some (.int (x3 + 1))], [], M)) (P := []) rfl mz_o0 ?_
    exact h
set_option maxRecDepth 100000 in
set_option maxHeartbeats 4000000 in
theorem t_X10_isNormalBase_0 (M : mz_M) {res : mz_O} (h :
    mq_G mq_X10_isNormalBase (2, [some (.ref 77), some (.int 1)], [], M) res) :
    mq_G mq_X10_isNormalBase (0, [some (.ref 77), none], [], M) res := by
  refine mz_Go.steps (n := 2) (k2 := (2, [some (.ref 77), some (.int 1)], [], M)) (P := []) rfl mz_o0 ?_
  exact h
set_option maxRecDepth 100000 in
set_option maxHeartbeats 4000000 in
theorem t_X10_isNormalBase_2 (x1 : Int32) (M : mz_M) {res : mz_O} (h :
    (((M.1 77 11) ≤ x1 →
      (vp_in 0 8) ∧
      (∃ (r3 : Int32) (M3 : mz_M), (mq_C mq_X10_isNormal [.ref 77, .int (M.1 87 (0 : Int32).toNatClampNeg)] M (some (.int r3), M3)) ∧
      (r3 = 0 ∨ r3 = 1) ∧
      res = (some (.int r3), M3))) ∧
    (¬ ((M.1 77 11) ≤ x1) →
      (vp_in x1 8) ∧
      (vp_in (x1 - 1) 8) ∧
      (vp_in (x1 - 1) 8) ∧
      (∃ (r8 : Int32), (mq_C mq_X10_times [.ref 77, .int (M.1 87 (x1 - 1).toNatClampNeg), .int (M.1 87 (x1 - 1).toNatClampNeg)] M (some (.int r8), M)) ∧
      (((M.1 87 x1.toNatClampNeg) = r8 →
        mq_G mq_X10_isNormalBase (2, [some (.ref 77), some (.int (x1 + 1))], [], M) res) ∧
      (¬ ((M.1 87 x1.toNatClampNeg) = r8) →
        res = (some (.int 0), M))))))) :
    mq_G mq_X10_isNormalBase (2, [some (.ref 77), some (.int x1)], [], M) res := by
  refine mz_Go.steps (n := 4) (k2 := (if (M.1 77 11) ≤ x1 then 47 else 10, [some (.ref 77), some (.int x1)], [], M)) (P := []) rfl mz_o0 ?_
  refine mz_Go.ite (fun c7 => ?_) (fun c7 => ?_)
  · replace h := h.1 c7
    obtain ⟨q2, h⟩ := h
    refine mz_Go.steps (n := 5) (k2 := (54, [some (.ref 77), some (.int x1)], [.int (M.1 87 (0 : Int32).toNatClampNeg), .ref 77], M)) (P := [vp_in 0 8]) rfl (mz_o1 q2) ?_
    obtain ⟨r3, M3, k3, h⟩ := h
    refine mz_Go.callV (As := [.int (M.1 87 (0 : Int32).toNatClampNeg)]) (rest := []) (rfl : mz_find 54 (mz_rows mq_X10_isNormalBase) = some (54, .invokevirtual 132, 3, 162, 0, 174)) (rfl : mz_nth mq_tab 162 = some mq_X10_isNormal) rfl rfl rfl rfl (Nat.le_of_ble_eq_true rfl) (Nat.le_of_ble_eq_true rfl) k3 ?_
    show mq_G mq_X10_isNormalBase (57, [some (.ref 77), some (.int x1)], [.int r3], M3) res
    obtain ⟨q4, h⟩ := h
    rw [h]
    exact mz_Go.zret (rfl : mz_find 57 (mz_rows mq_X10_isNormalBase) = some (57, .ireturn, 1, 0, 0, 0)) rfl q4
  · replace h := h.2 c7
    obtain ⟨q5, q6, q7, h⟩ := h
    refine mz_Go.steps (n := 17) (k2 := (33, [some (.ref 77), some (.int x1)], [.int (M.1 87 (x1 - 1).toNatClampNeg), .int (M.1 87 (x1 - 1).toNatClampNeg), .ref 77, .int (M.1 87 x1.toNatClampNeg)], M)) (P := [vp_in x1 8, vp_in (x1 - 1) 8, vp_in (x1 - 1) 8]) rfl (mz_o3 q5 q6 q7) ?_
    obtain ⟨r8, k8, h⟩ := h
    refine mz_Go.callV (As := [.int (M.1 87 (x1 - 1).toNatClampNeg), .int (M.1 87 (x1 - 1).toNatClampNeg)]) (rest := [.int (M.1 87 x1.toNatClampNeg)]) (rfl : mz_find 33 (mz_rows mq_X10_isNormalBase) = some (33, .invokevirtual 92, 3, 147, 0, 156)) (rfl : mz_nth mq_tab 147 = some mq_X10_times) rfl rfl rfl rfl (Nat.le_of_ble_eq_true rfl) (Nat.le_of_ble_eq_true rfl) k8 ?_
    show mq_G mq_X10_isNormalBase (36, [some (.ref 77), some (.int x1)], [.int r8, .int (M.1 87 x1.toNatClampNeg)], M) res
    refine mz_Go.steps (n := 1) (k2 := (if (M.1 87 x1.toNatClampNeg) = r8 then 41 else 39, [some (.ref 77), some (.int x1)], [], M)) (P := []) rfl mz_o0 ?_
    refine mz_Go.ite (fun c36 => ?_) (fun c36 => ?_)
    · replace h := h.1 c36
      refine mz_Go.steps (n := 2) (k2 := (2, [some (.ref 77), some (.int (x1 + 1))], [], M)) (P := []) rfl mz_o0 ?_
      exact h
    · replace h := h.2 c36
      refine mz_Go.steps (n := 1) (k2 := (40, [some (.ref 77), some (.int x1)], [.int 0], M)) (P := []) rfl mz_o0 ?_
      rw [h]
      exact mz_Go.zret (rfl : mz_find 40 (mz_rows mq_X10_isNormalBase) = some (40, .ireturn, 1, 0, 0, 0)) rfl (Or.inl rfl)
set_option maxRecDepth 100000 in
set_option maxHeartbeats 4000000 in
theorem t_X10_someIsBase_0 (M : mz_M) {res : mz_O} (h :
    mq_G mq_X10_someIsBase (2, [some (.ref 77), some (.int 0)], [], M) res) :
    mq_G mq_X10_someIsBase (0, [some (.ref 77), none], [], M) res := by
  refine mz_Go.steps (n := 2) (k2 := (2, [some (.ref 77), some (.int 0)], [], M)) (P := []) rfl mz_o0 ?_
  exact h
set_option maxRecDepth 100000 in
set_option maxHeartbeats 4000000 in
theorem t_X10_someIsBase_2 (x1 : Int32) (M : mz_M) {res : mz_O} (h :
    (((M.1 77 11) ≤ x1 →
      (∃ (M2 : mz_M), (mq_C mq_X10_laysCoordinates [.ref 77] M (none, M2)) ∧
      res = (none, M2))) ∧
    (¬ ((M.1 77 11) ≤ x1) →
      (vp_in x1 8) ∧
      (vp_in x1 8) ∧
      (∀ M3 : mz_M, M3 = mz_wr M 87 (upd (M.1 87) x1.toNatClampNeg (M.1 84 x1.toNatClampNeg)) →
      mq_G mq_X10_someIsBase (2, [some (.ref 77), some (.int (x1 + 1))], [], M3) res)))) :
    mq_G mq_X10_someIsBase (2, [some (.ref 77), some (.int x1)], [], M) res := by
  refine mz_Go.steps (n := 4) (k2 := (if (M.1 77 11) ≤ x1 then 28 else 10, [some (.ref 77), some (.int x1)], [], M)) (P := []) rfl mz_o0 ?_
  refine mz_Go.ite (fun c7 => ?_) (fun c7 => ?_)
  · replace h := h.1 c7
    refine mz_Go.steps (n := 1) (k2 := (29, [some (.ref 77), some (.int x1)], [.ref 77], M)) (P := []) rfl mz_o0 ?_
    obtain ⟨M2, k2, h⟩ := h
    refine mz_Go.callV (As := []) (rest := []) (rfl : mz_find 29 (mz_rows mq_X10_someIsBase) = some (29, .invokevirtual 126, 3, 166, 0, 172)) (rfl : mz_nth mq_tab 166 = some mq_X10_laysCoordinates) rfl rfl rfl rfl (Nat.le_of_ble_eq_true rfl) (Nat.le_of_ble_eq_true rfl) k2 ?_
    show mq_G mq_X10_someIsBase (32, [some (.ref 77), some (.int x1)], [], M2) res
    rw [h]
    exact mz_Go.vret (rfl : mz_find 32 (mz_rows mq_X10_someIsBase) = some (32, .return_, 1, 0, 0, 0)) rfl
  · replace h := h.2 c7
    obtain ⟨q4, q5, h⟩ := h
    obtain ⟨M3, e3⟩ : ∃ y, y = mz_wr M 87 (upd (M.1 87) x1.toNatClampNeg (M.1 84 x1.toNatClampNeg)) := ⟨_, rfl⟩
    replace h := h M3 e3
    refine mz_Go.steps (n := 8) (k2 := (22, [some (.ref 77), some (.int x1)], [], (mz_wr M 87 (upd (M.1 87) x1.toNatClampNeg (M.1 84 x1.toNatClampNeg))))) (P := [vp_in x1 8, vp_in x1 8]) rfl (mz_o2 q4 q5) ?_
    rw [← e3]
    refine mz_Go.steps (n := 2) (k2 := (2, [some (.ref 77), some (.int (x1 + 1))], [], M3)) (P := []) rfl mz_o0 ?_
    exact h
set_option maxRecDepth 100000 in
set_option maxHeartbeats 4000000 in
theorem t_X10_does_0 (M : mz_M) {res : mz_O} (h :
    ((¬ (M.1 77 5) = 8 →
      mq_G mq_X10_does (52, [some (.ref 77), some (.int 0)], [], M) res) ∧
    (¬ (¬ (M.1 77 5) = 8) →
      mq_G mq_X10_does (12, [some (.ref 77), some (.int 33)], [], M) res))) :
    mq_G mq_X10_does (0, [some (.ref 77), none], [], M) res := by
  refine mz_Go.steps (n := 4) (k2 := (if ¬ (M.1 77 5) = 8 then 50 else 9, [some (.ref 77), none], [], M)) (P := []) rfl mz_o0 ?_
  refine mz_Go.ite (fun c6 => ?_) (fun c6 => ?_)
  · replace h := h.1 c6
    refine mz_Go.steps (n := 2) (k2 := (52, [some (.ref 77), some (.int 0)], [], M)) (P := []) rfl mz_o0 ?_
    exact h
  · replace h := h.2 c6
    refine mz_Go.steps (n := 2) (k2 := (12, [some (.ref 77), some (.int 33)], [], M)) (P := []) rfl mz_o0 ?_
    exact h
set_option maxRecDepth 100000 in
set_option maxHeartbeats 4000000 in
theorem t_X10_does_12 (x1 : Int32) (M : mz_M) {res : mz_O} (h :
    ((264 ≤ x1 →
      (∀ M2 : mz_M, M2 = mz_wr M 77 (upd (M.1 77) 5 ((M.1 77 5) - 1)) →
      mq_G mq_X10_does (52, [some (.ref 77), some (.int 0)], [], M2) res)) ∧
    (¬ (264 ≤ x1) →
      (vp_in x1 264) ∧
      (vp_in (x1 - 33) 264) ∧
      (∀ M3 : mz_M, M3 = mz_wr M 81 (upd (M.1 81) (x1 - 33).toNatClampNeg (M.1 81 x1.toNatClampNeg)) →
      mq_G mq_X10_does (12, [some (.ref 77), some (.int (x1 + 1))], [], M3) res)))) :
    mq_G mq_X10_does (12, [some (.ref 77), some (.int x1)], [], M) res := by
  refine mz_Go.steps (n := 3) (k2 := (if 264 ≤ x1 then 40 else 19, [some (.ref 77), some (.int x1)], [], M)) (P := []) rfl mz_o0 ?_
  refine mz_Go.ite (fun c16 => ?_) (fun c16 => ?_)
  · replace h := h.1 c16
    obtain ⟨M2, e2⟩ : ∃ y, y = mz_wr M 77 (upd (M.1 77) 5 ((M.1 77 5) - 1)) := ⟨_, rfl⟩
    replace h := h M2 e2
    refine mz_Go.steps (n := 6) (k2 := (50, [some (.ref 77), some (.int x1)], [], (mz_wr M 77 (upd (M.1 77) 5 ((M.1 77 5) - 1))))) (P := []) rfl mz_o0 ?_
    rw [← e2]
    refine mz_Go.steps (n := 2) (k2 := (52, [some (.ref 77), some (.int 0)], [], M2)) (P := []) rfl mz_o0 ?_
    exact h
  · replace h := h.2 c16
    obtain ⟨q4, q5, h⟩ := h
    obtain ⟨M3, e3⟩ : ∃ y, y = mz_wr M 81 (upd (M.1 81) (x1 - 33).toNatClampNeg (M.1 81 x1.toNatClampNeg)) := ⟨_, rfl⟩
    replace h := h M3 e3
    refine mz_Go.steps (n := 10) (k2 := (34, [some (.ref 77), some (.int x1)], [], (mz_wr M 81 (upd (M.1 81) (x1 - 33).toNatClampNeg (M.1 81 x1.toNatClampNeg))))) (P := [vp_in x1 264, vp_in (x1 - 33) 264]) rfl (mz_o2 q4 q5) ?_
    rw [← e3]
    refine mz_Go.steps (n := 2) (k2 := (12, [some (.ref 77), some (.int (x1 + 1))], [], M3)) (P := []) rfl mz_o0 ?_
    exact h
set_option maxRecDepth 100000 in
set_option maxHeartbeats 4000000 in
theorem t_X10_does_52 (x1 : Int32) (M : mz_M) {res : mz_O} (h :
    ((33 ≤ x1 →
      (∀ M2 : mz_M, M2 = mz_wr M 77 (upd (M.1 77) 5 ((M.1 77 5) + 1)) →
      res = (none, M2))) ∧
    (¬ (33 ≤ x1) →
      (vp_in x1 33) ∧
      (vp_in ((33 * (M.1 77 5)) + x1) 264) ∧
      (∀ M3 : mz_M, M3 = mz_wr M 81 (upd (M.1 81) ((33 * (M.1 77 5)) + x1).toNatClampNeg (M.1 78 x1.toNatClampNeg)) →
      mq_G mq_X10_does (52, [some (.ref 77), some (.int (x1 + 1))], [], M3) res)))) :
    mq_G mq_X10_does (52, [some (.ref 77), some (.int x1)], [], M) res := by
  refine mz_Go.steps (n := 3) (k2 := (if 33 ≤ x1 then 84 else 58, [some (.ref 77), some (.int x1)], [], M)) (P := []) rfl mz_o0 ?_
  refine mz_Go.ite (fun c55 => ?_) (fun c55 => ?_)
  · replace h := h.1 c55
    obtain ⟨M2, e2⟩ : ∃ y, y = mz_wr M 77 (upd (M.1 77) 5 ((M.1 77 5) + 1)) := ⟨_, rfl⟩
    replace h := h M2 e2
    refine mz_Go.steps (n := 6) (k2 := (94, [some (.ref 77), some (.int x1)], [], (mz_wr M 77 (upd (M.1 77) 5 ((M.1 77 5) + 1))))) (P := []) rfl mz_o0 ?_
    rw [← e2]
    rw [h]
    exact mz_Go.vret (rfl : mz_find 94 (mz_rows mq_X10_does) = some (94, .return_, 1, 0, 0, 0)) rfl
  · replace h := h.2 c55
    obtain ⟨q4, q5, h⟩ := h
    obtain ⟨M3, e3⟩ : ∃ y, y = mz_wr M 81 (upd (M.1 81) ((33 * (M.1 77 5)) + x1).toNatClampNeg (M.1 78 x1.toNatClampNeg)) := ⟨_, rfl⟩
    replace h := h M3 e3
    refine mz_Go.steps (n := 13) (k2 := (78, [some (.ref 77), some (.int x1)], [], (mz_wr M 81 (upd (M.1 81) ((33 * (M.1 77 5)) + x1).toNatClampNeg (M.1 78 x1.toNatClampNeg))))) (P := [vp_in x1 33, vp_in ((33 * (M.1 77 5)) + x1) 264]) rfl (mz_o2 q4 q5) ?_
    rw [← e3]
    refine mz_Go.steps (n := 2) (k2 := (52, [some (.ref 77), some (.int (x1 + 1))], [], M3)) (P := []) rfl mz_o0 ?_
    exact h
set_option maxRecDepth 100000 in
set_option maxHeartbeats 4000000 in
theorem t_X10_holds_0 (x1 : Int32) (M : mz_M) {res : mz_O} (h :
    (∃ (M1 : mz_M), (mq_C mq_X10_does [.ref 77] M (none, M1)) ∧
    mq_G mq_X10_holds (6, [some (.ref 77), some (.int x1), some (.int 0)], [], M1) res)) :
    mq_G mq_X10_holds (0, [some (.ref 77), some (.int x1), none], [], M) res := by
  refine mz_Go.steps (n := 1) (k2 := (1, [some (.ref 77), some (.int x1), none], [.ref 77], M)) (P := []) rfl mz_o0 ?_
  obtain ⟨M1, k1, h⟩ := h
  refine mz_Go.callV (As := []) (rest := []) (rfl : mz_find 1 (mz_rows mq_X10_holds) = some (1, .invokevirtual 139, 3, 173, 0, 177)) (rfl : mz_nth mq_tab 173 = some mq_X10_does) rfl rfl rfl rfl (Nat.le_of_ble_eq_true rfl) (Nat.le_of_ble_eq_true rfl) k1 ?_
  show mq_G mq_X10_holds (4, [some (.ref 77), some (.int x1), none], [], M1) res
  refine mz_Go.steps (n := 2) (k2 := (6, [some (.ref 77), some (.int x1), some (.int 0)], [], M1)) (P := []) rfl mz_o0 ?_
  exact h
set_option maxRecDepth 100000 in
set_option maxHeartbeats 4000000 in
theorem t_X10_holds_6 (x1 : Int32) (x2 : Int32) (M : mz_M) {res : mz_O} (h :
    (((M.1 77 11) ≤ x2 →
      (∃ (r2 : Int32), (mq_C mq_X10_complexityNow [.ref 77] M (some (.int r2), M)) ∧
      res = (some (.int r2), M))) ∧
    (¬ ((M.1 77 11) ≤ x2) →
      (vp_in x2 8) ∧
      (vp_in ((1 + (8 * x1)) + x2) 33) ∧
      (∀ M3 : mz_M, M3 = mz_wr M 78 (upd (M.1 78) ((1 + (8 * x1)) + x2).toNatClampNeg (M.1 87 x2.toNatClampNeg)) →
      mq_G mq_X10_holds (6, [some (.ref 77), some (.int x1), some (.int (x2 + 1))], [], M3) res)))) :
    mq_G mq_X10_holds (6, [some (.ref 77), some (.int x1), some (.int x2)], [], M) res := by
  refine mz_Go.steps (n := 4) (k2 := (if (M.1 77 11) ≤ x2 then 39 else 14, [some (.ref 77), some (.int x1), some (.int x2)], [], M)) (P := []) rfl mz_o0 ?_
  refine mz_Go.ite (fun c11 => ?_) (fun c11 => ?_)
  · replace h := h.1 c11
    refine mz_Go.steps (n := 1) (k2 := (40, [some (.ref 77), some (.int x1), some (.int x2)], [.ref 77], M)) (P := []) rfl mz_o0 ?_
    obtain ⟨r2, k2, h⟩ := h
    refine mz_Go.callV (As := []) (rest := []) (rfl : mz_find 40 (mz_rows mq_X10_holds) = some (40, .invokevirtual 142, 3, 169, 0, 178)) (rfl : mz_nth mq_tab 169 = some mq_X10_complexityNow) rfl rfl rfl rfl (Nat.le_of_ble_eq_true rfl) (Nat.le_of_ble_eq_true rfl) k2 ?_
    show mq_G mq_X10_holds (43, [some (.ref 77), some (.int x1), some (.int x2)], [.int r2], M) res
    rw [h]
    exact mz_Go.iret (rfl : mz_find 43 (mz_rows mq_X10_holds) = some (43, .ireturn, 1, 0, 0, 0)) rfl
  · replace h := h.2 c11
    obtain ⟨q4, q5, h⟩ := h
    obtain ⟨M3, e3⟩ : ∃ y, y = mz_wr M 78 (upd (M.1 78) ((1 + (8 * x1)) + x2).toNatClampNeg (M.1 87 x2.toNatClampNeg)) := ⟨_, rfl⟩
    replace h := h M3 e3
    refine mz_Go.steps (n := 14) (k2 := (33, [some (.ref 77), some (.int x1), some (.int x2)], [], (mz_wr M 78 (upd (M.1 78) ((1 + (8 * x1)) + x2).toNatClampNeg (M.1 87 x2.toNatClampNeg))))) (P := [vp_in x2 8, vp_in ((1 + (8 * x1)) + x2) 33]) rfl (mz_o2 q4 q5) ?_
    rw [← e3]
    refine mz_Go.steps (n := 2) (k2 := (6, [some (.ref 77), some (.int x1), some (.int (x2 + 1))], [], M3)) (P := []) rfl mz_o0 ?_
    exact h
set_option maxRecDepth 100000 in
set_option maxHeartbeats 4000000 in
theorem t_X10_begin_0 (M : mz_M) {res : mz_O} (h :
    (∀ M1 : mz_M, M1 = mz_wr M 77 (upd (M.1 77) 18 (M.1 77 7)) →
    (∀ M2 : mz_M, M2 = mz_wr M1 77 (upd (M1.1 77) 7 0) →
    (∀ M3 : mz_M, M3 = mz_wr M2 77 (upd (M2.1 77) 19 0) →
    (∀ M4 : mz_M, M4 = mz_wr M3 77 (upd (M3.1 77) 20 (-1)) →
    res = (none, M4)))))) :
    mq_G mq_X10_begin (0, [some (.ref 77)], [], M) res := by
  obtain ⟨M1, e1⟩ : ∃ y, y = mz_wr M 77 (upd (M.1 77) 18 (M.1 77 7)) := ⟨_, rfl⟩
  replace h := h M1 e1
  refine mz_Go.steps (n := 4) (k2 := (8, [some (.ref 77)], [], (mz_wr M 77 (upd (M.1 77) 18 (M.1 77 7))))) (P := []) rfl mz_o0 ?_
  rw [← e1]
  obtain ⟨M2, e2⟩ : ∃ y, y = mz_wr M1 77 (upd (M1.1 77) 7 0) := ⟨_, rfl⟩
  replace h := h M2 e2
  refine mz_Go.steps (n := 3) (k2 := (13, [some (.ref 77)], [], (mz_wr M1 77 (upd (M1.1 77) 7 0)))) (P := []) rfl mz_o0 ?_
  rw [← e2]
  obtain ⟨M3, e3⟩ : ∃ y, y = mz_wr M2 77 (upd (M2.1 77) 19 0) := ⟨_, rfl⟩
  replace h := h M3 e3
  refine mz_Go.steps (n := 3) (k2 := (18, [some (.ref 77)], [], (mz_wr M2 77 (upd (M2.1 77) 19 0)))) (P := []) rfl mz_o0 ?_
  rw [← e3]
  obtain ⟨M4, e4⟩ : ∃ y, y = mz_wr M3 77 (upd (M3.1 77) 20 (-1)) := ⟨_, rfl⟩
  replace h := h M4 e4
  refine mz_Go.steps (n := 3) (k2 := (23, [some (.ref 77)], [], (mz_wr M3 77 (upd (M3.1 77) 20 (-1))))) (P := []) rfl mz_o0 ?_
  rw [← e4]
  rw [h]
  exact mz_Go.vret (rfl : mz_find 23 (mz_rows mq_X10_begin) = some (23, .return_, 1, 0, 0, 0)) rfl
set_option maxRecDepth 100000 in
set_option maxHeartbeats 4000000 in
theorem t_X10_sees_0 (M : mz_M) {res : mz_O} (h :
    (((M.1 77 18) ≤ (M.1 77 19) →
      res = (some (.int (-1)), M)) ∧
    (¬ ((M.1 77 18) ≤ (M.1 77 19)) →
      (vp_in (M.1 77 19) 100) ∧
      res = (some (.int ((M.1 82 (M.1 77 19).toNatClampNeg) &&& 255)), M)))) :
    mq_G mq_X10_sees (0, [some (.ref 77)], [], M) res := by
  refine mz_Go.steps (n := 5) (k2 := (if (M.1 77 18) ≤ (M.1 77 19) then 27 else 11, [some (.ref 77)], [], M)) (P := []) rfl mz_o0 ?_
  refine mz_Go.ite (fun c8 => ?_) (fun c8 => ?_)
  · replace h := h.1 c8
    refine mz_Go.steps (n := 1) (k2 := (28, [some (.ref 77)], [.int (-1)], M)) (P := []) rfl mz_o0 ?_
    rw [h]
    exact mz_Go.iret (rfl : mz_find 28 (mz_rows mq_X10_sees) = some (28, .ireturn, 1, 0, 0, 0)) rfl
  · replace h := h.2 c8
    obtain ⟨q2, h⟩ := h
    refine mz_Go.steps (n := 8) (k2 := (28, [some (.ref 77)], [.int ((M.1 82 (M.1 77 19).toNatClampNeg) &&& 255)], M)) (P := [vp_in (M.1 77 19) 100]) rfl (mz_o1 q2) ?_
    rw [h]
    exact mz_Go.iret (rfl : mz_find 28 (mz_rows mq_X10_sees) = some (28, .ireturn, 1, 0, 0, 0)) rfl
set_option maxRecDepth 100000 in
set_option maxHeartbeats 4000000 in
theorem t_X10_fault_0 (x1 : Int32) (M : mz_M) {res : mz_O} (h :
    ((¬ (M.1 77 20) = (-1) →
      res = (none, M)) ∧
    (¬ (¬ (M.1 77 20) = (-1)) →
      (∀ M2 : mz_M, M2 = mz_wr M 77 (upd (M.1 77) 20 x1) →
      res = (none, M2))))) :
    mq_G mq_X10_fault (0, [some (.ref 77), some (.int x1)], [], M) res := by
  refine mz_Go.steps (n := 4) (k2 := (if ¬ (M.1 77 20) = (-1) then 13 else 8, [some (.ref 77), some (.int x1)], [], M)) (P := []) rfl mz_o0 ?_
  refine mz_Go.ite (fun c5 => ?_) (fun c5 => ?_)
  · replace h := h.1 c5
    rw [h]
    exact mz_Go.vret (rfl : mz_find 13 (mz_rows mq_X10_fault) = some (13, .return_, 1, 0, 0, 0)) rfl
  · replace h := h.2 c5
    obtain ⟨M2, e2⟩ : ∃ y, y = mz_wr M 77 (upd (M.1 77) 20 x1) := ⟨_, rfl⟩
    replace h := h M2 e2
    refine mz_Go.steps (n := 3) (k2 := (13, [some (.ref 77), some (.int x1)], [], (mz_wr M 77 (upd (M.1 77) 20 x1)))) (P := []) rfl mz_o0 ?_
    rw [← e2]
    rw [h]
    exact mz_Go.vret (rfl : mz_find 13 (mz_rows mq_X10_fault) = some (13, .return_, 1, 0, 0, 0)) rfl
set_option maxRecDepth 100000 in
set_option maxHeartbeats 4000000 in
theorem t_X10_readsPower_0 (x1 : Int32) (M : mz_M) {res : mz_O} (h :
    (∃ (r1 : Int32), (mq_C mq_X10_sees [.ref 77] M (some (.int r1), M)) ∧
    ((¬ r1 = 49 →
      mq_G mq_X10_readsPower (31, [some (.ref 77), some (.int x1)], [], M) res) ∧
    (¬ (¬ r1 = 49) →
      ((9 ≤ x1 →
        mq_G mq_X10_readsPower (31, [some (.ref 77), some (.int x1)], [], M) res) ∧
      (¬ (9 ≤ x1) →
        ((x1 ≤ 0 →
          mq_G mq_X10_readsPower (31, [some (.ref 77), some (.int x1)], [], M) res) ∧
        (¬ (x1 ≤ 0) →
          (∀ M5 : mz_M, M5 = mz_wr M 77 (upd (M.1 77) 19 ((M.1 77 19) + 1)) →
          res = (some (.int 0), M5)))))))))) :
    mq_G mq_X10_readsPower (0, [some (.ref 77), some (.int x1)], [], M) res := by
  refine mz_Go.steps (n := 1) (k2 := (1, [some (.ref 77), some (.int x1)], [.ref 77], M)) (P := []) rfl mz_o0 ?_
  obtain ⟨r1, k1, h⟩ := h
  refine mz_Go.callV (As := []) (rest := []) (rfl : mz_find 1 (mz_rows mq_X10_readsPower) = some (1, .invokevirtual 155, 3, 176, 0, 182)) (rfl : mz_nth mq_tab 176 = some mq_X10_sees) rfl rfl rfl rfl (Nat.le_of_ble_eq_true rfl) (Nat.le_of_ble_eq_true rfl) k1 ?_
  show mq_G mq_X10_readsPower (4, [some (.ref 77), some (.int x1)], [.int r1], M) res
  refine mz_Go.steps (n := 2) (k2 := (if ¬ r1 = 49 then 31 else 9, [some (.ref 77), some (.int x1)], [], M)) (P := []) rfl mz_o0 ?_
  refine mz_Go.ite (fun c6 => ?_) (fun c6 => ?_)
  · replace h := h.1 c6
    exact h
  · replace h := h.2 c6
    refine mz_Go.steps (n := 3) (k2 := (if 9 ≤ x1 then 31 else 15, [some (.ref 77), some (.int x1)], [], M)) (P := []) rfl mz_o0 ?_
    refine mz_Go.ite (fun c12 => ?_) (fun c12 => ?_)
    · replace h := h.1 c12
      exact h
    · replace h := h.2 c12
      refine mz_Go.steps (n := 2) (k2 := (if x1 ≤ 0 then 31 else 19, [some (.ref 77), some (.int x1)], [], M)) (P := []) rfl mz_o0 ?_
      refine mz_Go.ite (fun c16 => ?_) (fun c16 => ?_)
      · replace h := h.1 c16
        exact h
      · replace h := h.2 c16
        obtain ⟨M5, e5⟩ : ∃ y, y = mz_wr M 77 (upd (M.1 77) 19 ((M.1 77 19) + 1)) := ⟨_, rfl⟩
        replace h := h M5 e5
        refine mz_Go.steps (n := 6) (k2 := (29, [some (.ref 77), some (.int x1)], [], (mz_wr M 77 (upd (M.1 77) 19 ((M.1 77 19) + 1))))) (P := []) rfl mz_o0 ?_
        rw [← e5]
        refine mz_Go.steps (n := 1) (k2 := (30, [some (.ref 77), some (.int x1)], [.int 0], M5)) (P := []) rfl mz_o0 ?_
        rw [h]
        exact mz_Go.iret (rfl : mz_find 30 (mz_rows mq_X10_readsPower) = some (30, .ireturn, 1, 0, 0, 0)) rfl
set_option maxRecDepth 100000 in
set_option maxHeartbeats 4000000 in
theorem t_X10_readsPower_31 (x1 : Int32) (M : mz_M) {res : mz_O} (h :
    (∃ (r1 : Int32), (mq_C mq_X10_sees [.ref 77] M (some (.int r1), M)) ∧
    ((¬ r1 = 120 →
      mq_G mq_X10_readsPower (45, [some (.ref 77), some (.int x1)], [], M) res) ∧
    (¬ (¬ r1 = 120) →
      ((2 ≤ x1 →
        (∀ M4 : mz_M, M4 = mz_wr M 77 (upd (M.1 77) 19 ((M.1 77 19) + 1)) →
        ((9 ≤ x1 →
          mq_G mq_X10_readsPower (90, [some (.ref 77), some (.int x1)], [], M4) res) ∧
        (¬ (9 ≤ x1) →
          (∃ (r6 : Int32), (mq_C mq_X10_sees [.ref 77] M4 (some (.int r6), M4)) ∧
          (∃ (r7 : Int32), (mq_C mq_X10_in [.long (r6.toInt64), .long ((48 : Int32).toInt64), .long ((57 : Int32).toInt64)] M4 (some (.int r7), M4)) ∧
          ((¬ r7 = 0 →
            mq_G mq_X10_readsPower (90, [some (.ref 77), some (.int x1)], [], M4) res) ∧
          (¬ (¬ r7 = 0) →
            res = (some (.int 1), M4))))))))) ∧
      (¬ (2 ≤ x1) →
        mq_G mq_X10_readsPower (45, [some (.ref 77), some (.int x1)], [], M) res)))))) :
    mq_G mq_X10_readsPower (31, [some (.ref 77), some (.int x1)], [], M) res := by
  refine mz_Go.steps (n := 1) (k2 := (32, [some (.ref 77), some (.int x1)], [.ref 77], M)) (P := []) rfl mz_o0 ?_
  obtain ⟨r1, k1, h⟩ := h
  refine mz_Go.callV (As := []) (rest := []) (rfl : mz_find 32 (mz_rows mq_X10_readsPower) = some (32, .invokevirtual 155, 3, 176, 0, 182)) (rfl : mz_nth mq_tab 176 = some mq_X10_sees) rfl rfl rfl rfl (Nat.le_of_ble_eq_true rfl) (Nat.le_of_ble_eq_true rfl) k1 ?_
  show mq_G mq_X10_readsPower (35, [some (.ref 77), some (.int x1)], [.int r1], M) res
  refine mz_Go.steps (n := 2) (k2 := (if ¬ r1 = 120 then 45 else 40, [some (.ref 77), some (.int x1)], [], M)) (P := []) rfl mz_o0 ?_
  refine mz_Go.ite (fun c37 => ?_) (fun c37 => ?_)
  · replace h := h.1 c37
    exact h
  · replace h := h.2 c37
    refine mz_Go.steps (n := 3) (k2 := (if 2 ≤ x1 then 55 else 45, [some (.ref 77), some (.int x1)], [], M)) (P := []) rfl mz_o0 ?_
    refine mz_Go.ite (fun c42 => ?_) (fun c42 => ?_)
    · replace h := h.1 c42
      obtain ⟨M4, e4⟩ : ∃ y, y = mz_wr M 77 (upd (M.1 77) 19 ((M.1 77 19) + 1)) := ⟨_, rfl⟩
      replace h := h M4 e4
      refine mz_Go.steps (n := 6) (k2 := (65, [some (.ref 77), some (.int x1)], [], (mz_wr M 77 (upd (M.1 77) 19 ((M.1 77 19) + 1))))) (P := []) rfl mz_o0 ?_
      rw [← e4]
      refine mz_Go.steps (n := 3) (k2 := (if 9 ≤ x1 then 90 else 71, [some (.ref 77), some (.int x1)], [], M4)) (P := []) rfl mz_o0 ?_
      refine mz_Go.ite (fun c68 => ?_) (fun c68 => ?_)
      · replace h := h.1 c68
        exact h
      · replace h := h.2 c68
        refine mz_Go.steps (n := 1) (k2 := (72, [some (.ref 77), some (.int x1)], [.ref 77], M4)) (P := []) rfl mz_o0 ?_
        obtain ⟨r6, k6, h⟩ := h
        refine mz_Go.callV (As := []) (rest := []) (rfl : mz_find 72 (mz_rows mq_X10_readsPower) = some (72, .invokevirtual 155, 3, 176, 0, 182)) (rfl : mz_nth mq_tab 176 = some mq_X10_sees) rfl rfl rfl rfl (Nat.le_of_ble_eq_true rfl) (Nat.le_of_ble_eq_true rfl) k6 ?_
        show mq_G mq_X10_readsPower (75, [some (.ref 77), some (.int x1)], [.int r6], M4) res
        refine mz_Go.steps (n := 3) (k2 := (82, [some (.ref 77), some (.int x1)], [.long ((57 : Int32).toInt64), .long ((48 : Int32).toInt64), .long (r6.toInt64)], M4)) (P := []) rfl mz_o0 ?_
        obtain ⟨r7, k7, h⟩ := h
        refine mz_Go.callS (As := [.long (r6.toInt64), .long ((48 : Int32).toInt64), .long ((57 : Int32).toInt64)]) (rest := []) (rfl : mz_find 82 (mz_rows mq_X10_readsPower) = some (82, .invokestatic 65, 3, 133, 0, 147)) (rfl : mz_nth mq_tab 133 = some mq_X10_in) (by decide) rfl rfl rfl (Nat.le_of_ble_eq_true rfl) (Nat.le_of_ble_eq_true rfl) k7 ?_
        show mq_G mq_X10_readsPower (85, [some (.ref 77), some (.int x1)], [.int r7], M4) res
        refine mz_Go.steps (n := 1) (k2 := (if ¬ r7 = 0 then 90 else 88, [some (.ref 77), some (.int x1)], [], M4)) (P := []) rfl mz_o0 ?_
        refine mz_Go.ite (fun c85 => ?_) (fun c85 => ?_)
        · replace h := h.1 c85
          exact h
        · replace h := h.2 c85
          refine mz_Go.steps (n := 1) (k2 := (89, [some (.ref 77), some (.int x1)], [.int 1], M4)) (P := []) rfl mz_o0 ?_
          rw [h]
          exact mz_Go.iret (rfl : mz_find 89 (mz_rows mq_X10_readsPower) = some (89, .ireturn, 1, 0, 0, 0)) rfl
    · replace h := h.2 c42
      exact h
set_option maxRecDepth 100000 in
set_option maxHeartbeats 4000000 in
theorem t_X10_readsPower_45 (o1 : Option Value) (M : mz_M) {res : mz_O} (h :
    (∃ (M1 : mz_M), (mq_C mq_X10_fault [.ref 77, .int (M.1 77 19)] M (none, M1)) ∧
    res = (some (.int 0), M1))) :
    mq_G mq_X10_readsPower (45, [some (.ref 77), o1], [], M) res := by
  refine mz_Go.steps (n := 3) (k2 := (50, [some (.ref 77), o1], [.int (M.1 77 19), .ref 77], M)) (P := []) rfl mz_o0 ?_
  obtain ⟨M1, k1, h⟩ := h
  refine mz_Go.callV (As := [.int (M.1 77 19)]) (rest := []) (rfl : mz_find 50 (mz_rows mq_X10_readsPower) = some (50, .invokevirtual 158, 3, 177, 0, 183)) (rfl : mz_nth mq_tab 177 = some mq_X10_fault) rfl rfl rfl rfl (Nat.le_of_ble_eq_true rfl) (Nat.le_of_ble_eq_true rfl) k1 ?_
  show mq_G mq_X10_readsPower (53, [some (.ref 77), o1], [], M1) res
  refine mz_Go.steps (n := 1) (k2 := (54, [some (.ref 77), o1], [.int 0], M1)) (P := []) rfl mz_o0 ?_
  rw [h]
  exact mz_Go.iret (rfl : mz_find 54 (mz_rows mq_X10_readsPower) = some (54, .ireturn, 1, 0, 0, 0)) rfl
set_option maxRecDepth 100000 in
set_option maxHeartbeats 4000000 in
theorem t_X10_readsPower_90 (x1 : Int32) (M : mz_M) {res : mz_O} (h :
    (∃ (r1 : Int32), (mq_C mq_X10_sees [.ref 77] M (some (.int r1), M)) ∧
    (∃ (r2 : Int32), (mq_C mq_X10_in [.long (r1.toInt64), .long ((50 : Int32).toInt64), .long (((48 + x1) - 1).toInt64)] M (some (.int r2), M)) ∧
    ((¬ r2 = 0 →
      (∀ M4 : mz_M, M4 = mz_wr M 77 (upd (M.1 77) 19 ((M.1 77 19) + 1)) →
      (vp_in ((M4.1 77 19) - 1) 100) ∧
      res = (some (.int ((M4.1 82 ((M4.1 77 19) - 1).toNatClampNeg) - 48)), M4))) ∧
    (¬ (¬ r2 = 0) →
      (∃ (M6 : mz_M), (mq_C mq_X10_fault [.ref 77, .int (M.1 77 19)] M (none, M6)) ∧
      res = (some (.int 0), M6))))))) :
    mq_G mq_X10_readsPower (90, [some (.ref 77), some (.int x1)], [], M) res := by
  refine mz_Go.steps (n := 1) (k2 := (91, [some (.ref 77), some (.int x1)], [.ref 77], M)) (P := []) rfl mz_o0 ?_
  obtain ⟨r1, k1, h⟩ := h
  refine mz_Go.callV (As := []) (rest := []) (rfl : mz_find 91 (mz_rows mq_X10_readsPower) = some (91, .invokevirtual 155, 3, 176, 0, 182)) (rfl : mz_nth mq_tab 176 = some mq_X10_sees) rfl rfl rfl rfl (Nat.le_of_ble_eq_true rfl) (Nat.le_of_ble_eq_true rfl) k1 ?_
  show mq_G mq_X10_readsPower (94, [some (.ref 77), some (.int x1)], [.int r1], M) res
  refine mz_Go.steps (n := 8) (k2 := (105, [some (.ref 77), some (.int x1)], [.long (((48 + x1) - 1).toInt64), .long ((50 : Int32).toInt64), .long (r1.toInt64)], M)) (P := []) rfl mz_o0 ?_
  obtain ⟨r2, k2, h⟩ := h
  refine mz_Go.callS (As := [.long (r1.toInt64), .long ((50 : Int32).toInt64), .long (((48 + x1) - 1).toInt64)]) (rest := []) (rfl : mz_find 105 (mz_rows mq_X10_readsPower) = some (105, .invokestatic 65, 3, 133, 0, 147)) (rfl : mz_nth mq_tab 133 = some mq_X10_in) (by decide) rfl rfl rfl (Nat.le_of_ble_eq_true rfl) (Nat.le_of_ble_eq_true rfl) k2 ?_
  show mq_G mq_X10_readsPower (108, [some (.ref 77), some (.int x1)], [.int r2], M) res
  refine mz_Go.steps (n := 1) (k2 := (if ¬ r2 = 0 then 121 else 111, [some (.ref 77), some (.int x1)], [], M)) (P := []) rfl mz_o0 ?_
  refine mz_Go.ite (fun c108 => ?_) (fun c108 => ?_)
  · replace h := h.1 c108
    obtain ⟨M4, e4⟩ : ∃ y, y = mz_wr M 77 (upd (M.1 77) 19 ((M.1 77 19) + 1)) := ⟨_, rfl⟩
    replace h := h M4 e4
    refine mz_Go.steps (n := 6) (k2 := (131, [some (.ref 77), some (.int x1)], [], (mz_wr M 77 (upd (M.1 77) 19 ((M.1 77 19) + 1))))) (P := []) rfl mz_o0 ?_
    rw [← e4]
    obtain ⟨q5, h⟩ := h
    refine mz_Go.steps (n := 9) (k2 := (145, [some (.ref 77), some (.int x1)], [.int ((M4.1 82 ((M4.1 77 19) - 1).toNatClampNeg) - 48)], M4)) (P := [vp_in ((M4.1 77 19) - 1) 100]) rfl (mz_o1 q5) ?_
    rw [h]
    exact mz_Go.iret (rfl : mz_find 145 (mz_rows mq_X10_readsPower) = some (145, .ireturn, 1, 0, 0, 0)) rfl
  · replace h := h.2 c108
    refine mz_Go.steps (n := 3) (k2 := (116, [some (.ref 77), some (.int x1)], [.int (M.1 77 19), .ref 77], M)) (P := []) rfl mz_o0 ?_
    obtain ⟨M6, k6, h⟩ := h
    refine mz_Go.callV (As := [.int (M.1 77 19)]) (rest := []) (rfl : mz_find 116 (mz_rows mq_X10_readsPower) = some (116, .invokevirtual 158, 3, 177, 0, 183)) (rfl : mz_nth mq_tab 177 = some mq_X10_fault) rfl rfl rfl rfl (Nat.le_of_ble_eq_true rfl) (Nat.le_of_ble_eq_true rfl) k6 ?_
    show mq_G mq_X10_readsPower (119, [some (.ref 77), some (.int x1)], [], M6) res
    refine mz_Go.steps (n := 1) (k2 := (120, [some (.ref 77), some (.int x1)], [.int 0], M6)) (P := []) rfl mz_o0 ?_
    rw [h]
    exact mz_Go.iret (rfl : mz_find 120 (mz_rows mq_X10_readsPower) = some (120, .ireturn, 1, 0, 0, 0)) rfl
set_option maxRecDepth 100000 in
set_option maxHeartbeats 4000000 in
theorem t_X10_readsPoly_0 (M : mz_M) {res : mz_O} (h :
    mq_G mq_X10_readsPoly (7, [some (.ref 77), some (.int 0), some (.int 9), some (.int 1)], [], M) res) :
    mq_G mq_X10_readsPoly (0, [some (.ref 77), none, none, none], [], M) res := by
  refine mz_Go.steps (n := 6) (k2 := (7, [some (.ref 77), some (.int 0), some (.int 9), some (.int 1)], [], M)) (P := []) rfl mz_o0 ?_
  exact h
set_option maxRecDepth 100000 in
set_option maxHeartbeats 4000000 in
theorem t_X10_readsPoly_7 (x1 : Int32) (x2 : Int32) (x3 : Int32) (M : mz_M) {res : mz_O} (h :
    ((x3 = 0 →
      mq_G mq_X10_readsPoly (75, [some (.ref 77), some (.int x1), some (.int x2), some (.int x3)], [], M) res) ∧
    (¬ (x3 = 0) →
      ((¬ (M.1 77 20) = (-1) →
        mq_G mq_X10_readsPoly (75, [some (.ref 77), some (.int x1), some (.int x2), some (.int x3)], [], M) res) ∧
      (¬ (¬ (M.1 77 20) = (-1)) →
        (∃ (r3 : Int32) (M3 : mz_M), (mq_C mq_X10_readsPower [.ref 77, .int x2] M (some (.int r3), M3)) ∧
        ((¬ (M3.1 77 20) = (-1) →
          mq_G mq_X10_readsPoly (56, [some (.ref 77), some (.int (x1 ||| ((1 : Int32) <<< (r3 &&& 31)))), some (.int r3), some (.int x3)], [], M3) res) ∧
        (¬ (¬ (M3.1 77 20) = (-1)) →
          ((r3 ≤ 0 →
            mq_G mq_X10_readsPoly (56, [some (.ref 77), some (.int (x1 ||| ((1 : Int32) <<< (r3 &&& 31)))), some (.int r3), some (.int x3)], [], M3) res) ∧
          (¬ (r3 ≤ 0) →
            (∃ (r6 : Int32), (mq_C mq_X10_sees [.ref 77] M3 (some (.int r6), M3)) ∧
            ((¬ r6 = 43 →
              mq_G mq_X10_readsPoly (56, [some (.ref 77), some (.int (x1 ||| ((1 : Int32) <<< (r3 &&& 31)))), some (.int r3), some (.int x3)], [], M3) res) ∧
            (¬ (¬ r6 = 43) →
              mq_G mq_X10_readsPoly (57, [some (.ref 77), some (.int (x1 ||| ((1 : Int32) <<< (r3 &&& 31)))), some (.int r3), some (.int x3)], [.int 1], M3) res))))))))))))) :
    mq_G mq_X10_readsPoly (7, [some (.ref 77), some (.int x1), some (.int x2), some (.int x3)], [], M) res := by
  refine mz_Go.steps (n := 2) (k2 := (if x3 = 0 then 75 else 11, [some (.ref 77), some (.int x1), some (.int x2), some (.int x3)], [], M)) (P := []) rfl mz_o0 ?_
  refine mz_Go.ite (fun c8 => ?_) (fun c8 => ?_)
  · replace h := h.1 c8
    exact h
  · replace h := h.2 c8
    refine mz_Go.steps (n := 4) (k2 := (if ¬ (M.1 77 20) = (-1) then 75 else 19, [some (.ref 77), some (.int x1), some (.int x2), some (.int x3)], [], M)) (P := []) rfl mz_o0 ?_
    refine mz_Go.ite (fun c16 => ?_) (fun c16 => ?_)
    · replace h := h.1 c16
      exact h
    · replace h := h.2 c16
      refine mz_Go.steps (n := 2) (k2 := (21, [some (.ref 77), some (.int x1), some (.int x2), some (.int x3)], [.int x2, .ref 77], M)) (P := []) rfl mz_o0 ?_
      obtain ⟨r3, M3, k3, h⟩ := h
      refine mz_Go.callV (As := [.int x2]) (rest := []) (rfl : mz_find 21 (mz_rows mq_X10_readsPoly) = some (21, .invokevirtual 167, 3, 178, 0, 187)) (rfl : mz_nth mq_tab 178 = some mq_X10_readsPower) rfl rfl rfl rfl (Nat.le_of_ble_eq_true rfl) (Nat.le_of_ble_eq_true rfl) k3 ?_
      show mq_G mq_X10_readsPoly (24, [some (.ref 77), some (.int x1), some (.int x2), some (.int x3)], [.int r3], M3) res
      refine mz_Go.steps (n := 11) (k2 := (if ¬ (M3.1 77 20) = (-1) then 56 else 39, [some (.ref 77), some (.int (x1 ||| ((1 : Int32) <<< (r3 &&& 31)))), some (.int r3), some (.int x3)], [], M3)) (P := []) rfl mz_o0 ?_
      refine mz_Go.ite (fun c36 => ?_) (fun c36 => ?_)
      · replace h := h.1 c36
        exact h
      · replace h := h.2 c36
        refine mz_Go.steps (n := 2) (k2 := (if r3 ≤ 0 then 56 else 43, [some (.ref 77), some (.int (x1 ||| ((1 : Int32) <<< (r3 &&& 31)))), some (.int r3), some (.int x3)], [], M3)) (P := []) rfl mz_o0 ?_
        refine mz_Go.ite (fun c40 => ?_) (fun c40 => ?_)
        · replace h := h.1 c40
          exact h
        · replace h := h.2 c40
          refine mz_Go.steps (n := 1) (k2 := (44, [some (.ref 77), some (.int (x1 ||| ((1 : Int32) <<< (r3 &&& 31)))), some (.int r3), some (.int x3)], [.ref 77], M3)) (P := []) rfl mz_o0 ?_
          obtain ⟨r6, k6, h⟩ := h
          refine mz_Go.callV (As := []) (rest := []) (rfl : mz_find 44 (mz_rows mq_X10_readsPoly) = some (44, .invokevirtual 155, 3, 176, 0, 182)) (rfl : mz_nth mq_tab 176 = some mq_X10_sees) rfl rfl rfl rfl (Nat.le_of_ble_eq_true rfl) (Nat.le_of_ble_eq_true rfl) k6 ?_
          show mq_G mq_X10_readsPoly (47, [some (.ref 77), some (.int (x1 ||| ((1 : Int32) <<< (r3 &&& 31)))), some (.int r3), some (.int x3)], [.int r6], M3) res
          refine mz_Go.steps (n := 2) (k2 := (if ¬ r6 = 43 then 56 else 52, [some (.ref 77), some (.int (x1 ||| ((1 : Int32) <<< (r3 &&& 31)))), some (.int r3), some (.int x3)], [], M3)) (P := []) rfl mz_o0 ?_
          refine mz_Go.ite (fun c49 => ?_) (fun c49 => ?_)
          · replace h := h.1 c49
            exact h
          · replace h := h.2 c49
            refine mz_Go.steps (n := 2) (k2 := (57, [some (.ref 77), some (.int (x1 ||| ((1 : Int32) <<< (r3 &&& 31)))), some (.int r3), some (.int x3)], [.int 1], M3)) (P := []) rfl mz_o0 ?_
            exact h
set_option maxRecDepth 100000 in
set_option maxHeartbeats 4000000 in
theorem t_X10_readsPoly_56 (x1 : Int32) (x2 : Int32) (o3 : Option Value) (M : mz_M) {res : mz_O} (h :
    mq_G mq_X10_readsPoly (57, [some (.ref 77), some (.int x1), some (.int x2), o3], [.int 0], M) res) :
    mq_G mq_X10_readsPoly (56, [some (.ref 77), some (.int x1), some (.int x2), o3], [], M) res := by
  refine mz_Go.steps (n := 1) (k2 := (57, [some (.ref 77), some (.int x1), some (.int x2), o3], [.int 0], M)) (P := []) rfl mz_o0 ?_
  exact h
set_option maxRecDepth 100000 in
set_option maxHeartbeats 4000000 in
theorem t_X10_readsPoly_57 (x1 : Int32) (x2 : Int32) (o3 : Option Value) (s0 : Int32) (M : mz_M) {res : mz_O} (h :
    ((s0 = 0 →
      mq_G mq_X10_readsPoly (7, [some (.ref 77), some (.int x1), some (.int x2), some (.int s0)], [], M) res) ∧
    (¬ (s0 = 0) →
      (∀ M2 : mz_M, M2 = mz_wr M 77 (upd (M.1 77) 19 ((M.1 77 19) + 1)) →
      mq_G mq_X10_readsPoly (7, [some (.ref 77), some (.int x1), some (.int x2), some (.int s0)], [], M2) res)))) :
    mq_G mq_X10_readsPoly (57, [some (.ref 77), some (.int x1), some (.int x2), o3], [.int s0], M) res := by
  refine mz_Go.steps (n := 3) (k2 := (if s0 = 0 then 7 else 62, [some (.ref 77), some (.int x1), some (.int x2), some (.int s0)], [], M)) (P := []) rfl mz_o0 ?_
  refine mz_Go.ite (fun c59 => ?_) (fun c59 => ?_)
  · replace h := h.1 c59
    exact h
  · replace h := h.2 c59
    obtain ⟨M2, e2⟩ : ∃ y, y = mz_wr M 77 (upd (M.1 77) 19 ((M.1 77 19) + 1)) := ⟨_, rfl⟩
    replace h := h M2 e2
    refine mz_Go.steps (n := 6) (k2 := (72, [some (.ref 77), some (.int x1), some (.int x2), some (.int s0)], [], (mz_wr M 77 (upd (M.1 77) 19 ((M.1 77 19) + 1))))) (P := []) rfl mz_o0 ?_
    rw [← e2]
    refine mz_Go.steps (n := 1) (k2 := (7, [some (.ref 77), some (.int x1), some (.int x2), some (.int s0)], [], M2)) (P := []) rfl mz_o0 ?_
    exact h
set_option maxRecDepth 100000 in
set_option maxHeartbeats 4000000 in
theorem t_X10_readsPoly_75 (x1 : Int32) (o2 : Option Value) (o3 : Option Value) (M : mz_M) {res : mz_O} (h :
    ((¬ (M.1 77 20) = (-1) →
      mq_G mq_X10_readsPoly (102, [some (.ref 77), some (.int x1), o2, o3], [], M) res) ∧
    (¬ (¬ (M.1 77 20) = (-1)) →
      (((M.1 77 18) ≤ (M.1 77 19) →
        mq_G mq_X10_readsPoly (102, [some (.ref 77), some (.int x1), o2, o3], [], M) res) ∧
      (¬ ((M.1 77 18) ≤ (M.1 77 19)) →
        (∃ (M3 : mz_M), (mq_C mq_X10_fault [.ref 77, .int (M.1 77 19)] M (none, M3)) ∧
        mq_G mq_X10_readsPoly (102, [some (.ref 77), some (.int x1), o2, o3], [], M3) res)))))) :
    mq_G mq_X10_readsPoly (75, [some (.ref 77), some (.int x1), o2, o3], [], M) res := by
  refine mz_Go.steps (n := 4) (k2 := (if ¬ (M.1 77 20) = (-1) then 102 else 83, [some (.ref 77), some (.int x1), o2, o3], [], M)) (P := []) rfl mz_o0 ?_
  refine mz_Go.ite (fun c80 => ?_) (fun c80 => ?_)
  · replace h := h.1 c80
    exact h
  · replace h := h.2 c80
    refine mz_Go.steps (n := 5) (k2 := (if (M.1 77 18) ≤ (M.1 77 19) then 102 else 94, [some (.ref 77), some (.int x1), o2, o3], [], M)) (P := []) rfl mz_o0 ?_
    refine mz_Go.ite (fun c91 => ?_) (fun c91 => ?_)
    · replace h := h.1 c91
      exact h
    · replace h := h.2 c91
      refine mz_Go.steps (n := 3) (k2 := (99, [some (.ref 77), some (.int x1), o2, o3], [.int (M.1 77 19), .ref 77], M)) (P := []) rfl mz_o0 ?_
      obtain ⟨M3, k3, h⟩ := h
      refine mz_Go.callV (As := [.int (M.1 77 19)]) (rest := []) (rfl : mz_find 99 (mz_rows mq_X10_readsPoly) = some (99, .invokevirtual 158, 3, 177, 0, 183)) (rfl : mz_nth mq_tab 177 = some mq_X10_fault) rfl rfl rfl rfl (Nat.le_of_ble_eq_true rfl) (Nat.le_of_ble_eq_true rfl) k3 ?_
      show mq_G mq_X10_readsPoly (102, [some (.ref 77), some (.int x1), o2, o3], [], M3) res
      exact h
set_option maxRecDepth 100000 in
set_option maxHeartbeats 4000000 in
theorem t_X10_readsPoly_102 (o0 : Option Value) (x1 : Int32) (o2 : Option Value) (o3 : Option Value) (M : mz_M) {res : mz_O} (h :
    res = (some (.int x1), M)) :
    mq_G mq_X10_readsPoly (102, [o0, some (.int x1), o2, o3], [], M) res := by
  refine mz_Go.steps (n := 1) (k2 := (103, [o0, some (.int x1), o2, o3], [.int x1], M)) (P := []) rfl mz_o0 ?_
  rw [h]
  exact mz_Go.iret (rfl : mz_find 103 (mz_rows mq_X10_readsPoly) = some (103, .ireturn, 1, 0, 0, 0)) rfl
set_option maxRecDepth 100000 in
set_option maxHeartbeats 4000000 in
theorem t_X10_field_0 (M : mz_M) {res : mz_O} (h :
    (∀ M1 : mz_M, M1 = mz_wr M 77 (upd (M.1 77) 10 0) →
    (∃ (M2 : mz_M), (mq_C mq_X10_begin [.ref 77] M1 (none, M2)) ∧
    (∃ (r3 : Int32) (M3 : mz_M), (mq_C mq_X10_readsPoly [.ref 77] M2 (some (.int r3), M3)) ∧
    (((M3.1 77 20) = (-1) →
      (∃ (r5 : Int32), (mq_C mq_X10_isIrreducible [.int r3] M3 (some (.int r5), M3)) ∧
      ((¬ r5 = 0 →
        (∃ (M7 : mz_M), (mq_C mq_X10_does [.ref 77] M3 (none, M7)) ∧
        (∃ (M8 : mz_M), (mq_C mq_X10_fields [.ref 77, .int r3] M7 (none, M8)) ∧
        res = (some (.int (M8.1 77 11)), M8)))) ∧
      (¬ (¬ r5 = 0) →
        res = (some (.int (-2)), M3))))) ∧
    (¬ ((M3.1 77 20) = (-1)) →
      res = (some (.int ((-21) - (M3.1 77 20))), M3))))))) :
    mq_G mq_X10_field (0, [some (.ref 77), none], [], M) res := by
  obtain ⟨M1, e1⟩ : ∃ y, y = mz_wr M 77 (upd (M.1 77) 10 0) := ⟨_, rfl⟩
  replace h := h M1 e1
  refine mz_Go.steps (n := 3) (k2 := (5, [some (.ref 77), none], [], (mz_wr M 77 (upd (M.1 77) 10 0)))) (P := []) rfl mz_o0 ?_
  rw [← e1]
  refine mz_Go.steps (n := 1) (k2 := (6, [some (.ref 77), none], [.ref 77], M1)) (P := []) rfl mz_o0 ?_
  obtain ⟨M2, k2, h⟩ := h
  refine mz_Go.callV (As := []) (rest := []) (rfl : mz_find 6 (mz_rows mq_X10_field) = some (6, .invokevirtual 170, 3, 175, 0, 188)) (rfl : mz_nth mq_tab 175 = some mq_X10_begin) rfl rfl rfl rfl (Nat.le_of_ble_eq_true rfl) (Nat.le_of_ble_eq_true rfl) k2 ?_
  show mq_G mq_X10_field (9, [some (.ref 77), none], [], M2) res
  refine mz_Go.steps (n := 1) (k2 := (10, [some (.ref 77), none], [.ref 77], M2)) (P := []) rfl mz_o0 ?_
  obtain ⟨r3, M3, k3, h⟩ := h
  refine mz_Go.callV (As := []) (rest := []) (rfl : mz_find 10 (mz_rows mq_X10_field) = some (10, .invokevirtual 173, 3, 179, 0, 189)) (rfl : mz_nth mq_tab 179 = some mq_X10_readsPoly) rfl rfl rfl rfl (Nat.le_of_ble_eq_true rfl) (Nat.le_of_ble_eq_true rfl) k3 ?_
  show mq_G mq_X10_field (13, [some (.ref 77), none], [.int r3], M3) res
  refine mz_Go.steps (n := 5) (k2 := (if (M3.1 77 20) = (-1) then 30 else 22, [some (.ref 77), some (.int r3)], [], M3)) (P := []) rfl mz_o0 ?_
  refine mz_Go.ite (fun c19 => ?_) (fun c19 => ?_)
  · replace h := h.1 c19
    refine mz_Go.steps (n := 1) (k2 := (31, [some (.ref 77), some (.int r3)], [.int r3], M3)) (P := []) rfl mz_o0 ?_
    obtain ⟨r5, k5, h⟩ := h
    refine mz_Go.callS (As := [.int r3]) (rest := []) (rfl : mz_find 31 (mz_rows mq_X10_field) = some (31, .invokestatic 176, 3, 144, 0, 190)) (rfl : mz_nth mq_tab 144 = some mq_X10_isIrreducible) (by decide) rfl rfl rfl (Nat.le_of_ble_eq_true rfl) (Nat.le_of_ble_eq_true rfl) k5 ?_
    show mq_G mq_X10_field (34, [some (.ref 77), some (.int r3)], [.int r5], M3) res
    refine mz_Go.steps (n := 1) (k2 := (if ¬ r5 = 0 then 40 else 37, [some (.ref 77), some (.int r3)], [], M3)) (P := []) rfl mz_o0 ?_
    refine mz_Go.ite (fun c34 => ?_) (fun c34 => ?_)
    · replace h := h.1 c34
      refine mz_Go.steps (n := 1) (k2 := (41, [some (.ref 77), some (.int r3)], [.ref 77], M3)) (P := []) rfl mz_o0 ?_
      obtain ⟨M7, k7, h⟩ := h
      refine mz_Go.callV (As := []) (rest := []) (rfl : mz_find 41 (mz_rows mq_X10_field) = some (41, .invokevirtual 139, 3, 173, 0, 177)) (rfl : mz_nth mq_tab 173 = some mq_X10_does) rfl rfl rfl rfl (Nat.le_of_ble_eq_true rfl) (Nat.le_of_ble_eq_true rfl) k7 ?_
      show mq_G mq_X10_field (44, [some (.ref 77), some (.int r3)], [], M7) res
      refine mz_Go.steps (n := 2) (k2 := (46, [some (.ref 77), some (.int r3)], [.int r3, .ref 77], M7)) (P := []) rfl mz_o0 ?_
      obtain ⟨M8, k8, h⟩ := h
      refine mz_Go.callV (As := [.int r3]) (rest := []) (rfl : mz_find 46 (mz_rows mq_X10_field) = some (46, .invokevirtual 51, 3, 146, 0, 191)) (rfl : mz_nth mq_tab 146 = some mq_X10_fields) rfl rfl rfl rfl (Nat.le_of_ble_eq_true rfl) (Nat.le_of_ble_eq_true rfl) k8 ?_
      show mq_G mq_X10_field (49, [some (.ref 77), some (.int r3)], [], M8) res
      refine mz_Go.steps (n := 2) (k2 := (53, [some (.ref 77), some (.int r3)], [.int (M8.1 77 11)], M8)) (P := []) rfl mz_o0 ?_
      rw [h]
      exact mz_Go.iret (rfl : mz_find 53 (mz_rows mq_X10_field) = some (53, .ireturn, 1, 0, 0, 0)) rfl
    · replace h := h.2 c34
      refine mz_Go.steps (n := 1) (k2 := (39, [some (.ref 77), some (.int r3)], [.int (-2)], M3)) (P := []) rfl mz_o0 ?_
      rw [h]
      exact mz_Go.iret (rfl : mz_find 39 (mz_rows mq_X10_field) = some (39, .ireturn, 1, 0, 0, 0)) rfl
  · replace h := h.2 c19
    refine mz_Go.steps (n := 4) (k2 := (29, [some (.ref 77), some (.int r3)], [.int ((-21) - (M3.1 77 20))], M3)) (P := []) rfl mz_o0 ?_
    rw [h]
    exact mz_Go.iret (rfl : mz_find 29 (mz_rows mq_X10_field) = some (29, .ireturn, 1, 0, 0, 0)) rfl
set_option maxRecDepth 100000 in
set_option maxHeartbeats 4000000 in
theorem t_X10_poly_0 (x1 : Int32) (M : mz_M) {res : mz_O} (h :
    (∀ M1 : mz_M, M1 = mz_wr M 77 (upd (M.1 77) 10 0) →
    (∃ (r2 : Int32), (mq_C mq_X10_in [.long (x1.toInt64), .long ((4 : Int32).toInt64), .long ((511 : Int32).toInt64)] M1 (some (.int r2), M1)) ∧
    ((¬ r2 = 0 →
      (∃ (r4 : Int32), (mq_C mq_X10_isIrreducible [.int x1] M1 (some (.int r4), M1)) ∧
      ((¬ r4 = 0 →
        (∃ (M6 : mz_M), (mq_C mq_X10_does [.ref 77] M1 (none, M6)) ∧
        (∃ (M7 : mz_M), (mq_C mq_X10_fields [.ref 77, .int x1] M6 (none, M7)) ∧
        res = (some (.int (M7.1 77 11)), M7)))) ∧
      (¬ (¬ r4 = 0) →
        res = (some (.int (-2)), M1))))) ∧
    (¬ (¬ r2 = 0) →
      res = (some (.int (-1)), M1)))))) :
    mq_G mq_X10_poly (0, [some (.ref 77), some (.int x1)], [], M) res := by
  obtain ⟨M1, e1⟩ : ∃ y, y = mz_wr M 77 (upd (M.1 77) 10 0) := ⟨_, rfl⟩
  replace h := h M1 e1
  refine mz_Go.steps (n := 3) (k2 := (5, [some (.ref 77), some (.int x1)], [], (mz_wr M 77 (upd (M.1 77) 10 0)))) (P := []) rfl mz_o0 ?_
  rw [← e1]
  refine mz_Go.steps (n := 4) (k2 := (13, [some (.ref 77), some (.int x1)], [.long ((511 : Int32).toInt64), .long ((4 : Int32).toInt64), .long (x1.toInt64)], M1)) (P := []) rfl mz_o0 ?_
  obtain ⟨r2, k2, h⟩ := h
  refine mz_Go.callS (As := [.long (x1.toInt64), .long ((4 : Int32).toInt64), .long ((511 : Int32).toInt64)]) (rest := []) (rfl : mz_find 13 (mz_rows mq_X10_poly) = some (13, .invokestatic 65, 3, 133, 0, 147)) (rfl : mz_nth mq_tab 133 = some mq_X10_in) (by decide) rfl rfl rfl (Nat.le_of_ble_eq_true rfl) (Nat.le_of_ble_eq_true rfl) k2 ?_
  show mq_G mq_X10_poly (16, [some (.ref 77), some (.int x1)], [.int r2], M1) res
  refine mz_Go.steps (n := 1) (k2 := (if ¬ r2 = 0 then 21 else 19, [some (.ref 77), some (.int x1)], [], M1)) (P := []) rfl mz_o0 ?_
  refine mz_Go.ite (fun c16 => ?_) (fun c16 => ?_)
  · replace h := h.1 c16
    refine mz_Go.steps (n := 1) (k2 := (22, [some (.ref 77), some (.int x1)], [.int x1], M1)) (P := []) rfl mz_o0 ?_
    obtain ⟨r4, k4, h⟩ := h
    refine mz_Go.callS (As := [.int x1]) (rest := []) (rfl : mz_find 22 (mz_rows mq_X10_poly) = some (22, .invokestatic 176, 3, 144, 0, 190)) (rfl : mz_nth mq_tab 144 = some mq_X10_isIrreducible) (by decide) rfl rfl rfl (Nat.le_of_ble_eq_true rfl) (Nat.le_of_ble_eq_true rfl) k4 ?_
    show mq_G mq_X10_poly (25, [some (.ref 77), some (.int x1)], [.int r4], M1) res
    refine mz_Go.steps (n := 1) (k2 := (if ¬ r4 = 0 then 31 else 28, [some (.ref 77), some (.int x1)], [], M1)) (P := []) rfl mz_o0 ?_
    refine mz_Go.ite (fun c25 => ?_) (fun c25 => ?_)
    · replace h := h.1 c25
      refine mz_Go.steps (n := 1) (k2 := (32, [some (.ref 77), some (.int x1)], [.ref 77], M1)) (P := []) rfl mz_o0 ?_
      obtain ⟨M6, k6, h⟩ := h
      refine mz_Go.callV (As := []) (rest := []) (rfl : mz_find 32 (mz_rows mq_X10_poly) = some (32, .invokevirtual 139, 3, 173, 0, 177)) (rfl : mz_nth mq_tab 173 = some mq_X10_does) rfl rfl rfl rfl (Nat.le_of_ble_eq_true rfl) (Nat.le_of_ble_eq_true rfl) k6 ?_
      show mq_G mq_X10_poly (35, [some (.ref 77), some (.int x1)], [], M6) res
      refine mz_Go.steps (n := 2) (k2 := (37, [some (.ref 77), some (.int x1)], [.int x1, .ref 77], M6)) (P := []) rfl mz_o0 ?_
      obtain ⟨M7, k7, h⟩ := h
      refine mz_Go.callV (As := [.int x1]) (rest := []) (rfl : mz_find 37 (mz_rows mq_X10_poly) = some (37, .invokevirtual 51, 3, 146, 0, 191)) (rfl : mz_nth mq_tab 146 = some mq_X10_fields) rfl rfl rfl rfl (Nat.le_of_ble_eq_true rfl) (Nat.le_of_ble_eq_true rfl) k7 ?_
      show mq_G mq_X10_poly (40, [some (.ref 77), some (.int x1)], [], M7) res
      refine mz_Go.steps (n := 2) (k2 := (44, [some (.ref 77), some (.int x1)], [.int (M7.1 77 11)], M7)) (P := []) rfl mz_o0 ?_
      rw [h]
      exact mz_Go.iret (rfl : mz_find 44 (mz_rows mq_X10_poly) = some (44, .ireturn, 1, 0, 0, 0)) rfl
    · replace h := h.2 c25
      refine mz_Go.steps (n := 1) (k2 := (30, [some (.ref 77), some (.int x1)], [.int (-2)], M1)) (P := []) rfl mz_o0 ?_
      rw [h]
      exact mz_Go.iret (rfl : mz_find 30 (mz_rows mq_X10_poly) = some (30, .ireturn, 1, 0, 0, 0)) rfl
  · replace h := h.2 c16
    refine mz_Go.steps (n := 1) (k2 := (20, [some (.ref 77), some (.int x1)], [.int (-1)], M1)) (P := []) rfl mz_o0 ?_
    rw [h]
    exact mz_Go.iret (rfl : mz_find 20 (mz_rows mq_X10_poly) = some (20, .ireturn, 1, 0, 0, 0)) rfl
set_option maxRecDepth 100000 in
set_option maxHeartbeats 4000000 in
theorem t_X10_product_0 (x1 : Int32) (x2 : Int32) (M : mz_M) {res : mz_O} (h :
    (∀ M1 : mz_M, M1 = mz_wr M 77 (upd (M.1 77) 10 0) →
    (∃ (r2 : Int32), (mq_C mq_X10_isElement [.ref 77, .int x1] M1 (some (.int r2), M1)) ∧
    ((r2 = 0 →
      res = (some (.int (-1)), M1)) ∧
    (¬ (r2 = 0) →
      (∃ (r4 : Int32), (mq_C mq_X10_isElement [.ref 77, .int x2] M1 (some (.int r4), M1)) ∧
      ((r4 = 0 →
        res = (some (.int (-1)), M1)) ∧
      (¬ (r4 = 0) →
        (∃ (r6 : Int32), (mq_C mq_X10_times [.ref 77, .int x1, .int x2] M1 (some (.int r6), M1)) ∧
        res = (some (.int r6), M1)))))))))) :
    mq_G mq_X10_product (0, [some (.ref 77), some (.int x1), some (.int x2)], [], M) res := by
  obtain ⟨M1, e1⟩ : ∃ y, y = mz_wr M 77 (upd (M.1 77) 10 0) := ⟨_, rfl⟩
  replace h := h M1 e1
  refine mz_Go.steps (n := 3) (k2 := (5, [some (.ref 77), some (.int x1), some (.int x2)], [], (mz_wr M 77 (upd (M.1 77) 10 0)))) (P := []) rfl mz_o0 ?_
  rw [← e1]
  refine mz_Go.steps (n := 2) (k2 := (7, [some (.ref 77), some (.int x1), some (.int x2)], [.int x1, .ref 77], M1)) (P := []) rfl mz_o0 ?_
  obtain ⟨r2, k2, h⟩ := h
  refine mz_Go.callV (As := [.int x1]) (rest := []) (rfl : mz_find 7 (mz_rows mq_X10_product) = some (7, .invokevirtual 183, 3, 156, 0, 194)) (rfl : mz_nth mq_tab 156 = some mq_X10_isElement) rfl rfl rfl rfl (Nat.le_of_ble_eq_true rfl) (Nat.le_of_ble_eq_true rfl) k2 ?_
  show mq_G mq_X10_product (10, [some (.ref 77), some (.int x1), some (.int x2)], [.int r2], M1) res
  refine mz_Go.steps (n := 1) (k2 := (if r2 = 0 then 30 else 13, [some (.ref 77), some (.int x1), some (.int x2)], [], M1)) (P := []) rfl mz_o0 ?_
  refine mz_Go.ite (fun c10 => ?_) (fun c10 => ?_)
  · replace h := h.1 c10
    refine mz_Go.steps (n := 1) (k2 := (31, [some (.ref 77), some (.int x1), some (.int x2)], [.int (-1)], M1)) (P := []) rfl mz_o0 ?_
    rw [h]
    exact mz_Go.iret (rfl : mz_find 31 (mz_rows mq_X10_product) = some (31, .ireturn, 1, 0, 0, 0)) rfl
  · replace h := h.2 c10
    refine mz_Go.steps (n := 2) (k2 := (15, [some (.ref 77), some (.int x1), some (.int x2)], [.int x2, .ref 77], M1)) (P := []) rfl mz_o0 ?_
    obtain ⟨r4, k4, h⟩ := h
    refine mz_Go.callV (As := [.int x2]) (rest := []) (rfl : mz_find 15 (mz_rows mq_X10_product) = some (15, .invokevirtual 183, 3, 156, 0, 194)) (rfl : mz_nth mq_tab 156 = some mq_X10_isElement) rfl rfl rfl rfl (Nat.le_of_ble_eq_true rfl) (Nat.le_of_ble_eq_true rfl) k4 ?_
    show mq_G mq_X10_product (18, [some (.ref 77), some (.int x1), some (.int x2)], [.int r4], M1) res
    refine mz_Go.steps (n := 1) (k2 := (if r4 = 0 then 30 else 21, [some (.ref 77), some (.int x1), some (.int x2)], [], M1)) (P := []) rfl mz_o0 ?_
    refine mz_Go.ite (fun c18 => ?_) (fun c18 => ?_)
    · replace h := h.1 c18
      refine mz_Go.steps (n := 1) (k2 := (31, [some (.ref 77), some (.int x1), some (.int x2)], [.int (-1)], M1)) (P := []) rfl mz_o0 ?_
      rw [h]
      exact mz_Go.iret (rfl : mz_find 31 (mz_rows mq_X10_product) = some (31, .ireturn, 1, 0, 0, 0)) rfl
    · replace h := h.2 c18
      refine mz_Go.steps (n := 3) (k2 := (24, [some (.ref 77), some (.int x1), some (.int x2)], [.int x2, .int x1, .ref 77], M1)) (P := []) rfl mz_o0 ?_
      obtain ⟨r6, k6, h⟩ := h
      refine mz_Go.callV (As := [.int x1, .int x2]) (rest := []) (rfl : mz_find 24 (mz_rows mq_X10_product) = some (24, .invokevirtual 92, 3, 147, 0, 156)) (rfl : mz_nth mq_tab 147 = some mq_X10_times) rfl rfl rfl rfl (Nat.le_of_ble_eq_true rfl) (Nat.le_of_ble_eq_true rfl) k6 ?_
      show mq_G mq_X10_product (27, [some (.ref 77), some (.int x1), some (.int x2)], [.int r6], M1) res
      refine mz_Go.steps (n := 1) (k2 := (31, [some (.ref 77), some (.int x1), some (.int x2)], [.int r6], M1)) (P := []) rfl mz_o0 ?_
      rw [h]
      exact mz_Go.iret (rfl : mz_find 31 (mz_rows mq_X10_product) = some (31, .ireturn, 1, 0, 0, 0)) rfl
set_option maxRecDepth 100000 in
set_option maxHeartbeats 4000000 in
theorem t_X10_inverse_0 (x1 : Int32) (M : mz_M) {res : mz_O} (h :
    (∀ M1 : mz_M, M1 = mz_wr M 77 (upd (M.1 77) 10 0) →
    (∃ (r2 : Int32), (mq_C mq_X10_isElement [.ref 77, .int x1] M1 (some (.int r2), M1)) ∧
    ((¬ r2 = 0 →
      ((¬ x1 = 0 →
        (∃ (r5 : Int32), (mq_C mq_X10_inverseOf [.ref 77, .int x1] M1 (some (.int r5), M1)) ∧
        res = (some (.int r5), M1))) ∧
      (¬ (¬ x1 = 0) →
        res = (some (.int (-2)), M1)))) ∧
    (¬ (¬ r2 = 0) →
      res = (some (.int (-1)), M1)))))) :
    mq_G mq_X10_inverse (0, [some (.ref 77), some (.int x1)], [], M) res := by
  obtain ⟨M1, e1⟩ : ∃ y, y = mz_wr M 77 (upd (M.1 77) 10 0) := ⟨_, rfl⟩
  replace h := h M1 e1
  refine mz_Go.steps (n := 3) (k2 := (5, [some (.ref 77), some (.int x1)], [], (mz_wr M 77 (upd (M.1 77) 10 0)))) (P := []) rfl mz_o0 ?_
  rw [← e1]
  refine mz_Go.steps (n := 2) (k2 := (7, [some (.ref 77), some (.int x1)], [.int x1, .ref 77], M1)) (P := []) rfl mz_o0 ?_
  obtain ⟨r2, k2, h⟩ := h
  refine mz_Go.callV (As := [.int x1]) (rest := []) (rfl : mz_find 7 (mz_rows mq_X10_inverse) = some (7, .invokevirtual 183, 3, 156, 0, 194)) (rfl : mz_nth mq_tab 156 = some mq_X10_isElement) rfl rfl rfl rfl (Nat.le_of_ble_eq_true rfl) (Nat.le_of_ble_eq_true rfl) k2 ?_
  show mq_G mq_X10_inverse (10, [some (.ref 77), some (.int x1)], [.int r2], M1) res
  refine mz_Go.steps (n := 1) (k2 := (if ¬ r2 = 0 then 15 else 13, [some (.ref 77), some (.int x1)], [], M1)) (P := []) rfl mz_o0 ?_
  refine mz_Go.ite (fun c10 => ?_) (fun c10 => ?_)
  · replace h := h.1 c10
    refine mz_Go.steps (n := 2) (k2 := (if ¬ x1 = 0 then 24 else 19, [some (.ref 77), some (.int x1)], [], M1)) (P := []) rfl mz_o0 ?_
    refine mz_Go.ite (fun c16 => ?_) (fun c16 => ?_)
    · replace h := h.1 c16
      refine mz_Go.steps (n := 2) (k2 := (26, [some (.ref 77), some (.int x1)], [.int x1, .ref 77], M1)) (P := []) rfl mz_o0 ?_
      obtain ⟨r5, k5, h⟩ := h
      refine mz_Go.callV (As := [.int x1]) (rest := []) (rfl : mz_find 26 (mz_rows mq_X10_inverse) = some (26, .invokevirtual 186, 3, 150, 0, 195)) (rfl : mz_nth mq_tab 150 = some mq_X10_inverseOf) rfl rfl rfl rfl (Nat.le_of_ble_eq_true rfl) (Nat.le_of_ble_eq_true rfl) k5 ?_
      show mq_G mq_X10_inverse (29, [some (.ref 77), some (.int x1)], [.int r5], M1) res
      rw [h]
      exact mz_Go.iret (rfl : mz_find 29 (mz_rows mq_X10_inverse) = some (29, .ireturn, 1, 0, 0, 0)) rfl
    · replace h := h.2 c16
      refine mz_Go.steps (n := 2) (k2 := (29, [some (.ref 77), some (.int x1)], [.int (-2)], M1)) (P := []) rfl mz_o0 ?_
      rw [h]
      exact mz_Go.iret (rfl : mz_find 29 (mz_rows mq_X10_inverse) = some (29, .ireturn, 1, 0, 0, 0)) rfl
  · replace h := h.2 c10
    refine mz_Go.steps (n := 1) (k2 := (14, [some (.ref 77), some (.int x1)], [.int (-1)], M1)) (P := []) rfl mz_o0 ?_
    rw [h]
    exact mz_Go.iret (rfl : mz_find 14 (mz_rows mq_X10_inverse) = some (14, .ireturn, 1, 0, 0, 0)) rfl
set_option maxRecDepth 100000 in
set_option maxHeartbeats 4000000 in
theorem t_X10_power_0 (x1 : Int32) (x2 : Int32) (M : mz_M) {res : mz_O} (h :
    (∀ M1 : mz_M, M1 = mz_wr M 77 (upd (M.1 77) 10 0) →
    (∃ (r2 : Int32), (mq_C mq_X10_isElement [.ref 77, .int x1] M1 (some (.int r2), M1)) ∧
    ((r2 = 0 →
      res = (some (.int (-1)), M1)) ∧
    (¬ (r2 = 0) →
      (∃ (r4 : Int32), (mq_C mq_X10_in [.long (x2.toInt64), .long ((0 : Int32).toInt64), .long ((1000000000 : Int32).toInt64)] M1 (some (.int r4), M1)) ∧
      ((r4 = 0 →
        res = (some (.int (-1)), M1)) ∧
      (¬ (r4 = 0) →
        (∃ (r6 : Int32), (mq_C mq_X10_powered [.ref 77, .int x1, .int x2] M1 (some (.int r6), M1)) ∧
        res = (some (.int r6), M1)))))))))) :
    mq_G mq_X10_power (0, [some (.ref 77), some (.int x1), some (.int x2)], [], M) res := by
  obtain ⟨M1, e1⟩ : ∃ y, y = mz_wr M 77 (upd (M.1 77) 10 0) := ⟨_, rfl⟩
  replace h := h M1 e1
  refine mz_Go.steps (n := 3) (k2 := (5, [some (.ref 77), some (.int x1), some (.int x2)], [], (mz_wr M 77 (upd (M.1 77) 10 0)))) (P := []) rfl mz_o0 ?_
  rw [← e1]
  refine mz_Go.steps (n := 2) (k2 := (7, [some (.ref 77), some (.int x1), some (.int x2)], [.int x1, .ref 77], M1)) (P := []) rfl mz_o0 ?_
  obtain ⟨r2, k2, h⟩ := h
  refine mz_Go.callV (As := [.int x1]) (rest := []) (rfl : mz_find 7 (mz_rows mq_X10_power) = some (7, .invokevirtual 183, 3, 156, 0, 194)) (rfl : mz_nth mq_tab 156 = some mq_X10_isElement) rfl rfl rfl rfl (Nat.le_of_ble_eq_true rfl) (Nat.le_of_ble_eq_true rfl) k2 ?_
  show mq_G mq_X10_power (10, [some (.ref 77), some (.int x1), some (.int x2)], [.int r2], M1) res
  refine mz_Go.steps (n := 1) (k2 := (if r2 = 0 then 34 else 13, [some (.ref 77), some (.int x1), some (.int x2)], [], M1)) (P := []) rfl mz_o0 ?_
  refine mz_Go.ite (fun c10 => ?_) (fun c10 => ?_)
  · replace h := h.1 c10
    refine mz_Go.steps (n := 1) (k2 := (35, [some (.ref 77), some (.int x1), some (.int x2)], [.int (-1)], M1)) (P := []) rfl mz_o0 ?_
    rw [h]
    exact mz_Go.iret (rfl : mz_find 35 (mz_rows mq_X10_power) = some (35, .ireturn, 1, 0, 0, 0)) rfl
  · replace h := h.2 c10
    refine mz_Go.steps (n := 4) (k2 := (19, [some (.ref 77), some (.int x1), some (.int x2)], [.long ((1000000000 : Int32).toInt64), .long ((0 : Int32).toInt64), .long (x2.toInt64)], M1)) (P := []) rfl mz_o0 ?_
    obtain ⟨r4, k4, h⟩ := h
    refine mz_Go.callS (As := [.long (x2.toInt64), .long ((0 : Int32).toInt64), .long ((1000000000 : Int32).toInt64)]) (rest := []) (rfl : mz_find 19 (mz_rows mq_X10_power) = some (19, .invokestatic 65, 3, 133, 0, 147)) (rfl : mz_nth mq_tab 133 = some mq_X10_in) (by decide) rfl rfl rfl (Nat.le_of_ble_eq_true rfl) (Nat.le_of_ble_eq_true rfl) k4 ?_
    show mq_G mq_X10_power (22, [some (.ref 77), some (.int x1), some (.int x2)], [.int r4], M1) res
    refine mz_Go.steps (n := 1) (k2 := (if r4 = 0 then 34 else 25, [some (.ref 77), some (.int x1), some (.int x2)], [], M1)) (P := []) rfl mz_o0 ?_
    refine mz_Go.ite (fun c22 => ?_) (fun c22 => ?_)
    · replace h := h.1 c22
      refine mz_Go.steps (n := 1) (k2 := (35, [some (.ref 77), some (.int x1), some (.int x2)], [.int (-1)], M1)) (P := []) rfl mz_o0 ?_
      rw [h]
      exact mz_Go.iret (rfl : mz_find 35 (mz_rows mq_X10_power) = some (35, .ireturn, 1, 0, 0, 0)) rfl
    · replace h := h.2 c22
      refine mz_Go.steps (n := 3) (k2 := (28, [some (.ref 77), some (.int x1), some (.int x2)], [.int x2, .int x1, .ref 77], M1)) (P := []) rfl mz_o0 ?_
      obtain ⟨r6, k6, h⟩ := h
      refine mz_Go.callV (As := [.int x1, .int x2]) (rest := []) (rfl : mz_find 28 (mz_rows mq_X10_power) = some (28, .invokevirtual 95, 3, 149, 0, 157)) (rfl : mz_nth mq_tab 149 = some mq_X10_powered) rfl rfl rfl rfl (Nat.le_of_ble_eq_true rfl) (Nat.le_of_ble_eq_true rfl) k6 ?_
      show mq_G mq_X10_power (31, [some (.ref 77), some (.int x1), some (.int x2)], [.int r6], M1) res
      refine mz_Go.steps (n := 1) (k2 := (35, [some (.ref 77), some (.int x1), some (.int x2)], [.int r6], M1)) (P := []) rfl mz_o0 ?_
      rw [h]
      exact mz_Go.iret (rfl : mz_find 35 (mz_rows mq_X10_power) = some (35, .ireturn, 1, 0, 0, 0)) rfl
set_option maxRecDepth 100000 in
set_option maxHeartbeats 4000000 in
theorem t_X10_order_0 (x1 : Int32) (M : mz_M) {res : mz_O} (h :
    (∀ M1 : mz_M, M1 = mz_wr M 77 (upd (M.1 77) 10 0) →
    (∃ (r2 : Int32), (mq_C mq_X10_isElement [.ref 77, .int x1] M1 (some (.int r2), M1)) ∧
    ((¬ r2 = 0 →
      ((¬ x1 = 0 →
        (∀ M5 : mz_M, M5 = mz_wr M1 77 (upd (M1.1 77) 9 0) →
        (∃ (r6 : Int32), (mq_C mq_X10_isGenerator [.ref 77, .int x1] M5 (some (.int r6), M5)) ∧
        ((r6 = 0 →
          (∃ (M8 : mz_M), (mq_C mq_X10_tell [.ref 77, .long ((0 : Int32).toInt64)] M5 (none, M8)) ∧
          (∃ (r9 : Int32), (mq_C mq_X10_orderOf [.ref 77, .int x1] M8 (some (.int r9), M8)) ∧
          res = (some (.int r9), M8)))) ∧
        (¬ (r6 = 0) →
          (∃ (M10 : mz_M), (mq_C mq_X10_tell [.ref 77, .long ((1 : Int32).toInt64)] M5 (none, M10)) ∧
          (∃ (r11 : Int32), (mq_C mq_X10_orderOf [.ref 77, .int x1] M10 (some (.int r11), M10)) ∧
          res = (some (.int r11), M10)))))))) ∧
      (¬ (¬ x1 = 0) →
        res = (some (.int (-2)), M1)))) ∧
    (¬ (¬ r2 = 0) →
      res = (some (.int (-1)), M1)))))) :
    mq_G mq_X10_order (0, [some (.ref 77), some (.int x1)], [], M) res := by
  obtain ⟨M1, e1⟩ : ∃ y, y = mz_wr M 77 (upd (M.1 77) 10 0) := ⟨_, rfl⟩
  replace h := h M1 e1
  refine mz_Go.steps (n := 3) (k2 := (5, [some (.ref 77), some (.int x1)], [], (mz_wr M 77 (upd (M.1 77) 10 0)))) (P := []) rfl mz_o0 ?_
  rw [← e1]
  refine mz_Go.steps (n := 2) (k2 := (7, [some (.ref 77), some (.int x1)], [.int x1, .ref 77], M1)) (P := []) rfl mz_o0 ?_
  obtain ⟨r2, k2, h⟩ := h
  refine mz_Go.callV (As := [.int x1]) (rest := []) (rfl : mz_find 7 (mz_rows mq_X10_order) = some (7, .invokevirtual 183, 3, 156, 0, 194)) (rfl : mz_nth mq_tab 156 = some mq_X10_isElement) rfl rfl rfl rfl (Nat.le_of_ble_eq_true rfl) (Nat.le_of_ble_eq_true rfl) k2 ?_
  show mq_G mq_X10_order (10, [some (.ref 77), some (.int x1)], [.int r2], M1) res
  refine mz_Go.steps (n := 1) (k2 := (if ¬ r2 = 0 then 15 else 13, [some (.ref 77), some (.int x1)], [], M1)) (P := []) rfl mz_o0 ?_
  refine mz_Go.ite (fun c10 => ?_) (fun c10 => ?_)
  · replace h := h.1 c10
    refine mz_Go.steps (n := 2) (k2 := (if ¬ x1 = 0 then 22 else 19, [some (.ref 77), some (.int x1)], [], M1)) (P := []) rfl mz_o0 ?_
    refine mz_Go.ite (fun c16 => ?_) (fun c16 => ?_)
    · replace h := h.1 c16
      obtain ⟨M5, e5⟩ : ∃ y, y = mz_wr M1 77 (upd (M1.1 77) 9 0) := ⟨_, rfl⟩
      replace h := h M5 e5
      refine mz_Go.steps (n := 3) (k2 := (27, [some (.ref 77), some (.int x1)], [], (mz_wr M1 77 (upd (M1.1 77) 9 0)))) (P := []) rfl mz_o0 ?_
      rw [← e5]
      refine mz_Go.steps (n := 3) (k2 := (30, [some (.ref 77), some (.int x1)], [.int x1, .ref 77, .ref 77], M5)) (P := []) rfl mz_o0 ?_
      obtain ⟨r6, k6, h⟩ := h
      refine mz_Go.callV (As := [.int x1]) (rest := [.ref 77]) (rfl : mz_find 30 (mz_rows mq_X10_order) = some (30, .invokevirtual 191, 3, 153, 0, 197)) (rfl : mz_nth mq_tab 153 = some mq_X10_isGenerator) rfl rfl rfl rfl (Nat.le_of_ble_eq_true rfl) (Nat.le_of_ble_eq_true rfl) k6 ?_
      show mq_G mq_X10_order (33, [some (.ref 77), some (.int x1)], [.int r6, .ref 77], M5) res
      refine mz_Go.steps (n := 1) (k2 := (if r6 = 0 then 40 else 36, [some (.ref 77), some (.int x1)], [.ref 77], M5)) (P := []) rfl mz_o0 ?_
      refine mz_Go.ite (fun c33 => ?_) (fun c33 => ?_)
      · replace h := h.1 c33
        refine mz_Go.steps (n := 1) (k2 := (41, [some (.ref 77), some (.int x1)], [.long ((0 : Int32).toInt64), .ref 77], M5)) (P := []) rfl mz_o0 ?_
        obtain ⟨M8, k8, h⟩ := h
        refine mz_Go.callV (As := [.long ((0 : Int32).toInt64)]) (rest := []) (rfl : mz_find 41 (mz_rows mq_X10_order) = some (41, .invokevirtual 194, 3, 135, 0, 198)) (rfl : mz_nth mq_tab 135 = some mq_X10_tell) rfl rfl rfl rfl (Nat.le_of_ble_eq_true rfl) (Nat.le_of_ble_eq_true rfl) k8 ?_
        show mq_G mq_X10_order (44, [some (.ref 77), some (.int x1)], [], M8) res
        refine mz_Go.steps (n := 2) (k2 := (46, [some (.ref 77), some (.int x1)], [.int x1, .ref 77], M8)) (P := []) rfl mz_o0 ?_
        obtain ⟨r9, k9, h⟩ := h
        refine mz_Go.callV (As := [.int x1]) (rest := []) (rfl : mz_find 46 (mz_rows mq_X10_order) = some (46, .invokevirtual 101, 3, 152, 0, 159)) (rfl : mz_nth mq_tab 152 = some mq_X10_orderOf) rfl rfl rfl rfl (Nat.le_of_ble_eq_true rfl) (Nat.le_of_ble_eq_true rfl) k9 ?_
        show mq_G mq_X10_order (49, [some (.ref 77), some (.int x1)], [.int r9], M8) res
        rw [h]
        exact mz_Go.iret (rfl : mz_find 49 (mz_rows mq_X10_order) = some (49, .ireturn, 1, 0, 0, 0)) rfl
      · replace h := h.2 c33
        refine mz_Go.steps (n := 2) (k2 := (41, [some (.ref 77), some (.int x1)], [.long ((1 : Int32).toInt64), .ref 77], M5)) (P := []) rfl mz_o0 ?_
        obtain ⟨M10, k10, h⟩ := h
        refine mz_Go.callV (As := [.long ((1 : Int32).toInt64)]) (rest := []) (rfl : mz_find 41 (mz_rows mq_X10_order) = some (41, .invokevirtual 194, 3, 135, 0, 198)) (rfl : mz_nth mq_tab 135 = some mq_X10_tell) rfl rfl rfl rfl (Nat.le_of_ble_eq_true rfl) (Nat.le_of_ble_eq_true rfl) k10 ?_
        show mq_G mq_X10_order (44, [some (.ref 77), some (.int x1)], [], M10) res
        refine mz_Go.steps (n := 2) (k2 := (46, [some (.ref 77), some (.int x1)], [.int x1, .ref 77], M10)) (P := []) rfl mz_o0 ?_
        obtain ⟨r11, k11, h⟩ := h
        refine mz_Go.callV (As := [.int x1]) (rest := []) (rfl : mz_find 46 (mz_rows mq_X10_order) = some (46, .invokevirtual 101, 3, 152, 0, 159)) (rfl : mz_nth mq_tab 152 = some mq_X10_orderOf) rfl rfl rfl rfl (Nat.le_of_ble_eq_true rfl) (Nat.le_of_ble_eq_true rfl) k11 ?_
        show mq_G mq_X10_order (49, [some (.ref 77), some (.int x1)], [.int r11], M10) res
        rw [h]
        exact mz_Go.iret (rfl : mz_find 49 (mz_rows mq_X10_order) = some (49, .ireturn, 1, 0, 0, 0)) rfl
    · replace h := h.2 c16
      refine mz_Go.steps (n := 1) (k2 := (21, [some (.ref 77), some (.int x1)], [.int (-2)], M1)) (P := []) rfl mz_o0 ?_
      rw [h]
      exact mz_Go.iret (rfl : mz_find 21 (mz_rows mq_X10_order) = some (21, .ireturn, 1, 0, 0, 0)) rfl
  · replace h := h.2 c10
    refine mz_Go.steps (n := 1) (k2 := (14, [some (.ref 77), some (.int x1)], [.int (-1)], M1)) (P := []) rfl mz_o0 ?_
    rw [h]
    exact mz_Go.iret (rfl : mz_find 14 (mz_rows mq_X10_order) = some (14, .ireturn, 1, 0, 0, 0)) rfl
set_option maxRecDepth 100000 in
set_option maxHeartbeats 4000000 in
theorem t_X10_conjugate_0 (x1 : Int32) (x2 : Int32) (M : mz_M) {res : mz_O} (h :
    (∀ M1 : mz_M, M1 = mz_wr M 77 (upd (M.1 77) 10 0) →
    (∃ (r2 : Int32), (mq_C mq_X10_isElement [.ref 77, .int x1] M1 (some (.int r2), M1)) ∧
    ((r2 = 0 →
      res = (some (.int (-1)), M1)) ∧
    (¬ (r2 = 0) →
      (∃ (r4 : Int32), (mq_C mq_X10_in [.long (x2.toInt64), .long ((0 : Int32).toInt64), .long ((100 : Int32).toInt64)] M1 (some (.int r4), M1)) ∧
      ((r4 = 0 →
        res = (some (.int (-1)), M1)) ∧
      (¬ (r4 = 0) →
        (∃ (r6 : Int32), (mq_C mq_X10_conj [.ref 77, .int x1, .int x2] M1 (some (.int r6), M1)) ∧
        res = (some (.int r6), M1)))))))))) :
    mq_G mq_X10_conjugate (0, [some (.ref 77), some (.int x1), some (.int x2)], [], M) res := by
  obtain ⟨M1, e1⟩ : ∃ y, y = mz_wr M 77 (upd (M.1 77) 10 0) := ⟨_, rfl⟩
  replace h := h M1 e1
  refine mz_Go.steps (n := 3) (k2 := (5, [some (.ref 77), some (.int x1), some (.int x2)], [], (mz_wr M 77 (upd (M.1 77) 10 0)))) (P := []) rfl mz_o0 ?_
  rw [← e1]
  refine mz_Go.steps (n := 2) (k2 := (7, [some (.ref 77), some (.int x1), some (.int x2)], [.int x1, .ref 77], M1)) (P := []) rfl mz_o0 ?_
  obtain ⟨r2, k2, h⟩ := h
  refine mz_Go.callV (As := [.int x1]) (rest := []) (rfl : mz_find 7 (mz_rows mq_X10_conjugate) = some (7, .invokevirtual 183, 3, 156, 0, 194)) (rfl : mz_nth mq_tab 156 = some mq_X10_isElement) rfl rfl rfl rfl (Nat.le_of_ble_eq_true rfl) (Nat.le_of_ble_eq_true rfl) k2 ?_
  show mq_G mq_X10_conjugate (10, [some (.ref 77), some (.int x1), some (.int x2)], [.int r2], M1) res
  refine mz_Go.steps (n := 1) (k2 := (if r2 = 0 then 34 else 13, [some (.ref 77), some (.int x1), some (.int x2)], [], M1)) (P := []) rfl mz_o0 ?_
  refine mz_Go.ite (fun c10 => ?_) (fun c10 => ?_)
  · replace h := h.1 c10
    refine mz_Go.steps (n := 1) (k2 := (35, [some (.ref 77), some (.int x1), some (.int x2)], [.int (-1)], M1)) (P := []) rfl mz_o0 ?_
    rw [h]
    exact mz_Go.iret (rfl : mz_find 35 (mz_rows mq_X10_conjugate) = some (35, .ireturn, 1, 0, 0, 0)) rfl
  · replace h := h.2 c10
    refine mz_Go.steps (n := 4) (k2 := (19, [some (.ref 77), some (.int x1), some (.int x2)], [.long ((100 : Int32).toInt64), .long ((0 : Int32).toInt64), .long (x2.toInt64)], M1)) (P := []) rfl mz_o0 ?_
    obtain ⟨r4, k4, h⟩ := h
    refine mz_Go.callS (As := [.long (x2.toInt64), .long ((0 : Int32).toInt64), .long ((100 : Int32).toInt64)]) (rest := []) (rfl : mz_find 19 (mz_rows mq_X10_conjugate) = some (19, .invokestatic 65, 3, 133, 0, 147)) (rfl : mz_nth mq_tab 133 = some mq_X10_in) (by decide) rfl rfl rfl (Nat.le_of_ble_eq_true rfl) (Nat.le_of_ble_eq_true rfl) k4 ?_
    show mq_G mq_X10_conjugate (22, [some (.ref 77), some (.int x1), some (.int x2)], [.int r4], M1) res
    refine mz_Go.steps (n := 1) (k2 := (if r4 = 0 then 34 else 25, [some (.ref 77), some (.int x1), some (.int x2)], [], M1)) (P := []) rfl mz_o0 ?_
    refine mz_Go.ite (fun c22 => ?_) (fun c22 => ?_)
    · replace h := h.1 c22
      refine mz_Go.steps (n := 1) (k2 := (35, [some (.ref 77), some (.int x1), some (.int x2)], [.int (-1)], M1)) (P := []) rfl mz_o0 ?_
      rw [h]
      exact mz_Go.iret (rfl : mz_find 35 (mz_rows mq_X10_conjugate) = some (35, .ireturn, 1, 0, 0, 0)) rfl
    · replace h := h.2 c22
      refine mz_Go.steps (n := 3) (k2 := (28, [some (.ref 77), some (.int x1), some (.int x2)], [.int x2, .int x1, .ref 77], M1)) (P := []) rfl mz_o0 ?_
      obtain ⟨r6, k6, h⟩ := h
      refine mz_Go.callV (As := [.int x1, .int x2]) (rest := []) (rfl : mz_find 28 (mz_rows mq_X10_conjugate) = some (28, .invokevirtual 98, 3, 148, 0, 158)) (rfl : mz_nth mq_tab 148 = some mq_X10_conj) rfl rfl rfl rfl (Nat.le_of_ble_eq_true rfl) (Nat.le_of_ble_eq_true rfl) k6 ?_
      show mq_G mq_X10_conjugate (31, [some (.ref 77), some (.int x1), some (.int x2)], [.int r6], M1) res
      refine mz_Go.steps (n := 1) (k2 := (35, [some (.ref 77), some (.int x1), some (.int x2)], [.int r6], M1)) (P := []) rfl mz_o0 ?_
      rw [h]
      exact mz_Go.iret (rfl : mz_find 35 (mz_rows mq_X10_conjugate) = some (35, .ireturn, 1, 0, 0, 0)) rfl
set_option maxRecDepth 100000 in
set_option maxHeartbeats 4000000 in
theorem t_X10_conjugates_0 (x1 : Int32) (M : mz_M) {res : mz_O} (h :
    (∀ M1 : mz_M, M1 = mz_wr M 77 (upd (M.1 77) 10 0) →
    (∃ (r2 : Int32), (mq_C mq_X10_isElement [.ref 77, .int x1] M1 (some (.int r2), M1)) ∧
    ((¬ r2 = 0 →
      (∃ (r4 : Int32), (mq_C mq_X10_sizeOf [.ref 77, .int x1] M1 (some (.int r4), M1)) ∧
      (∀ M5 : mz_M, M5 = mz_wr M1 77 (upd (M1.1 77) 9 0) →
      mq_G mq_X10_conjugates (28, [some (.ref 77), some (.int x1), some (.int r4), some (.int 0)], [], M5) res))) ∧
    (¬ (¬ r2 = 0) →
      res = (some (.int (-1)), M1)))))) :
    mq_G mq_X10_conjugates (0, [some (.ref 77), some (.int x1), none, none], [], M) res := by
  obtain ⟨M1, e1⟩ : ∃ y, y = mz_wr M 77 (upd (M.1 77) 10 0) := ⟨_, rfl⟩
  replace h := h M1 e1
  refine mz_Go.steps (n := 3) (k2 := (5, [some (.ref 77), some (.int x1), none, none], [], (mz_wr M 77 (upd (M.1 77) 10 0)))) (P := []) rfl mz_o0 ?_
  rw [← e1]
  refine mz_Go.steps (n := 2) (k2 := (7, [some (.ref 77), some (.int x1), none, none], [.int x1, .ref 77], M1)) (P := []) rfl mz_o0 ?_
  obtain ⟨r2, k2, h⟩ := h
  refine mz_Go.callV (As := [.int x1]) (rest := []) (rfl : mz_find 7 (mz_rows mq_X10_conjugates) = some (7, .invokevirtual 183, 3, 156, 0, 194)) (rfl : mz_nth mq_tab 156 = some mq_X10_isElement) rfl rfl rfl rfl (Nat.le_of_ble_eq_true rfl) (Nat.le_of_ble_eq_true rfl) k2 ?_
  show mq_G mq_X10_conjugates (10, [some (.ref 77), some (.int x1), none, none], [.int r2], M1) res
  refine mz_Go.steps (n := 1) (k2 := (if ¬ r2 = 0 then 15 else 13, [some (.ref 77), some (.int x1), none, none], [], M1)) (P := []) rfl mz_o0 ?_
  refine mz_Go.ite (fun c10 => ?_) (fun c10 => ?_)
  · replace h := h.1 c10
    refine mz_Go.steps (n := 2) (k2 := (17, [some (.ref 77), some (.int x1), none, none], [.int x1, .ref 77], M1)) (P := []) rfl mz_o0 ?_
    obtain ⟨r4, k4, h⟩ := h
    refine mz_Go.callV (As := [.int x1]) (rest := []) (rfl : mz_find 17 (mz_rows mq_X10_conjugates) = some (17, .invokevirtual 200, 3, 151, 0, 200)) (rfl : mz_nth mq_tab 151 = some mq_X10_sizeOf) rfl rfl rfl rfl (Nat.le_of_ble_eq_true rfl) (Nat.le_of_ble_eq_true rfl) k4 ?_
    show mq_G mq_X10_conjugates (20, [some (.ref 77), some (.int x1), none, none], [.int r4], M1) res
    obtain ⟨M5, e5⟩ : ∃ y, y = mz_wr M1 77 (upd (M1.1 77) 9 0) := ⟨_, rfl⟩
    replace h := h M5 e5
    refine mz_Go.steps (n := 4) (k2 := (26, [some (.ref 77), some (.int x1), some (.int r4), none], [], (mz_wr M1 77 (upd (M1.1 77) 9 0)))) (P := []) rfl mz_o0 ?_
    rw [← e5]
    refine mz_Go.steps (n := 2) (k2 := (28, [some (.ref 77), some (.int x1), some (.int r4), some (.int 0)], [], M5)) (P := []) rfl mz_o0 ?_
    exact h
  · replace h := h.2 c10
    refine mz_Go.steps (n := 1) (k2 := (14, [some (.ref 77), some (.int x1), none, none], [.int (-1)], M1)) (P := []) rfl mz_o0 ?_
    rw [h]
    exact mz_Go.iret (rfl : mz_find 14 (mz_rows mq_X10_conjugates) = some (14, .ireturn, 1, 0, 0, 0)) rfl
set_option maxRecDepth 100000 in
set_option maxHeartbeats 4000000 in
theorem t_X10_conjugates_28 (x1 : Int32) (x2 : Int32) (x3 : Int32) (M : mz_M) {res : mz_O} (h :
    ((x2 ≤ x3 →
      res = (some (.int x2), M)) ∧
    (¬ (x2 ≤ x3) →
      (∃ (r2 : Int32), (mq_C mq_X10_conj [.ref 77, .int x1, .int x3] M (some (.int r2), M)) ∧
      (∃ (M3 : mz_M), (mq_C mq_X10_tell [.ref 77, .long (r2.toInt64)] M (none, M3)) ∧
      mq_G mq_X10_conjugates (28, [some (.ref 77), some (.int x1), some (.int x2), some (.int (x3 + 1))], [], M3) res))))) :
    mq_G mq_X10_conjugates (28, [some (.ref 77), some (.int x1), some (.int x2), some (.int x3)], [], M) res := by
  refine mz_Go.steps (n := 3) (k2 := (if x2 ≤ x3 then 50 else 33, [some (.ref 77), some (.int x1), some (.int x2), some (.int x3)], [], M)) (P := []) rfl mz_o0 ?_
  refine mz_Go.ite (fun c30 => ?_) (fun c30 => ?_)
  · replace h := h.1 c30
    refine mz_Go.steps (n := 1) (k2 := (51, [some (.ref 77), some (.int x1), some (.int x2), some (.int x3)], [.int x2], M)) (P := []) rfl mz_o0 ?_
    rw [h]
    exact mz_Go.iret (rfl : mz_find 51 (mz_rows mq_X10_conjugates) = some (51, .ireturn, 1, 0, 0, 0)) rfl
  · replace h := h.2 c30
    refine mz_Go.steps (n := 4) (k2 := (37, [some (.ref 77), some (.int x1), some (.int x2), some (.int x3)], [.int x3, .int x1, .ref 77, .ref 77], M)) (P := []) rfl mz_o0 ?_
    obtain ⟨r2, k2, h⟩ := h
    refine mz_Go.callV (As := [.int x1, .int x3]) (rest := [.ref 77]) (rfl : mz_find 37 (mz_rows mq_X10_conjugates) = some (37, .invokevirtual 98, 3, 148, 0, 158)) (rfl : mz_nth mq_tab 148 = some mq_X10_conj) rfl rfl rfl rfl (Nat.le_of_ble_eq_true rfl) (Nat.le_of_ble_eq_true rfl) k2 ?_
    show mq_G mq_X10_conjugates (40, [some (.ref 77), some (.int x1), some (.int x2), some (.int x3)], [.int r2, .ref 77], M) res
    refine mz_Go.steps (n := 1) (k2 := (41, [some (.ref 77), some (.int x1), some (.int x2), some (.int x3)], [.long (r2.toInt64), .ref 77], M)) (P := []) rfl mz_o0 ?_
    obtain ⟨M3, k3, h⟩ := h
    refine mz_Go.callV (As := [.long (r2.toInt64)]) (rest := []) (rfl : mz_find 41 (mz_rows mq_X10_conjugates) = some (41, .invokevirtual 194, 3, 135, 0, 198)) (rfl : mz_nth mq_tab 135 = some mq_X10_tell) rfl rfl rfl rfl (Nat.le_of_ble_eq_true rfl) (Nat.le_of_ble_eq_true rfl) k3 ?_
    show mq_G mq_X10_conjugates (44, [some (.ref 77), some (.int x1), some (.int x2), some (.int x3)], [], M3) res
    refine mz_Go.steps (n := 2) (k2 := (28, [some (.ref 77), some (.int x1), some (.int x2), some (.int (x3 + 1))], [], M3)) (P := []) rfl mz_o0 ?_
    exact h
set_option maxRecDepth 100000 in
set_option maxHeartbeats 4000000 in
theorem t_X10_rooted_0 (x1 : Int32) (x2 : Int32) (M : mz_M) {res : mz_O} (h :
    (∃ (r1 : Int32), (mq_C mq_X10_degree [.int x1] M (some (.int r1), M)) ∧
    mq_G mq_X10_rooted (8, [some (.ref 77), some (.int x1), some (.int x2), some (.int 0), some (.int r1)], [], M) res)) :
    mq_G mq_X10_rooted (0, [some (.ref 77), some (.int x1), some (.int x2), none, none], [], M) res := by
  refine mz_Go.steps (n := 3) (k2 := (3, [some (.ref 77), some (.int x1), some (.int x2), some (.int 0), none], [.int x1], M)) (P := []) rfl mz_o0 ?_
  obtain ⟨r1, k1, h⟩ := h
  refine mz_Go.callS (As := [.int x1]) (rest := []) (rfl : mz_find 3 (mz_rows mq_X10_rooted) = some (3, .invokestatic 69, 3, 139, 0, 148)) (rfl : mz_nth mq_tab 139 = some mq_X10_degree) (by decide) rfl rfl rfl (Nat.le_of_ble_eq_true rfl) (Nat.le_of_ble_eq_true rfl) k1 ?_
  show mq_G mq_X10_rooted (6, [some (.ref 77), some (.int x1), some (.int x2), some (.int 0), none], [.int r1], M) res
  refine mz_Go.steps (n := 1) (k2 := (8, [some (.ref 77), some (.int x1), some (.int x2), some (.int 0), some (.int r1)], [], M)) (P := []) rfl mz_o0 ?_
  exact h
set_option maxRecDepth 100000 in
set_option maxHeartbeats 4000000 in
theorem t_X10_rooted_8 (x1 : Int32) (x2 : Int32) (x3 : Int32) (x4 : Int32) (M : mz_M) {res : mz_O} (h :
    ((x4 < 0 →
      res = (some (.int x3), M)) ∧
    (¬ (x4 < 0) →
      (∃ (r2 : Int32), (mq_C mq_X10_times [.ref 77, .int x3, .int x2] M (some (.int r2), M)) ∧
      mq_G mq_X10_rooted (8, [some (.ref 77), some (.int x1), some (.int x2), some (.int (r2 ^^^ ((x1 >>> (x4 &&& 31)) &&& 1))), some (.int (x4 + (-1)))], [], M) res)))) :
    mq_G mq_X10_rooted (8, [some (.ref 77), some (.int x1), some (.int x2), some (.int x3), some (.int x4)], [], M) res := by
  refine mz_Go.steps (n := 2) (k2 := (if x4 < 0 then 33 else 13, [some (.ref 77), some (.int x1), some (.int x2), some (.int x3), some (.int x4)], [], M)) (P := []) rfl mz_o0 ?_
  refine mz_Go.ite (fun c10 => ?_) (fun c10 => ?_)
  · replace h := h.1 c10
    refine mz_Go.steps (n := 1) (k2 := (34, [some (.ref 77), some (.int x1), some (.int x2), some (.int x3), some (.int x4)], [.int x3], M)) (P := []) rfl mz_o0 ?_
    rw [h]
    exact mz_Go.iret (rfl : mz_find 34 (mz_rows mq_X10_rooted) = some (34, .ireturn, 1, 0, 0, 0)) rfl
  · replace h := h.2 c10
    refine mz_Go.steps (n := 3) (k2 := (16, [some (.ref 77), some (.int x1), some (.int x2), some (.int x3), some (.int x4)], [.int x2, .int x3, .ref 77], M)) (P := []) rfl mz_o0 ?_
    obtain ⟨r2, k2, h⟩ := h
    refine mz_Go.callV (As := [.int x3, .int x2]) (rest := []) (rfl : mz_find 16 (mz_rows mq_X10_rooted) = some (16, .invokevirtual 92, 3, 147, 0, 156)) (rfl : mz_nth mq_tab 147 = some mq_X10_times) rfl rfl rfl rfl (Nat.le_of_ble_eq_true rfl) (Nat.le_of_ble_eq_true rfl) k2 ?_
    show mq_G mq_X10_rooted (19, [some (.ref 77), some (.int x1), some (.int x2), some (.int x3), some (.int x4)], [.int r2], M) res
    refine mz_Go.steps (n := 9) (k2 := (8, [some (.ref 77), some (.int x1), some (.int x2), some (.int (r2 ^^^ ((x1 >>> (x4 &&& 31)) &&& 1))), some (.int (x4 + (-1)))], [], M)) (P := []) rfl mz_o0 ?_
    exact h
set_option maxRecDepth 100000 in
set_option maxHeartbeats 4000000 in
theorem t_X10_least_0 (x1 : Int32) (M : mz_M) {res : mz_O} (h :
    (∀ M1 : mz_M, M1 = mz_wr M 77 (upd (M.1 77) 10 0) →
    (∃ (r2 : Int32), (mq_C mq_X10_isElement [.ref 77, .int x1] M1 (some (.int r2), M1)) ∧
    ((¬ r2 = 0 →
      mq_G mq_X10_least (17, [some (.ref 77), some (.int x1), some (.int 2), none], [], M1) res) ∧
    (¬ (¬ r2 = 0) →
      res = (some (.int (-1)), M1)))))) :
    mq_G mq_X10_least (0, [some (.ref 77), some (.int x1), none, none], [], M) res := by
  obtain ⟨M1, e1⟩ : ∃ y, y = mz_wr M 77 (upd (M.1 77) 10 0) := ⟨_, rfl⟩
  replace h := h M1 e1
  refine mz_Go.steps (n := 3) (k2 := (5, [some (.ref 77), some (.int x1), none, none], [], (mz_wr M 77 (upd (M.1 77) 10 0)))) (P := []) rfl mz_o0 ?_
  rw [← e1]
  refine mz_Go.steps (n := 2) (k2 := (7, [some (.ref 77), some (.int x1), none, none], [.int x1, .ref 77], M1)) (P := []) rfl mz_o0 ?_
  obtain ⟨r2, k2, h⟩ := h
  refine mz_Go.callV (As := [.int x1]) (rest := []) (rfl : mz_find 7 (mz_rows mq_X10_least) = some (7, .invokevirtual 183, 3, 156, 0, 194)) (rfl : mz_nth mq_tab 156 = some mq_X10_isElement) rfl rfl rfl rfl (Nat.le_of_ble_eq_true rfl) (Nat.le_of_ble_eq_true rfl) k2 ?_
  show mq_G mq_X10_least (10, [some (.ref 77), some (.int x1), none, none], [.int r2], M1) res
  refine mz_Go.steps (n := 1) (k2 := (if ¬ r2 = 0 then 15 else 13, [some (.ref 77), some (.int x1), none, none], [], M1)) (P := []) rfl mz_o0 ?_
  refine mz_Go.ite (fun c10 => ?_) (fun c10 => ?_)
  · replace h := h.1 c10
    refine mz_Go.steps (n := 2) (k2 := (17, [some (.ref 77), some (.int x1), some (.int 2), none], [], M1)) (P := []) rfl mz_o0 ?_
    exact h
  · replace h := h.2 c10
    refine mz_Go.steps (n := 1) (k2 := (14, [some (.ref 77), some (.int x1), none, none], [.int (-1)], M1)) (P := []) rfl mz_o0 ?_
    rw [h]
    exact mz_Go.iret (rfl : mz_find 14 (mz_rows mq_X10_least) = some (14, .ireturn, 1, 0, 0, 0)) rfl
set_option maxRecDepth 100000 in
set_option maxHeartbeats 4000000 in
theorem t_X10_least_17 (x1 : Int32) (x2 : Int32) (o3 : Option Value) (M : mz_M) {res : mz_O} (h :
    (∃ (r1 : Int32), (mq_C mq_X10_rooted [.ref 77, .int x2, .int x1] M (some (.int r1), M)) ∧
    ((r1 = 0 →
      (∃ (r3 : Int32), (mq_C mq_X10_degree [.int x2] M (some (.int r3), M)) ∧
      (∀ M4 : mz_M, M4 = mz_wr M 77 (upd (M.1 77) 9 0) →
      (∃ (M5 : mz_M), (mq_C mq_X10_tell [.ref 77, .long (r3.toInt64)] M4 (none, M5)) ∧
      (∃ (M6 : mz_M), (mq_C mq_X10_tell [.ref 77, .long (((x2 >>> ((r3 - 1) &&& 31)) &&& 1).toInt64)] M5 (none, M6)) ∧
      res = (some (.int x2), M6)))))) ∧
    (¬ (r1 = 0) →
      mq_G mq_X10_least (17, [some (.ref 77), some (.int x1), some (.int (x2 + 1)), o3], [], M) res)))) :
    mq_G mq_X10_least (17, [some (.ref 77), some (.int x1), some (.int x2), o3], [], M) res := by
  refine mz_Go.steps (n := 3) (k2 := (20, [some (.ref 77), some (.int x1), some (.int x2), o3], [.int x1, .int x2, .ref 77], M)) (P := []) rfl mz_o0 ?_
  obtain ⟨r1, k1, h⟩ := h
  refine mz_Go.callV (As := [.int x2, .int x1]) (rest := []) (rfl : mz_find 20 (mz_rows mq_X10_least) = some (20, .invokevirtual 203, 3, 188, 0, 201)) (rfl : mz_nth mq_tab 188 = some mq_X10_rooted) rfl rfl rfl rfl (Nat.le_of_ble_eq_true rfl) (Nat.le_of_ble_eq_true rfl) k1 ?_
  show mq_G mq_X10_least (23, [some (.ref 77), some (.int x1), some (.int x2), o3], [.int r1], M) res
  refine mz_Go.steps (n := 1) (k2 := (if r1 = 0 then 32 else 26, [some (.ref 77), some (.int x1), some (.int x2), o3], [], M)) (P := []) rfl mz_o0 ?_
  refine mz_Go.ite (fun c23 => ?_) (fun c23 => ?_)
  · replace h := h.1 c23
    refine mz_Go.steps (n := 1) (k2 := (33, [some (.ref 77), some (.int x1), some (.int x2), o3], [.int x2], M)) (P := []) rfl mz_o0 ?_
    obtain ⟨r3, k3, h⟩ := h
    refine mz_Go.callS (As := [.int x2]) (rest := []) (rfl : mz_find 33 (mz_rows mq_X10_least) = some (33, .invokestatic 69, 3, 139, 0, 148)) (rfl : mz_nth mq_tab 139 = some mq_X10_degree) (by decide) rfl rfl rfl (Nat.le_of_ble_eq_true rfl) (Nat.le_of_ble_eq_true rfl) k3 ?_
    show mq_G mq_X10_least (36, [some (.ref 77), some (.int x1), some (.int x2), o3], [.int r3], M) res
    obtain ⟨M4, e4⟩ : ∃ y, y = mz_wr M 77 (upd (M.1 77) 9 0) := ⟨_, rfl⟩
    replace h := h M4 e4
    refine mz_Go.steps (n := 4) (k2 := (42, [some (.ref 77), some (.int x1), some (.int x2), some (.int r3)], [], (mz_wr M 77 (upd (M.1 77) 9 0)))) (P := []) rfl mz_o0 ?_
    rw [← e4]
    refine mz_Go.steps (n := 3) (k2 := (45, [some (.ref 77), some (.int x1), some (.int x2), some (.int r3)], [.long (r3.toInt64), .ref 77], M4)) (P := []) rfl mz_o0 ?_
    obtain ⟨M5, k5, h⟩ := h
    refine mz_Go.callV (As := [.long (r3.toInt64)]) (rest := []) (rfl : mz_find 45 (mz_rows mq_X10_least) = some (45, .invokevirtual 194, 3, 135, 0, 198)) (rfl : mz_nth mq_tab 135 = some mq_X10_tell) rfl rfl rfl rfl (Nat.le_of_ble_eq_true rfl) (Nat.le_of_ble_eq_true rfl) k5 ?_
    show mq_G mq_X10_least (48, [some (.ref 77), some (.int x1), some (.int x2), some (.int r3)], [], M5) res
    refine mz_Go.steps (n := 9) (k2 := (57, [some (.ref 77), some (.int x1), some (.int x2), some (.int r3)], [.long (((x2 >>> ((r3 - 1) &&& 31)) &&& 1).toInt64), .ref 77], M5)) (P := []) rfl mz_o0 ?_
    obtain ⟨M6, k6, h⟩ := h
    refine mz_Go.callV (As := [.long (((x2 >>> ((r3 - 1) &&& 31)) &&& 1).toInt64)]) (rest := []) (rfl : mz_find 57 (mz_rows mq_X10_least) = some (57, .invokevirtual 194, 3, 135, 0, 198)) (rfl : mz_nth mq_tab 135 = some mq_X10_tell) rfl rfl rfl rfl (Nat.le_of_ble_eq_true rfl) (Nat.le_of_ble_eq_true rfl) k6 ?_
    show mq_G mq_X10_least (60, [some (.ref 77), some (.int x1), some (.int x2), some (.int r3)], [], M6) res
    refine mz_Go.steps (n := 1) (k2 := (61, [some (.ref 77), some (.int x1), some (.int x2), some (.int r3)], [.int x2], M6)) (P := []) rfl mz_o0 ?_
    rw [h]
    exact mz_Go.iret (rfl : mz_find 61 (mz_rows mq_X10_least) = some (61, .ireturn, 1, 0, 0, 0)) rfl
  · replace h := h.2 c23
    refine mz_Go.steps (n := 2) (k2 := (17, [some (.ref 77), some (.int x1), some (.int (x2 + 1)), o3], [], M)) (P := []) rfl mz_o0 ?_
    exact h
set_option maxRecDepth 100000 in
set_option maxHeartbeats 4000000 in
theorem t_X10_trace_0 (x1 : Int32) (x2 : Int32) (M : mz_M) {res : mz_O} (h :
    (∀ M1 : mz_M, M1 = mz_wr M 77 (upd (M.1 77) 10 0) →
    (∃ (r2 : Int32), (mq_C mq_X10_isElement [.ref 77, .int x1] M1 (some (.int r2), M1)) ∧
    ((r2 = 0 →
      res = (some (.int (-1)), M1)) ∧
    (¬ (r2 = 0) →
      (∃ (r4 : Int32), (mq_C mq_X10_isPart [.ref 77, .int x2] M1 (some (.int r4), M1)) ∧
      ((r4 = 0 →
        res = (some (.int (-1)), M1)) ∧
      (¬ (r4 = 0) →
        (∃ (r6 : Int32), (mq_C mq_X10_traceTo [.ref 77, .int x1, .int x2] M1 (some (.int r6), M1)) ∧
        res = (some (.int r6), M1)))))))))) :
    mq_G mq_X10_trace (0, [some (.ref 77), some (.int x1), some (.int x2)], [], M) res := by
  obtain ⟨M1, e1⟩ : ∃ y, y = mz_wr M 77 (upd (M.1 77) 10 0) := ⟨_, rfl⟩
  replace h := h M1 e1
  refine mz_Go.steps (n := 3) (k2 := (5, [some (.ref 77), some (.int x1), some (.int x2)], [], (mz_wr M 77 (upd (M.1 77) 10 0)))) (P := []) rfl mz_o0 ?_
  rw [← e1]
  refine mz_Go.steps (n := 2) (k2 := (7, [some (.ref 77), some (.int x1), some (.int x2)], [.int x1, .ref 77], M1)) (P := []) rfl mz_o0 ?_
  obtain ⟨r2, k2, h⟩ := h
  refine mz_Go.callV (As := [.int x1]) (rest := []) (rfl : mz_find 7 (mz_rows mq_X10_trace) = some (7, .invokevirtual 183, 3, 156, 0, 194)) (rfl : mz_nth mq_tab 156 = some mq_X10_isElement) rfl rfl rfl rfl (Nat.le_of_ble_eq_true rfl) (Nat.le_of_ble_eq_true rfl) k2 ?_
  show mq_G mq_X10_trace (10, [some (.ref 77), some (.int x1), some (.int x2)], [.int r2], M1) res
  refine mz_Go.steps (n := 1) (k2 := (if r2 = 0 then 30 else 13, [some (.ref 77), some (.int x1), some (.int x2)], [], M1)) (P := []) rfl mz_o0 ?_
  refine mz_Go.ite (fun c10 => ?_) (fun c10 => ?_)
  · replace h := h.1 c10
    refine mz_Go.steps (n := 1) (k2 := (31, [some (.ref 77), some (.int x1), some (.int x2)], [.int (-1)], M1)) (P := []) rfl mz_o0 ?_
    rw [h]
    exact mz_Go.iret (rfl : mz_find 31 (mz_rows mq_X10_trace) = some (31, .ireturn, 1, 0, 0, 0)) rfl
  · replace h := h.2 c10
    refine mz_Go.steps (n := 2) (k2 := (15, [some (.ref 77), some (.int x1), some (.int x2)], [.int x2, .ref 77], M1)) (P := []) rfl mz_o0 ?_
    obtain ⟨r4, k4, h⟩ := h
    refine mz_Go.callV (As := [.int x2]) (rest := []) (rfl : mz_find 15 (mz_rows mq_X10_trace) = some (15, .invokevirtual 206, 3, 157, 0, 202)) (rfl : mz_nth mq_tab 157 = some mq_X10_isPart) rfl rfl rfl rfl (Nat.le_of_ble_eq_true rfl) (Nat.le_of_ble_eq_true rfl) k4 ?_
    show mq_G mq_X10_trace (18, [some (.ref 77), some (.int x1), some (.int x2)], [.int r4], M1) res
    refine mz_Go.steps (n := 1) (k2 := (if r4 = 0 then 30 else 21, [some (.ref 77), some (.int x1), some (.int x2)], [], M1)) (P := []) rfl mz_o0 ?_
    refine mz_Go.ite (fun c18 => ?_) (fun c18 => ?_)
    · replace h := h.1 c18
      refine mz_Go.steps (n := 1) (k2 := (31, [some (.ref 77), some (.int x1), some (.int x2)], [.int (-1)], M1)) (P := []) rfl mz_o0 ?_
      rw [h]
      exact mz_Go.iret (rfl : mz_find 31 (mz_rows mq_X10_trace) = some (31, .ireturn, 1, 0, 0, 0)) rfl
    · replace h := h.2 c18
      refine mz_Go.steps (n := 3) (k2 := (24, [some (.ref 77), some (.int x1), some (.int x2)], [.int x2, .int x1, .ref 77], M1)) (P := []) rfl mz_o0 ?_
      obtain ⟨r6, k6, h⟩ := h
      refine mz_Go.callV (As := [.int x1, .int x2]) (rest := []) (rfl : mz_find 24 (mz_rows mq_X10_trace) = some (24, .invokevirtual 209, 3, 154, 0, 203)) (rfl : mz_nth mq_tab 154 = some mq_X10_traceTo) rfl rfl rfl rfl (Nat.le_of_ble_eq_true rfl) (Nat.le_of_ble_eq_true rfl) k6 ?_
      show mq_G mq_X10_trace (27, [some (.ref 77), some (.int x1), some (.int x2)], [.int r6], M1) res
      refine mz_Go.steps (n := 1) (k2 := (31, [some (.ref 77), some (.int x1), some (.int x2)], [.int r6], M1)) (P := []) rfl mz_o0 ?_
      rw [h]
      exact mz_Go.iret (rfl : mz_find 31 (mz_rows mq_X10_trace) = some (31, .ireturn, 1, 0, 0, 0)) rfl
set_option maxRecDepth 100000 in
set_option maxHeartbeats 4000000 in
theorem t_X10_norm_0 (x1 : Int32) (x2 : Int32) (M : mz_M) {res : mz_O} (h :
    (∀ M1 : mz_M, M1 = mz_wr M 77 (upd (M.1 77) 10 0) →
    (∃ (r2 : Int32), (mq_C mq_X10_isElement [.ref 77, .int x1] M1 (some (.int r2), M1)) ∧
    ((r2 = 0 →
      res = (some (.int (-1)), M1)) ∧
    (¬ (r2 = 0) →
      (∃ (r4 : Int32), (mq_C mq_X10_isPart [.ref 77, .int x2] M1 (some (.int r4), M1)) ∧
      ((r4 = 0 →
        res = (some (.int (-1)), M1)) ∧
      (¬ (r4 = 0) →
        (∃ (r6 : Int32), (mq_C mq_X10_normTo [.ref 77, .int x1, .int x2] M1 (some (.int r6), M1)) ∧
        res = (some (.int r6), M1)))))))))) :
    mq_G mq_X10_norm (0, [some (.ref 77), some (.int x1), some (.int x2)], [], M) res := by
  obtain ⟨M1, e1⟩ : ∃ y, y = mz_wr M 77 (upd (M.1 77) 10 0) := ⟨_, rfl⟩
  replace h := h M1 e1
  refine mz_Go.steps (n := 3) (k2 := (5, [some (.ref 77), some (.int x1), some (.int x2)], [], (mz_wr M 77 (upd (M.1 77) 10 0)))) (P := []) rfl mz_o0 ?_
  rw [← e1]
  refine mz_Go.steps (n := 2) (k2 := (7, [some (.ref 77), some (.int x1), some (.int x2)], [.int x1, .ref 77], M1)) (P := []) rfl mz_o0 ?_
  obtain ⟨r2, k2, h⟩ := h
  refine mz_Go.callV (As := [.int x1]) (rest := []) (rfl : mz_find 7 (mz_rows mq_X10_norm) = some (7, .invokevirtual 183, 3, 156, 0, 194)) (rfl : mz_nth mq_tab 156 = some mq_X10_isElement) rfl rfl rfl rfl (Nat.le_of_ble_eq_true rfl) (Nat.le_of_ble_eq_true rfl) k2 ?_
  show mq_G mq_X10_norm (10, [some (.ref 77), some (.int x1), some (.int x2)], [.int r2], M1) res
  refine mz_Go.steps (n := 1) (k2 := (if r2 = 0 then 30 else 13, [some (.ref 77), some (.int x1), some (.int x2)], [], M1)) (P := []) rfl mz_o0 ?_
  refine mz_Go.ite (fun c10 => ?_) (fun c10 => ?_)
  · replace h := h.1 c10
    refine mz_Go.steps (n := 1) (k2 := (31, [some (.ref 77), some (.int x1), some (.int x2)], [.int (-1)], M1)) (P := []) rfl mz_o0 ?_
    rw [h]
    exact mz_Go.iret (rfl : mz_find 31 (mz_rows mq_X10_norm) = some (31, .ireturn, 1, 0, 0, 0)) rfl
  · replace h := h.2 c10
    refine mz_Go.steps (n := 2) (k2 := (15, [some (.ref 77), some (.int x1), some (.int x2)], [.int x2, .ref 77], M1)) (P := []) rfl mz_o0 ?_
    obtain ⟨r4, k4, h⟩ := h
    refine mz_Go.callV (As := [.int x2]) (rest := []) (rfl : mz_find 15 (mz_rows mq_X10_norm) = some (15, .invokevirtual 206, 3, 157, 0, 202)) (rfl : mz_nth mq_tab 157 = some mq_X10_isPart) rfl rfl rfl rfl (Nat.le_of_ble_eq_true rfl) (Nat.le_of_ble_eq_true rfl) k4 ?_
    show mq_G mq_X10_norm (18, [some (.ref 77), some (.int x1), some (.int x2)], [.int r4], M1) res
    refine mz_Go.steps (n := 1) (k2 := (if r4 = 0 then 30 else 21, [some (.ref 77), some (.int x1), some (.int x2)], [], M1)) (P := []) rfl mz_o0 ?_
    refine mz_Go.ite (fun c18 => ?_) (fun c18 => ?_)
    · replace h := h.1 c18
      refine mz_Go.steps (n := 1) (k2 := (31, [some (.ref 77), some (.int x1), some (.int x2)], [.int (-1)], M1)) (P := []) rfl mz_o0 ?_
      rw [h]
      exact mz_Go.iret (rfl : mz_find 31 (mz_rows mq_X10_norm) = some (31, .ireturn, 1, 0, 0, 0)) rfl
    · replace h := h.2 c18
      refine mz_Go.steps (n := 3) (k2 := (24, [some (.ref 77), some (.int x1), some (.int x2)], [.int x2, .int x1, .ref 77], M1)) (P := []) rfl mz_o0 ?_
      obtain ⟨r6, k6, h⟩ := h
      refine mz_Go.callV (As := [.int x1, .int x2]) (rest := []) (rfl : mz_find 24 (mz_rows mq_X10_norm) = some (24, .invokevirtual 212, 3, 155, 0, 204)) (rfl : mz_nth mq_tab 155 = some mq_X10_normTo) rfl rfl rfl rfl (Nat.le_of_ble_eq_true rfl) (Nat.le_of_ble_eq_true rfl) k6 ?_
      show mq_G mq_X10_norm (27, [some (.ref 77), some (.int x1), some (.int x2)], [.int r6], M1) res
      refine mz_Go.steps (n := 1) (k2 := (31, [some (.ref 77), some (.int x1), some (.int x2)], [.int r6], M1)) (P := []) rfl mz_o0 ?_
      rw [h]
      exact mz_Go.iret (rfl : mz_find 31 (mz_rows mq_X10_norm) = some (31, .ireturn, 1, 0, 0, 0)) rfl
