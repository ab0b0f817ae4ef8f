set_option maxRecDepth 100000 in
set_option maxHeartbeats 4000000 in
theorem t_X0_settle_0 (x1 : Int32) (M : mz_M) {res : mz_O} (h :
    (∀ M1 : mz_M, M1 = mz_wr M 2 (upd (M.1 2) 0 x1) →
    (∃ (r2 : Int32), (mq_C mq_X4_degreeOf [.int x1] M1 (some (.int r2), M1)) ∧
    (∀ M3 : mz_M, M3 = mz_wr M1 2 (upd (M1.1 2) 1 r2) →
    (∀ M4 : mz_M, M4 = mz_wr M3 2 (upd (M3.1 2) 2 ((1 : Int32) <<< ((M3.1 2 1) &&& 31))) →
    mq_G mq_X0_settle (27, [some (.ref 2), some (.int x1), some (.int 0), some (.int 2)], [], M4) res))))) :
    mq_G mq_X0_settle (0, [some (.ref 2), some (.int x1), none, none], [], M) res := by
  obtain ⟨M1, e1⟩ : ∃ y, y = mz_wr M 2 (upd (M.1 2) 0 x1) := ⟨_, rfl⟩
  replace h := h M1 e1
  refine mz_Go.steps (n := 3) (k2 := (5, [some (.ref 2), some (.int x1), none, none], [], (mz_wr M 2 (upd (M.1 2) 0 x1)))) (P := []) rfl mz_o0 ?_
  rw [← e1]
  refine mz_Go.steps (n := 2) (k2 := (7, [some (.ref 2), some (.int x1), none, none], [.int x1, .ref 2], M1)) (P := []) rfl mz_o0 ?_
  obtain ⟨r2, k2, h⟩ := h
  refine mz_Go.callS (As := [.int x1]) (rest := [.ref 2]) (rfl : mz_find 7 (mz_rows mq_X0_settle) = some (7, .invokestatic 22, 3, 37, 0, 1)) (rfl : mz_nth mq_tab 37 = some mq_X4_degreeOf) (by decide) rfl rfl rfl (Nat.le_of_ble_eq_true rfl) (Nat.le_of_ble_eq_true rfl) k2 ?_
  show mq_G mq_X0_settle (10, [some (.ref 2), some (.int x1), none, none], [.int r2, .ref 2], M1) res
  obtain ⟨M3, e3⟩ : ∃ y, y = mz_wr M1 2 (upd (M1.1 2) 1 r2) := ⟨_, rfl⟩
  replace h := h M3 e3
  refine mz_Go.steps (n := 1) (k2 := (13, [some (.ref 2), some (.int x1), none, none], [], (mz_wr M1 2 (upd (M1.1 2) 1 r2)))) (P := []) rfl mz_o0 ?_
  rw [← e3]
  obtain ⟨M4, e4⟩ : ∃ y, y = mz_wr M3 2 (upd (M3.1 2) 2 ((1 : Int32) <<< ((M3.1 2 1) &&& 31))) := ⟨_, rfl⟩
  replace h := h M4 e4
  refine mz_Go.steps (n := 6) (k2 := (23, [some (.ref 2), some (.int x1), none, none], [], (mz_wr M3 2 (upd (M3.1 2) 2 ((1 : Int32) <<< ((M3.1 2 1) &&& 31)))))) (P := []) rfl mz_o0 ?_
  rw [← e4]
  refine mz_Go.steps (n := 4) (k2 := (27, [some (.ref 2), some (.int x1), some (.int 0), some (.int 2)], [], M4)) (P := []) rfl mz_o0 ?_
  exact h
set_option maxRecDepth 100000 in
set_option maxHeartbeats 4000000 in
theorem t_X0_settle_27 (o1 : Option Value) (x2 : Int32) (x3 : Int32) (M : mz_M) {res : mz_O} (h :
    (((M.1 2 2) ≤ x3 →
      (∀ M2 : mz_M, M2 = mz_wr M 2 (upd (M.1 2) 5 0) →
      mq_G mq_X0_settle (58, [some (.ref 2), o1, some (.int x2), some (.int 0)], [], M2) res)) ∧
    (¬ ((M.1 2 2) ≤ x3) →
      ((¬ x2 = 0 →
        (∀ M4 : mz_M, M4 = mz_wr M 2 (upd (M.1 2) 5 0) →
        mq_G mq_X0_settle (58, [some (.ref 2), o1, some (.int x2), some (.int 0)], [], M4) res)) ∧
      (¬ (¬ x2 = 0) →
        (∃ (r5 : Int32) (M5 : mz_M), (mq_C mq_X0_fills [.ref 2, .int x3] M (some (.int r5), M5)) ∧
        mq_G mq_X0_settle (27, [some (.ref 2), (mz_nw o1), some (.int r5), some (.int (x3 + 1))], [], M5) res)))))) :
    mq_G mq_X0_settle (27, [some (.ref 2), o1, some (.int x2), some (.int x3)], [], M) res := by
  refine mz_Go.steps (n := 4) (k2 := (if (M.1 2 2) ≤ x3 then 51 else 35, [some (.ref 2), o1, some (.int x2), some (.int x3)], [], M)) (P := []) rfl mz_o0 ?_
  refine mz_Go.ite (fun c32 => ?_) (fun c32 => ?_)
  · replace h := h.1 c32
    obtain ⟨M2, e2⟩ : ∃ y, y = mz_wr M 2 (upd (M.1 2) 5 0) := ⟨_, rfl⟩
    replace h := h M2 e2
    refine mz_Go.steps (n := 3) (k2 := (56, [some (.ref 2), o1, some (.int x2), some (.int x3)], [], (mz_wr M 2 (upd (M.1 2) 5 0)))) (P := []) rfl mz_o0 ?_
    rw [← e2]
    refine mz_Go.steps (n := 2) (k2 := (58, [some (.ref 2), o1, some (.int x2), some (.int 0)], [], M2)) (P := []) rfl mz_o0 ?_
    exact h
  · replace h := h.2 c32
    refine mz_Go.steps (n := 2) (k2 := (if ¬ x2 = 0 then 51 else 39, [some (.ref 2), o1, some (.int x2), some (.int x3)], [], M)) (P := []) rfl mz_o0 ?_
    refine mz_Go.ite (fun c36 => ?_) (fun c36 => ?_)
    · replace h := h.1 c36
      obtain ⟨M4, e4⟩ : ∃ y, y = mz_wr M 2 (upd (M.1 2) 5 0) := ⟨_, rfl⟩
      replace h := h M4 e4
      refine mz_Go.steps (n := 3) (k2 := (56, [some (.ref 2), o1, some (.int x2), some (.int x3)], [], (mz_wr M 2 (upd (M.1 2) 5 0)))) (P := []) rfl mz_o0 ?_
      rw [← e4]
      refine mz_Go.steps (n := 2) (k2 := (58, [some (.ref 2), o1, some (.int x2), some (.int 0)], [], M4)) (P := []) rfl mz_o0 ?_
      exact h
    · replace h := h.2 c36
      refine mz_Go.steps (n := 2) (k2 := (41, [some (.ref 2), o1, some (.int x2), some (.int x3)], [.int x3, .ref 2], M)) (P := []) rfl mz_o0 ?_
      obtain ⟨r5, M5, k5, h⟩ := h
      refine mz_Go.callV (As := [.int x3]) (rest := []) (rfl : mz_find 41 (mz_rows mq_X0_settle) = some (41, .invokevirtual 34, 3, 1, 0, 4)) (rfl : mz_nth mq_tab 1 = some mq_X0_fills) rfl rfl rfl rfl (Nat.le_of_ble_eq_true rfl) (Nat.le_of_ble_eq_true rfl) k5 ?_
      show mq_G mq_X0_settle (44, [some (.ref 2), o1, some (.int x2), some (.int x3)], [.int r5], M5) res
      refine mz_Go.steps (n := 3) (k2 := (27, [some (.ref 2), (mz_nw o1), some (.int r5), some (.int (x3 + 1))], [], M5)) (P := []) rfl mz_o0 ?_
      exact h
set_option maxRecDepth 100000 in
set_option maxHeartbeats 4000000 in
theorem t_X0_settle_58 (o1 : Option Value) (o2 : Option Value) (x3 : Int32) (M : mz_M) {res : mz_O} (h :
    (((M.1 2 1) ≤ x3 →
      res = (none, M)) ∧
    (¬ ((M.1 2 1) ≤ x3) →
      (∃ (r2 : Int32), (mq_C mq_X0_tracedTo [.ref 2, .int ((1 : Int32) <<< (x3 &&& 31)), .int 1] M (some (.int r2), M)) ∧
      (∀ M3 : mz_M, M3 = mz_wr M 2 (upd (M.1 2) 5 ((M.1 2 5) ||| (r2 <<< (x3 &&& 31)))) →
      mq_G mq_X0_settle (58, [some (.ref 2), o1, (mz_nw o2), some (.int (x3 + 1))], [], M3) res))))) :
    mq_G mq_X0_settle (58, [some (.ref 2), o1, o2, some (.int x3)], [], M) res := by
  refine mz_Go.steps (n := 4) (k2 := (if (M.1 2 1) ≤ x3 then 91 else 66, [some (.ref 2), o1, o2, some (.int x3)], [], M)) (P := []) rfl mz_o0 ?_
  refine mz_Go.ite (fun c63 => ?_) (fun c63 => ?_)
  · replace h := h.1 c63
    rw [h]
    exact mz_Go.vret (rfl : mz_find 91 (mz_rows mq_X0_settle) = some (91, .return_, 1, 0, 0, 0)) rfl
  · replace h := h.2 c63
    refine mz_Go.steps (n := 8) (k2 := (76, [some (.ref 2), o1, o2, some (.int x3)], [.int 1, .int ((1 : Int32) <<< (x3 &&& 31)), .ref 2, .int (M.1 2 5), .ref 2], M)) (P := []) rfl mz_o0 ?_
    obtain ⟨r2, k2, h⟩ := h
    refine mz_Go.callV (As := [.int ((1 : Int32) <<< (x3 &&& 31)), .int 1]) (rest := [.int (M.1 2 5), .ref 2]) (rfl : mz_find 76 (mz_rows mq_X0_settle) = some (76, .invokevirtual 41, 3, 12, 0, 6)) (rfl : mz_nth mq_tab 12 = some mq_X0_tracedTo) rfl rfl rfl rfl (Nat.le_of_ble_eq_true rfl) (Nat.le_of_ble_eq_true rfl) k2 ?_
    show mq_G mq_X0_settle (79, [some (.ref 2), o1, o2, some (.int x3)], [.int r2, .int (M.1 2 5), .ref 2], M) res
    obtain ⟨M3, e3⟩ : ∃ y, y = mz_wr M 2 (upd (M.1 2) 5 ((M.1 2 5) ||| (r2 <<< (x3 &&& 31)))) := ⟨_, rfl⟩
    replace h := h M3 e3
    refine mz_Go.steps (n := 4) (k2 := (85, [some (.ref 2), o1, o2, some (.int x3)], [], (mz_wr M 2 (upd (M.1 2) 5 ((M.1 2 5) ||| (r2 <<< (x3 &&& 31))))))) (P := []) rfl mz_o0 ?_
    rw [← e3]
    refine mz_Go.steps (n := 2) (k2 := (58, [some (.ref 2), o1, (mz_nw o2), some (.int (x3 + 1))], [], M3)) (P := []) rfl mz_o0 ?_
    exact h
set_option maxRecDepth 100000 in
set_option maxHeartbeats 4000000 in
theorem t_X0_fills_0 (x1 : Int32) (M : mz_M) {res : mz_O} (h :
    mq_G mq_X0_fills (4, [some (.ref 2), some (.int x1), some (.int 1), some (.int 0)], [], M) res) :
    mq_G mq_X0_fills (0, [some (.ref 2), some (.int x1), none, none], [], M) res := by
  refine mz_Go.steps (n := 4) (k2 := (4, [some (.ref 2), some (.int x1), some (.int 1), some (.int 0)], [], M)) (P := []) rfl mz_o0 ?_
  exact h
set_option maxRecDepth 100000 in
set_option maxHeartbeats 4000000 in
theorem t_X0_fills_4 (x1 : Int32) (x2 : Int32) (x3 : Int32) (M : mz_M) {res : mz_O} (h :
    ((((M.1 2 2) - 1) ≤ x3 →
      res = (some (.int 1), M)) ∧
    (¬ (((M.1 2 2) - 1) ≤ x3) →
      ((x3 ≤ 0 →
        (vp_in x3 256) ∧
        (∀ M3 : mz_M, M3 = mz_wr M 3 (upd (M.1 3) x3.toNatClampNeg x2) →
        (vp_in x2 256) ∧
        (∀ M5 : mz_M, M5 = mz_wr M3 4 (upd (M3.1 4) x2.toNatClampNeg x3) →
        (∃ (r7 : Int32), (mq_C mq_X0_multiplied [.ref 2, .int x2, .int x1] M5 (some (.int r7), M5)) ∧
        mq_G mq_X0_fills (4, [some (.ref 2), some (.int x1), some (.int r7), some (.int (x3 + 1))], [], M5) res)))) ∧
      (¬ (x3 ≤ 0) →
        ((¬ x2 = 1 →
          (vp_in x3 256) ∧
          (∀ M9 : mz_M, M9 = mz_wr M 3 (upd (M.1 3) x3.toNatClampNeg x2) →
          (vp_in x2 256) ∧
          (∀ M11 : mz_M, M11 = mz_wr M9 4 (upd (M9.1 4) x2.toNatClampNeg x3) →
          (∃ (r13 : Int32), (mq_C mq_X0_multiplied [.ref 2, .int x2, .int x1] M11 (some (.int r13), M11)) ∧
          mq_G mq_X0_fills (4, [some (.ref 2), some (.int x1), some (.int r13), some (.int (x3 + 1))], [], M11) res)))) ∧
        (¬ (¬ x2 = 1) →
          res = (some (.int 0), M)))))))) :
    mq_G mq_X0_fills (4, [some (.ref 2), some (.int x1), some (.int x2), some (.int x3)], [], M) res := by
  refine mz_Go.steps (n := 6) (k2 := (if ((M.1 2 2) - 1) ≤ x3 then 52 else 14, [some (.ref 2), some (.int x1), some (.int x2), some (.int x3)], [], M)) (P := []) rfl mz_o0 ?_
  refine mz_Go.ite (fun c11 => ?_) (fun c11 => ?_)
  · replace h := h.1 c11
    refine mz_Go.steps (n := 1) (k2 := (53, [some (.ref 2), some (.int x1), some (.int x2), some (.int x3)], [.int 1], M)) (P := []) rfl mz_o0 ?_
    rw [h]
    exact mz_Go.zret (rfl : mz_find 53 (mz_rows mq_X0_fills) = some (53, .ireturn, 1, 0, 0, 0)) rfl (Or.inr rfl)
  · replace h := h.2 c11
    refine mz_Go.steps (n := 2) (k2 := (if x3 ≤ 0 then 25 else 18, [some (.ref 2), some (.int x1), some (.int x2), some (.int x3)], [], M)) (P := []) rfl mz_o0 ?_
    refine mz_Go.ite (fun c15 => ?_) (fun c15 => ?_)
    · replace h := h.1 c15
      obtain ⟨q4, h⟩ := h
      obtain ⟨M3, e3⟩ : ∃ y, y = mz_wr M 3 (upd (M.1 3) x3.toNatClampNeg x2) := ⟨_, rfl⟩
      replace h := h M3 e3
      refine mz_Go.steps (n := 5) (k2 := (32, [some (.ref 2), some (.int x1), some (.int x2), some (.int x3)], [], (mz_wr M 3 (upd (M.1 3) x3.toNatClampNeg x2)))) (P := [vp_in x3 256]) rfl (mz_o1 q4) ?_
      rw [← e3]
      obtain ⟨q6, h⟩ := h
      obtain ⟨M5, e5⟩ : ∃ y, y = mz_wr M3 4 (upd (M3.1 4) x2.toNatClampNeg x3) := ⟨_, rfl⟩
      replace h := h M5 e5
      refine mz_Go.steps (n := 5) (k2 := (39, [some (.ref 2), some (.int x1), some (.int x2), some (.int x3)], [], (mz_wr M3 4 (upd (M3.1 4) x2.toNatClampNeg x3)))) (P := [vp_in x2 256]) rfl (mz_o1 q6) ?_
      rw [← e5]
      refine mz_Go.steps (n := 3) (k2 := (42, [some (.ref 2), some (.int x1), some (.int x2), some (.int x3)], [.int x1, .int x2, .ref 2], M5)) (P := []) rfl mz_o0 ?_
      obtain ⟨r7, k7, h⟩ := h
      refine mz_Go.callV (As := [.int x2, .int x1]) (rest := []) (rfl : mz_find 42 (mz_rows mq_X0_fills) = some (42, .invokevirtual 45, 3, 2, 0, 9)) (rfl : mz_nth mq_tab 2 = some mq_X0_multiplied) rfl rfl rfl rfl (Nat.le_of_ble_eq_true rfl) (Nat.le_of_ble_eq_true rfl) k7 ?_
      show mq_G mq_X0_fills (45, [some (.ref 2), some (.int x1), some (.int x2), some (.int x3)], [.int r7], M5) res
      refine mz_Go.steps (n := 3) (k2 := (4, [some (.ref 2), some (.int x1), some (.int r7), some (.int (x3 + 1))], [], M5)) (P := []) rfl mz_o0 ?_
      exact h
    · replace h := h.2 c15
      refine mz_Go.steps (n := 3) (k2 := (if ¬ x2 = 1 then 25 else 23, [some (.ref 2), some (.int x1), some (.int x2), some (.int x3)], [], M)) (P := []) rfl mz_o0 ?_
      refine mz_Go.ite (fun c20 => ?_) (fun c20 => ?_)
      · replace h := h.1 c20
        obtain ⟨q10, h⟩ := h
        obtain ⟨M9, e9⟩ : ∃ y, y = mz_wr M 3 (upd (M.1 3) x3.toNatClampNeg x2) := ⟨_, rfl⟩
        replace h := h M9 e9
        refine mz_Go.steps (n := 5) (k2 := (32, [some (.ref 2), some (.int x1), some (.int x2), some (.int x3)], [], (mz_wr M 3 (upd (M.1 3) x3.toNatClampNeg x2)))) (P := [vp_in x3 256]) rfl (mz_o1 q10) ?_
        rw [← e9]
        obtain ⟨q12, h⟩ := h
        obtain ⟨M11, e11⟩ : ∃ y, y = mz_wr M9 4 (upd (M9.1 4) x2.toNatClampNeg x3) := ⟨_, rfl⟩
        replace h := h M11 e11
        refine mz_Go.steps (n := 5) (k2 := (39, [some (.ref 2), some (.int x1), some (.int x2), some (.int x3)], [], (mz_wr M9 4 (upd (M9.1 4) x2.toNatClampNeg x3)))) (P := [vp_in x2 256]) rfl (mz_o1 q12) ?_
        rw [← e11]
        refine mz_Go.steps (n := 3) (k2 := (42, [some (.ref 2), some (.int x1), some (.int x2), some (.int x3)], [.int x1, .int x2, .ref 2], M11)) (P := []) rfl mz_o0 ?_
        obtain ⟨r13, k13, h⟩ := h
        refine mz_Go.callV (As := [.int x2, .int x1]) (rest := []) (rfl : mz_find 42 (mz_rows mq_X0_fills) = some (42, .invokevirtual 45, 3, 2, 0, 9)) (rfl : mz_nth mq_tab 2 = some mq_X0_multiplied) rfl rfl rfl rfl (Nat.le_of_ble_eq_true rfl) (Nat.le_of_ble_eq_true rfl) k13 ?_
        show mq_G mq_X0_fills (45, [some (.ref 2), some (.int x1), some (.int x2), some (.int x3)], [.int r13], M11) res
        refine mz_Go.steps (n := 3) (k2 := (4, [some (.ref 2), some (.int x1), some (.int r13), some (.int (x3 + 1))], [], M11)) (P := []) rfl mz_o0 ?_
        exact h
      · replace h := h.2 c20
        refine mz_Go.steps (n := 1) (k2 := (24, [some (.ref 2), some (.int x1), some (.int x2), some (.int x3)], [.int 0], M)) (P := []) rfl mz_o0 ?_
        rw [h]
        exact mz_Go.zret (rfl : mz_find 24 (mz_rows mq_X0_fills) = some (24, .ireturn, 1, 0, 0, 0)) rfl (Or.inl rfl)
set_option maxRecDepth 100000 in
set_option maxHeartbeats 4000000 in
theorem t_X0_multiplied_0 (x1 : Int32) (x2 : Int32) (M : mz_M) {res : mz_O} (h :
    mq_G mq_X0_multiplied (5, [some (.ref 2), some (.int x1), some (.int x2), some (.int 0), some (.int 0)], [], M) res) :
    mq_G mq_X0_multiplied (0, [some (.ref 2), some (.int x1), some (.int x2), none, none], [], M) res := by
  refine mz_Go.steps (n := 4) (k2 := (5, [some (.ref 2), some (.int x1), some (.int x2), some (.int 0), some (.int 0)], [], M)) (P := []) rfl mz_o0 ?_
  exact h
set_option maxRecDepth 100000 in
set_option maxHeartbeats 4000000 in
theorem t_X0_multiplied_5 (x1 : Int32) (x2 : Int32) (x3 : Int32) (x4 : Int32) (M : mz_M) {res : mz_O} (h :
    ((8 ≤ x4 →
      (∃ (r2 : Int32), (mq_C mq_X4_remainder [.int x3, .int (M.1 2 0)] M (some (.int r2), M)) ∧
      res = (some (.int r2), M))) ∧
    (¬ (8 ≤ x4) →
      ((((x2 >>> (x4 &&& 31)) &&& 1) = 0 →
        mq_G mq_X0_multiplied (5, [some (.ref 2), some (.int x1), some (.int x2), some (.int x3), some (.int (x4 + 1))], [], M) res) ∧
      (¬ (((x2 >>> (x4 &&& 31)) &&& 1) = 0) →
        mq_G mq_X0_multiplied (5, [some (.ref 2), some (.int x1), some (.int x2), some (.int (x3 ^^^ (x1 <<< (x4 &&& 31)))), some (.int (x4 + 1))], [], M) res))))) :
    mq_G mq_X0_multiplied (5, [some (.ref 2), some (.int x1), some (.int x2), some (.int x3), some (.int x4)], [], M) res := by
  refine mz_Go.steps (n := 3) (k2 := (if 8 ≤ x4 then 34 else 12, [some (.ref 2), some (.int x1), some (.int x2), some (.int x3), some (.int x4)], [], M)) (P := []) rfl mz_o0 ?_
  refine mz_Go.ite (fun c9 => ?_) (fun c9 => ?_)
  · replace h := h.1 c9
    refine mz_Go.steps (n := 3) (k2 := (39, [some (.ref 2), some (.int x1), some (.int x2), some (.int x3), some (.int x4)], [.int (M.1 2 0), .int x3], M)) (P := []) rfl mz_o0 ?_
    obtain ⟨r2, k2, h⟩ := h
    refine mz_Go.callS (As := [.int x3, .int (M.1 2 0)]) (rest := []) (rfl : mz_find 39 (mz_rows mq_X0_multiplied) = some (39, .invokestatic 48, 3, 38, 0, 10)) (rfl : mz_nth mq_tab 38 = some mq_X4_remainder) (by decide) rfl rfl rfl (Nat.le_of_ble_eq_true rfl) (Nat.le_of_ble_eq_true rfl) k2 ?_
    show mq_G mq_X0_multiplied (42, [some (.ref 2), some (.int x1), some (.int x2), some (.int x3), some (.int x4)], [.int r2], M) res
    rw [h]
    exact mz_Go.iret (rfl : mz_find 42 (mz_rows mq_X0_multiplied) = some (42, .ireturn, 1, 0, 0, 0)) rfl
  · replace h := h.2 c9
    refine mz_Go.steps (n := 6) (k2 := (if ((x2 >>> (x4 &&& 31)) &&& 1) = 0 then 28 else 21, [some (.ref 2), some (.int x1), some (.int x2), some (.int x3), some (.int x4)], [], M)) (P := []) rfl mz_o0 ?_
    refine mz_Go.ite (fun c18 => ?_) (fun c18 => ?_)
    · replace h := h.1 c18
      refine mz_Go.steps (n := 2) (k2 := (5, [some (.ref 2), some (.int x1), some (.int x2), some (.int x3), some (.int (x4 + 1))], [], M)) (P := []) rfl mz_o0 ?_
      exact h
    · replace h := h.2 c18
      refine mz_Go.steps (n := 8) (k2 := (5, [some (.ref 2), some (.int x1), some (.int x2), some (.int (x3 ^^^ (x1 <<< (x4 &&& 31)))), some (.int (x4 + 1))], [], M)) (P := []) rfl mz_o0 ?_
      exact h
set_option maxRecDepth 100000 in
set_option maxHeartbeats 4000000 in
theorem t_X0_times_0 (x1 : Int32) (x2 : Int32) (M : mz_M) {res : mz_O} (h :
    ((x1 = 0 →
      res = (some (.int 0), M)) ∧
    (¬ (x1 = 0) →
      ((¬ x2 = 0 →
        (vp_in x1 256) ∧
        (vp_in x2 256) ∧
        ((((M.1 2 2) - 1) ≤ ((M.1 4 x1.toNatClampNeg) + (M.1 4 x2.toNatClampNeg)) →
          (vp_in ((((M.1 4 x1.toNatClampNeg) + (M.1 4 x2.toNatClampNeg)) - (M.1 2 2)) + 1) 256) ∧
          res = (some (.int (M.1 3 ((((M.1 4 x1.toNatClampNeg) + (M.1 4 x2.toNatClampNeg)) - (M.1 2 2)) + 1).toNatClampNeg)), M)) ∧
        (¬ (((M.1 2 2) - 1) ≤ ((M.1 4 x1.toNatClampNeg) + (M.1 4 x2.toNatClampNeg))) →
          (vp_in ((M.1 4 x1.toNatClampNeg) + (M.1 4 x2.toNatClampNeg)) 256) ∧
          res = (some (.int (M.1 3 ((M.1 4 x1.toNatClampNeg) + (M.1 4 x2.toNatClampNeg)).toNatClampNeg)), M)))) ∧
      (¬ (¬ x2 = 0) →
        res = (some (.int 0), M)))))) :
    mq_G mq_X0_times (0, [some (.ref 2), some (.int x1), some (.int x2), none], [], M) res := by
  refine mz_Go.steps (n := 2) (k2 := (if x1 = 0 then 8 else 4, [some (.ref 2), some (.int x1), some (.int x2), none], [], M)) (P := []) rfl mz_o0 ?_
  refine mz_Go.ite (fun c1 => ?_) (fun c1 => ?_)
  · replace h := h.1 c1
    refine mz_Go.steps (n := 1) (k2 := (9, [some (.ref 2), some (.int x1), some (.int x2), none], [.int 0], M)) (P := []) rfl mz_o0 ?_
    rw [h]
    exact mz_Go.iret (rfl : mz_find 9 (mz_rows mq_X0_times) = some (9, .ireturn, 1, 0, 0, 0)) rfl
  · replace h := h.2 c1
    refine mz_Go.steps (n := 2) (k2 := (if ¬ x2 = 0 then 10 else 8, [some (.ref 2), some (.int x1), some (.int x2), none], [], M)) (P := []) rfl mz_o0 ?_
    refine mz_Go.ite (fun c5 => ?_) (fun c5 => ?_)
    · replace h := h.1 c5
      obtain ⟨q4, q5, h⟩ := h
      refine mz_Go.steps (n := 18) (k2 := (if ((M.1 2 2) - 1) ≤ ((M.1 4 x1.toNatClampNeg) + (M.1 4 x2.toNatClampNeg)) then 42 else 38, [some (.ref 2), some (.int x1), some (.int x2), some (.int ((M.1 4 x1.toNatClampNeg) + (M.1 4 x2.toNatClampNeg)))], [.ref 3], M)) (P := [vp_in x1 256, vp_in x2 256]) rfl (mz_o2 q4 q5) ?_
      refine mz_Go.ite (fun c35 => ?_) (fun c35 => ?_)
      · replace h := h.1 c35
        obtain ⟨q6, h⟩ := h
        refine mz_Go.steps (n := 7) (k2 := (51, [some (.ref 2), some (.int x1), some (.int x2), some (.int ((M.1 4 x1.toNatClampNeg) + (M.1 4 x2.toNatClampNeg)))], [.int (M.1 3 ((((M.1 4 x1.toNatClampNeg) + (M.1 4 x2.toNatClampNeg)) - (M.1 2 2)) + 1).toNatClampNeg)], M)) (P := [vp_in ((((M.1 4 x1.toNatClampNeg) + (M.1 4 x2.toNatClampNeg)) - (M.1 2 2)) + 1) 256]) rfl (mz_o1 q6) ?_
        rw [h]
        exact mz_Go.iret (rfl : mz_find 51 (mz_rows mq_X0_times) = some (51, .ireturn, 1, 0, 0, 0)) rfl
      · replace h := h.2 c35
        obtain ⟨q7, h⟩ := h
        refine mz_Go.steps (n := 3) (k2 := (51, [some (.ref 2), some (.int x1), some (.int x2), some (.int ((M.1 4 x1.toNatClampNeg) + (M.1 4 x2.toNatClampNeg)))], [.int (M.1 3 ((M.1 4 x1.toNatClampNeg) + (M.1 4 x2.toNatClampNeg)).toNatClampNeg)], M)) (P := [vp_in ((M.1 4 x1.toNatClampNeg) + (M.1 4 x2.toNatClampNeg)) 256]) rfl (mz_o1 q7) ?_
        rw [h]
        exact mz_Go.iret (rfl : mz_find 51 (mz_rows mq_X0_times) = some (51, .ireturn, 1, 0, 0, 0)) rfl
    · replace h := h.2 c5
      refine mz_Go.steps (n := 1) (k2 := (9, [some (.ref 2), some (.int x1), some (.int x2), none], [.int 0], M)) (P := []) rfl mz_o0 ?_
      rw [h]
      exact mz_Go.iret (rfl : mz_find 9 (mz_rows mq_X0_times) = some (9, .ireturn, 1, 0, 0, 0)) rfl
set_option maxRecDepth 100000 in
set_option maxHeartbeats 4000000 in
theorem t_X0_turned_0 (x1 : Int32) (M : mz_M) {res : mz_O} (h :
    (vp_in x1 256) ∧
    ((¬ (M.1 4 x1.toNatClampNeg) = 0 →
      (vp_in (((M.1 2 2) - 1) - (M.1 4 x1.toNatClampNeg)) 256) ∧
      res = (some (.int (M.1 3 (((M.1 2 2) - 1) - (M.1 4 x1.toNatClampNeg)).toNatClampNeg)), M)) ∧
    (¬ (¬ (M.1 4 x1.toNatClampNeg) = 0) →
      (vp_in 0 256) ∧
      res = (some (.int (M.1 3 (0 : Int32).toNatClampNeg)), M)))) :
    mq_G mq_X0_turned (0, [some (.ref 2), some (.int x1), none], [], M) res := by
  obtain ⟨q2, h⟩ := h
  refine mz_Go.steps (n := 9) (k2 := (if ¬ (M.1 4 x1.toNatClampNeg) = 0 then 19 else 15, [some (.ref 2), some (.int x1), some (.int (M.1 4 x1.toNatClampNeg))], [.ref 3], M)) (P := [vp_in x1 256]) rfl (mz_o1 q2) ?_
  refine mz_Go.ite (fun c12 => ?_) (fun c12 => ?_)
  · replace h := h.1 c12
    obtain ⟨q3, h⟩ := h
    refine mz_Go.steps (n := 7) (k2 := (28, [some (.ref 2), some (.int x1), some (.int (M.1 4 x1.toNatClampNeg))], [.int (M.1 3 (((M.1 2 2) - 1) - (M.1 4 x1.toNatClampNeg)).toNatClampNeg)], M)) (P := [vp_in (((M.1 2 2) - 1) - (M.1 4 x1.toNatClampNeg)) 256]) rfl (mz_o1 q3) ?_
    rw [h]
    exact mz_Go.iret (rfl : mz_find 28 (mz_rows mq_X0_turned) = some (28, .ireturn, 1, 0, 0, 0)) rfl
  · replace h := h.2 c12
    obtain ⟨q4, h⟩ := h
    refine mz_Go.steps (n := 3) (k2 := (28, [some (.ref 2), some (.int x1), some (.int (M.1 4 x1.toNatClampNeg))], [.int (M.1 3 (0 : Int32).toNatClampNeg)], M)) (P := [vp_in 0 256]) rfl (mz_o1 q4) ?_
    rw [h]
    exact mz_Go.iret (rfl : mz_find 28 (mz_rows mq_X0_turned) = some (28, .ireturn, 1, 0, 0, 0)) rfl
set_option maxRecDepth 100000 in
set_option maxHeartbeats 4000000 in
theorem t_X0_raised_0 (x1 : Int32) (x2 : Int32) (M : mz_M) {res : mz_O} (h :
    mq_G mq_X0_raised (8, [some (.ref 2), some (.int x1), some (.int x2), some (.int 1), some (.int x1), some (.int 0)], [], M) res) :
    mq_G mq_X0_raised (0, [some (.ref 2), some (.int x1), some (.int x2), none, none, none], [], M) res := by
  refine mz_Go.steps (n := 6) (k2 := (8, [some (.ref 2), some (.int x1), some (.int x2), some (.int 1), some (.int x1), some (.int 0)], [], M)) (P := []) rfl mz_o0 ?_
  exact h
set_option maxRecDepth 100000 in
set_option maxHeartbeats 4000000 in
theorem t_X0_raised_8 (o1 : Option Value) (x2 : Int32) (x3 : Int32) (x4 : Int32) (x5 : Int32) (M : mz_M) {res : mz_O} (h :
    ((31 ≤ x5 →
      res = (some (.int x3), M)) ∧
    (¬ (31 ≤ x5) →
      ((((x2 >>> (x5 &&& 31)) &&& 1) = 0 →
        (∃ (r3 : Int32), (mq_C mq_X0_times [.ref 2, .int x4, .int x4] M (some (.int r3), M)) ∧
        mq_G mq_X0_raised (8, [some (.ref 2), o1, some (.int x2), some (.int x3), some (.int r3), some (.int (x5 + 1))], [], M) res)) ∧
      (¬ (((x2 >>> (x5 &&& 31)) &&& 1) = 0) →
        (∃ (r4 : Int32), (mq_C mq_X0_times [.ref 2, .int x3, .int x4] M (some (.int r4), M)) ∧
        (∃ (r5 : Int32), (mq_C mq_X0_times [.ref 2, .int x4, .int x4] M (some (.int r5), M)) ∧
        mq_G mq_X0_raised (8, [some (.ref 2), o1, some (.int x2), some (.int r4), some (.int r5), some (.int (x5 + 1))], [], M) res))))))) :
    mq_G mq_X0_raised (8, [some (.ref 2), o1, some (.int x2), some (.int x3), some (.int x4), some (.int x5)], [], M) res := by
  refine mz_Go.steps (n := 3) (k2 := (if 31 ≤ x5 then 48 else 15, [some (.ref 2), o1, some (.int x2), some (.int x3), some (.int x4), some (.int x5)], [], M)) (P := []) rfl mz_o0 ?_
  refine mz_Go.ite (fun c12 => ?_) (fun c12 => ?_)
  · replace h := h.1 c12
    refine mz_Go.steps (n := 1) (k2 := (49, [some (.ref 2), o1, some (.int x2), some (.int x3), some (.int x4), some (.int x5)], [.int x3], M)) (P := []) rfl mz_o0 ?_
    rw [h]
    exact mz_Go.iret (rfl : mz_find 49 (mz_rows mq_X0_raised) = some (49, .ireturn, 1, 0, 0, 0)) rfl
  · replace h := h.2 c12
    refine mz_Go.steps (n := 6) (k2 := (if ((x2 >>> (x5 &&& 31)) &&& 1) = 0 then 32 else 24, [some (.ref 2), o1, some (.int x2), some (.int x3), some (.int x4), some (.int x5)], [], M)) (P := []) rfl mz_o0 ?_
    refine mz_Go.ite (fun c21 => ?_) (fun c21 => ?_)
    · replace h := h.1 c21
      refine mz_Go.steps (n := 3) (k2 := (37, [some (.ref 2), o1, some (.int x2), some (.int x3), some (.int x4), some (.int x5)], [.int x4, .int x4, .ref 2], M)) (P := []) rfl mz_o0 ?_
      obtain ⟨r3, k3, h⟩ := h
      refine mz_Go.callV (As := [.int x4, .int x4]) (rest := []) (rfl : mz_find 37 (mz_rows mq_X0_raised) = some (37, .invokevirtual 51, 3, 3, 0, 11)) (rfl : mz_nth mq_tab 3 = some mq_X0_times) rfl rfl rfl rfl (Nat.le_of_ble_eq_true rfl) (Nat.le_of_ble_eq_true rfl) k3 ?_
      show mq_G mq_X0_raised (40, [some (.ref 2), o1, some (.int x2), some (.int x3), some (.int x4), some (.int x5)], [.int r3], M) res
      refine mz_Go.steps (n := 3) (k2 := (8, [some (.ref 2), o1, some (.int x2), some (.int x3), some (.int r3), some (.int (x5 + 1))], [], M)) (P := []) rfl mz_o0 ?_
      exact h
    · replace h := h.2 c21
      refine mz_Go.steps (n := 3) (k2 := (28, [some (.ref 2), o1, some (.int x2), some (.int x3), some (.int x4), some (.int x5)], [.int x4, .int x3, .ref 2], M)) (P := []) rfl mz_o0 ?_
      obtain ⟨r4, k4, h⟩ := h
      refine mz_Go.callV (As := [.int x3, .int x4]) (rest := []) (rfl : mz_find 28 (mz_rows mq_X0_raised) = some (28, .invokevirtual 51, 3, 3, 0, 11)) (rfl : mz_nth mq_tab 3 = some mq_X0_times) rfl rfl rfl rfl (Nat.le_of_ble_eq_true rfl) (Nat.le_of_ble_eq_true rfl) k4 ?_
      show mq_G mq_X0_raised (31, [some (.ref 2), o1, some (.int x2), some (.int x3), some (.int x4), some (.int x5)], [.int r4], M) res
      refine mz_Go.steps (n := 4) (k2 := (37, [some (.ref 2), o1, some (.int x2), some (.int r4), some (.int x4), some (.int x5)], [.int x4, .int x4, .ref 2], M)) (P := []) rfl mz_o0 ?_
      obtain ⟨r5, k5, h⟩ := h
      refine mz_Go.callV (As := [.int x4, .int x4]) (rest := []) (rfl : mz_find 37 (mz_rows mq_X0_raised) = some (37, .invokevirtual 51, 3, 3, 0, 11)) (rfl : mz_nth mq_tab 3 = some mq_X0_times) rfl rfl rfl rfl (Nat.le_of_ble_eq_true rfl) (Nat.le_of_ble_eq_true rfl) k5 ?_
      show mq_G mq_X0_raised (40, [some (.ref 2), o1, some (.int x2), some (.int r4), some (.int x4), some (.int x5)], [.int r5], M) res
      refine mz_Go.steps (n := 3) (k2 := (8, [some (.ref 2), o1, some (.int x2), some (.int r4), some (.int r5), some (.int (x5 + 1))], [], M)) (P := []) rfl mz_o0 ?_
      exact h
set_option maxRecDepth 100000 in
set_option maxHeartbeats 4000000 in
theorem t_X0_squared_0 (x1 : Int32) (x2 : Int32) (M : mz_M) {res : mz_O} (h :
    mq_G mq_X0_squared (5, [some (.ref 2), some (.int x1), some (.int x2), some (.int x1), some (.int 0)], [], M) res) :
    mq_G mq_X0_squared (0, [some (.ref 2), some (.int x1), some (.int x2), none, none], [], M) res := by
  refine mz_Go.steps (n := 4) (k2 := (5, [some (.ref 2), some (.int x1), some (.int x2), some (.int x1), some (.int 0)], [], M)) (P := []) rfl mz_o0 ?_
  exact h
set_option maxRecDepth 100000 in
set_option maxHeartbeats 4000000 in
theorem t_X0_squared_5 (o1 : Option Value) (x2 : Int32) (x3 : Int32) (x4 : Int32) (M : mz_M) {res : mz_O} (h :
    ((x2 ≤ x4 →
      res = (some (.int x3), M)) ∧
    (¬ (x2 ≤ x4) →
      (∃ (r2 : Int32), (mq_C mq_X0_times [.ref 2, .int x3, .int x3] M (some (.int r2), M)) ∧
      mq_G mq_X0_squared (5, [some (.ref 2), o1, some (.int x2), some (.int r2), some (.int (x4 + 1))], [], M) res)))) :
    mq_G mq_X0_squared (5, [some (.ref 2), o1, some (.int x2), some (.int x3), some (.int x4)], [], M) res := by
  refine mz_Go.steps (n := 3) (k2 := (if x2 ≤ x4 then 24 else 11, [some (.ref 2), o1, some (.int x2), some (.int x3), some (.int x4)], [], M)) (P := []) rfl mz_o0 ?_
  refine mz_Go.ite (fun c8 => ?_) (fun c8 => ?_)
  · replace h := h.1 c8
    refine mz_Go.steps (n := 1) (k2 := (25, [some (.ref 2), o1, some (.int x2), some (.int x3), some (.int x4)], [.int x3], M)) (P := []) rfl mz_o0 ?_
    rw [h]
    exact mz_Go.iret (rfl : mz_find 25 (mz_rows mq_X0_squared) = some (25, .ireturn, 1, 0, 0, 0)) rfl
  · replace h := h.2 c8
    refine mz_Go.steps (n := 3) (k2 := (14, [some (.ref 2), o1, some (.int x2), some (.int x3), some (.int x4)], [.int x3, .int x3, .ref 2], M)) (P := []) rfl mz_o0 ?_
    obtain ⟨r2, k2, h⟩ := h
    refine mz_Go.callV (As := [.int x3, .int x3]) (rest := []) (rfl : mz_find 14 (mz_rows mq_X0_squared) = some (14, .invokevirtual 51, 3, 3, 0, 11)) (rfl : mz_nth mq_tab 3 = some mq_X0_times) rfl rfl rfl rfl (Nat.le_of_ble_eq_true rfl) (Nat.le_of_ble_eq_true rfl) k2 ?_
    show mq_G mq_X0_squared (17, [some (.ref 2), o1, some (.int x2), some (.int x3), some (.int x4)], [.int r2], M) res
    refine mz_Go.steps (n := 3) (k2 := (5, [some (.ref 2), o1, some (.int x2), some (.int r2), some (.int (x4 + 1))], [], M)) (P := []) rfl mz_o0 ?_
    exact h
set_option maxRecDepth 100000 in
set_option maxHeartbeats 4000000 in
theorem t_X0_orderOf_0 (x1 : Int32) (M : mz_M) {res : mz_O} (h :
    (vp_in x1 256) ∧
    mq_G mq_X0_orderOf (20, [some (.ref 2), some (.int x1), some (.int ((M.1 2 2) - 1)), some (.int ((M.1 2 2) - 1)), some (.int (M.1 4 x1.toNatClampNeg)), some (.int 0), none], [], M) res) :
    mq_G mq_X0_orderOf (0, [some (.ref 2), some (.int x1), none, none, none, none, none], [], M) res := by
  obtain ⟨q1, h⟩ := h
  refine mz_Go.steps (n := 14) (k2 := (20, [some (.ref 2), some (.int x1), some (.int ((M.1 2 2) - 1)), some (.int ((M.1 2 2) - 1)), some (.int (M.1 4 x1.toNatClampNeg)), some (.int 0), none], [], M)) (P := [vp_in x1 256]) rfl (mz_o1 q1) ?_
  exact h
set_option maxRecDepth 100000 in
set_option maxHeartbeats 4000000 in
theorem t_X0_orderOf_20 (o0 : Option Value) (o1 : Option Value) (x2 : Int32) (x3 : Int32) (x4 : Int32) (x5 : Int32) (o6 : Option Value) (M : mz_M) {res : mz_O} (h :
    ((64 ≤ x5 →
      ((x3 ≤ 0 →
        res = (some (.int 1), M)) ∧
      (¬ (x3 ≤ 0) →
        (¬ x3 = 0) ∧
        res = (some (.int (x2 / x3)), M)))) ∧
    (¬ (64 ≤ x5) →
      ((x4 ≤ 0 →
        ((x3 ≤ 0 →
          res = (some (.int 1), M)) ∧
        (¬ (x3 ≤ 0) →
          (¬ x3 = 0) ∧
          res = (some (.int (x2 / x3)), M)))) ∧
      (¬ (x4 ≤ 0) →
        (¬ x4 = 0) ∧
        mq_G mq_X0_orderOf (20, [o0, o1, some (.int x2), some (.int x4), some (.int (x3 - x3 / x4 * x4)), some (.int (x5 + 1)), some (.int (x3 - x3 / x4 * x4))], [], M) res))))) :
    mq_G mq_X0_orderOf (20, [o0, o1, some (.int x2), some (.int x3), some (.int x4), some (.int x5), o6], [], M) res := by
  refine mz_Go.steps (n := 3) (k2 := (if 64 ≤ x5 then 51 else 27, [o0, o1, some (.int x2), some (.int x3), some (.int x4), some (.int x5), o6], [], M)) (P := []) rfl mz_o0 ?_
  refine mz_Go.ite (fun c24 => ?_) (fun c24 => ?_)
  · replace h := h.1 c24
    refine mz_Go.steps (n := 2) (k2 := (if x3 ≤ 0 then 61 else 55, [o0, o1, some (.int x2), some (.int x3), some (.int x4), some (.int x5), o6], [], M)) (P := []) rfl mz_o0 ?_
    refine mz_Go.ite (fun c52 => ?_) (fun c52 => ?_)
    · replace h := h.1 c52
      refine mz_Go.steps (n := 1) (k2 := (62, [o0, o1, some (.int x2), some (.int x3), some (.int x4), some (.int x5), o6], [.int 1], M)) (P := []) rfl mz_o0 ?_
      rw [h]
      exact mz_Go.iret (rfl : mz_find 62 (mz_rows mq_X0_orderOf) = some (62, .ireturn, 1, 0, 0, 0)) rfl
    · replace h := h.2 c52
      obtain ⟨q3, h⟩ := h
      refine mz_Go.steps (n := 4) (k2 := (62, [o0, o1, some (.int x2), some (.int x3), some (.int x4), some (.int x5), o6], [.int (x2 / x3)], M)) (P := [¬ x3 = 0]) rfl (mz_o1 q3) ?_
      rw [h]
      exact mz_Go.iret (rfl : mz_find 62 (mz_rows mq_X0_orderOf) = some (62, .ireturn, 1, 0, 0, 0)) rfl
  · replace h := h.2 c24
    refine mz_Go.steps (n := 2) (k2 := (if x4 ≤ 0 then 51 else 32, [o0, o1, some (.int x2), some (.int x3), some (.int x4), some (.int x5), o6], [], M)) (P := []) rfl mz_o0 ?_
    refine mz_Go.ite (fun c29 => ?_) (fun c29 => ?_)
    · replace h := h.1 c29
      refine mz_Go.steps (n := 2) (k2 := (if x3 ≤ 0 then 61 else 55, [o0, o1, some (.int x2), some (.int x3), some (.int x4), some (.int x5), o6], [], M)) (P := []) rfl mz_o0 ?_
      refine mz_Go.ite (fun c52 => ?_) (fun c52 => ?_)
      · replace h := h.1 c52
        refine mz_Go.steps (n := 1) (k2 := (62, [o0, o1, some (.int x2), some (.int x3), some (.int x4), some (.int x5), o6], [.int 1], M)) (P := []) rfl mz_o0 ?_
        rw [h]
        exact mz_Go.iret (rfl : mz_find 62 (mz_rows mq_X0_orderOf) = some (62, .ireturn, 1, 0, 0, 0)) rfl
      · replace h := h.2 c52
        obtain ⟨q6, h⟩ := h
        refine mz_Go.steps (n := 4) (k2 := (62, [o0, o1, some (.int x2), some (.int x3), some (.int x4), some (.int x5), o6], [.int (x2 / x3)], M)) (P := [¬ x3 = 0]) rfl (mz_o1 q6) ?_
        rw [h]
        exact mz_Go.iret (rfl : mz_find 62 (mz_rows mq_X0_orderOf) = some (62, .ireturn, 1, 0, 0, 0)) rfl
    · replace h := h.2 c29
      obtain ⟨q7, h⟩ := h
      refine mz_Go.steps (n := 10) (k2 := (20, [o0, o1, some (.int x2), some (.int x4), some (.int (x3 - x3 / x4 * x4)), some (.int (x5 + 1)), some (.int (x3 - x3 / x4 * x4))], [], M)) (P := [¬ x4 = 0]) rfl (mz_o1 q7) ?_
      exact h
set_option maxRecDepth 100000 in
set_option maxHeartbeats 4000000 in
theorem t_X0_generates_0 (x1 : Int32) (M : mz_M) {res : mz_O} (h :
    (∃ (r1 : Int32), (mq_C mq_X0_orderOf [.ref 2, .int x1] M (some (.int r1), M)) ∧
    ((¬ r1 = ((M.1 2 2) - 1) →
      res = (some (.int 0), M)) ∧
    (¬ (¬ r1 = ((M.1 2 2) - 1)) →
      res = (some (.int 1), M))))) :
    mq_G mq_X0_generates (0, [some (.ref 2), some (.int x1)], [], M) res := by
  refine mz_Go.steps (n := 2) (k2 := (2, [some (.ref 2), some (.int x1)], [.int x1, .ref 2], M)) (P := []) rfl mz_o0 ?_
  obtain ⟨r1, k1, h⟩ := h
  refine mz_Go.callV (As := [.int x1]) (rest := []) (rfl : mz_find 2 (mz_rows mq_X0_generates) = some (2, .invokevirtual 54, 3, 7, 0, 12)) (rfl : mz_nth mq_tab 7 = some mq_X0_orderOf) rfl rfl rfl rfl (Nat.le_of_ble_eq_true rfl) (Nat.le_of_ble_eq_true rfl) k1 ?_
  show mq_G mq_X0_generates (5, [some (.ref 2), some (.int x1)], [.int r1], M) res
  refine mz_Go.steps (n := 5) (k2 := (if ¬ r1 = ((M.1 2 2) - 1) then 18 else 14, [some (.ref 2), some (.int x1)], [], M)) (P := []) rfl mz_o0 ?_
  refine mz_Go.ite (fun c11 => ?_) (fun c11 => ?_)
  · replace h := h.1 c11
    refine mz_Go.steps (n := 1) (k2 := (19, [some (.ref 2), some (.int x1)], [.int 0], M)) (P := []) rfl mz_o0 ?_
    rw [h]
    exact mz_Go.zret (rfl : mz_find 19 (mz_rows mq_X0_generates) = some (19, .ireturn, 1, 0, 0, 0)) rfl (Or.inl rfl)
  · replace h := h.2 c11
    refine mz_Go.steps (n := 2) (k2 := (19, [some (.ref 2), some (.int x1)], [.int 1], M)) (P := []) rfl mz_o0 ?_
    rw [h]
    exact mz_Go.zret (rfl : mz_find 19 (mz_rows mq_X0_generates) = some (19, .ireturn, 1, 0, 0, 0)) rfl (Or.inr rfl)
set_option maxRecDepth 100000 in
set_option maxHeartbeats 4000000 in
theorem t_X0_howManyOfOrder_0 (x1 : Int32) (M : mz_M) {res : mz_O} (h :
    ((x1 ≤ 0 →
      res = (some (.int 0), M)) ∧
    (¬ (x1 ≤ 0) →
      (¬ x1 = 0) ∧
      ((¬ (((M.1 2 2) - 1) - ((M.1 2 2) - 1) / x1 * x1) = 0 →
        res = (some (.int 0), M)) ∧
      (¬ (¬ (((M.1 2 2) - 1) - ((M.1 2 2) - 1) / x1 * x1) = 0) →
        mq_G mq_X0_howManyOfOrder (19, [some (.ref 2), some (.int x1), some (.int 0), some (.int 1)], [], M) res))))) :
    mq_G mq_X0_howManyOfOrder (0, [some (.ref 2), some (.int x1), none, none], [], M) res := by
  refine mz_Go.steps (n := 4) (k2 := (if x1 ≤ 0 then 50 else 6, [some (.ref 2), some (.int x1), some (.int 0), none], [], M)) (P := []) rfl mz_o0 ?_
  refine mz_Go.ite (fun c3 => ?_) (fun c3 => ?_)
  · replace h := h.1 c3
    refine mz_Go.steps (n := 1) (k2 := (51, [some (.ref 2), some (.int x1), some (.int 0), none], [.int 0], M)) (P := []) rfl mz_o0 ?_
    rw [h]
    exact mz_Go.iret (rfl : mz_find 51 (mz_rows mq_X0_howManyOfOrder) = some (51, .ireturn, 1, 0, 0, 0)) rfl
  · replace h := h.2 c3
    obtain ⟨q3, h⟩ := h
    refine mz_Go.steps (n := 7) (k2 := (if ¬ (((M.1 2 2) - 1) - ((M.1 2 2) - 1) / x1 * x1) = 0 then 50 else 17, [some (.ref 2), some (.int x1), some (.int 0), none], [], M)) (P := [¬ x1 = 0]) rfl (mz_o1 q3) ?_
    refine mz_Go.ite (fun c14 => ?_) (fun c14 => ?_)
    · replace h := h.1 c14
      refine mz_Go.steps (n := 1) (k2 := (51, [some (.ref 2), some (.int x1), some (.int 0), none], [.int 0], M)) (P := []) rfl mz_o0 ?_
      rw [h]
      exact mz_Go.iret (rfl : mz_find 51 (mz_rows mq_X0_howManyOfOrder) = some (51, .ireturn, 1, 0, 0, 0)) rfl
    · replace h := h.2 c14
      refine mz_Go.steps (n := 2) (k2 := (19, [some (.ref 2), some (.int x1), some (.int 0), some (.int 1)], [], M)) (P := []) rfl mz_o0 ?_
      exact h
set_option maxRecDepth 100000 in
set_option maxHeartbeats 4000000 in
theorem t_X0_howManyOfOrder_19 (x1 : Int32) (x2 : Int32) (x3 : Int32) (M : mz_M) {res : mz_O} (h :
    (((M.1 2 2) ≤ x3 →
      res = (some (.int x2), M)) ∧
    (¬ ((M.1 2 2) ≤ x3) →
      (∃ (r2 : Int32), (mq_C mq_X0_orderOf [.ref 2, .int x3] M (some (.int r2), M)) ∧
      ((¬ r2 = x1 →
        mq_G mq_X0_howManyOfOrder (19, [some (.ref 2), some (.int x1), some (.int (x2 + 0)), some (.int (x3 + 1))], [], M) res) ∧
      (¬ (¬ r2 = x1) →
        mq_G mq_X0_howManyOfOrder (19, [some (.ref 2), some (.int x1), some (.int (x2 + 1)), some (.int (x3 + 1))], [], M) res)))))) :
    mq_G mq_X0_howManyOfOrder (19, [some (.ref 2), some (.int x1), some (.int x2), some (.int x3)], [], M) res := by
  refine mz_Go.steps (n := 4) (k2 := (if (M.1 2 2) ≤ x3 then 50 else 27, [some (.ref 2), some (.int x1), some (.int x2), some (.int x3)], [], M)) (P := []) rfl mz_o0 ?_
  refine mz_Go.ite (fun c24 => ?_) (fun c24 => ?_)
  · replace h := h.1 c24
    refine mz_Go.steps (n := 1) (k2 := (51, [some (.ref 2), some (.int x1), some (.int x2), some (.int x3)], [.int x2], M)) (P := []) rfl mz_o0 ?_
    rw [h]
    exact mz_Go.iret (rfl : mz_find 51 (mz_rows mq_X0_howManyOfOrder) = some (51, .ireturn, 1, 0, 0, 0)) rfl
  · replace h := h.2 c24
    refine mz_Go.steps (n := 3) (k2 := (30, [some (.ref 2), some (.int x1), some (.int x2), some (.int x3)], [.int x3, .ref 2, .int x2], M)) (P := []) rfl mz_o0 ?_
    obtain ⟨r2, k2, h⟩ := h
    refine mz_Go.callV (As := [.int x3]) (rest := [.int x2]) (rfl : mz_find 30 (mz_rows mq_X0_howManyOfOrder) = some (30, .invokevirtual 54, 3, 7, 0, 12)) (rfl : mz_nth mq_tab 7 = some mq_X0_orderOf) rfl rfl rfl rfl (Nat.le_of_ble_eq_true rfl) (Nat.le_of_ble_eq_true rfl) k2 ?_
    show mq_G mq_X0_howManyOfOrder (33, [some (.ref 2), some (.int x1), some (.int x2), some (.int x3)], [.int r2, .int x2], M) res
    refine mz_Go.steps (n := 2) (k2 := (if ¬ r2 = x1 then 41 else 37, [some (.ref 2), some (.int x1), some (.int x2), some (.int x3)], [.int x2], M)) (P := []) rfl mz_o0 ?_
    refine mz_Go.ite (fun c34 => ?_) (fun c34 => ?_)
    · replace h := h.1 c34
      refine mz_Go.steps (n := 5) (k2 := (19, [some (.ref 2), some (.int x1), some (.int (x2 + 0)), some (.int (x3 + 1))], [], M)) (P := []) rfl mz_o0 ?_
      exact h
    · replace h := h.2 c34
      refine mz_Go.steps (n := 6) (k2 := (19, [some (.ref 2), some (.int x1), some (.int (x2 + 1)), some (.int (x3 + 1))], [], M)) (P := []) rfl mz_o0 ?_
      exact h
set_option maxRecDepth 100000 in
set_option maxHeartbeats 4000000 in
theorem t_X0_sizeOf_0 (x1 : Int32) (M : mz_M) {res : mz_O} (h :
    (∃ (r1 : Int32), (mq_C mq_X0_times [.ref 2, .int x1, .int x1] M (some (.int r1), M)) ∧
    mq_G mq_X0_sizeOf (9, [some (.ref 2), some (.int x1), some (.int r1), some (.int 1)], [], M) res)) :
    mq_G mq_X0_sizeOf (0, [some (.ref 2), some (.int x1), none, none], [], M) res := by
  refine mz_Go.steps (n := 3) (k2 := (3, [some (.ref 2), some (.int x1), none, none], [.int x1, .int x1, .ref 2], M)) (P := []) rfl mz_o0 ?_
  obtain ⟨r1, k1, h⟩ := h
  refine mz_Go.callV (As := [.int x1, .int x1]) (rest := []) (rfl : mz_find 3 (mz_rows mq_X0_sizeOf) = some (3, .invokevirtual 51, 3, 3, 0, 11)) (rfl : mz_nth mq_tab 3 = some mq_X0_times) rfl rfl rfl rfl (Nat.le_of_ble_eq_true rfl) (Nat.le_of_ble_eq_true rfl) k1 ?_
  show mq_G mq_X0_sizeOf (6, [some (.ref 2), some (.int x1), none, none], [.int r1], M) res
  refine mz_Go.steps (n := 3) (k2 := (9, [some (.ref 2), some (.int x1), some (.int r1), some (.int 1)], [], M)) (P := []) rfl mz_o0 ?_
  exact h
set_option maxRecDepth 100000 in
set_option maxHeartbeats 4000000 in
theorem t_X0_sizeOf_9 (x1 : Int32) (x2 : Int32) (x3 : Int32) (M : mz_M) {res : mz_O} (h :
    (((M.1 2 1) ≤ x3 →
      res = (some (.int x3), M)) ∧
    (¬ ((M.1 2 1) ≤ x3) →
      ((x2 = x1 →
        res = (some (.int x3), M)) ∧
      (¬ (x2 = x1) →
        (∃ (r3 : Int32), (mq_C mq_X0_times [.ref 2, .int x2, .int x2] M (some (.int r3), M)) ∧
        mq_G mq_X0_sizeOf (9, [some (.ref 2), some (.int x1), some (.int r3), some (.int (x3 + 1))], [], M) res)))))) :
    mq_G mq_X0_sizeOf (9, [some (.ref 2), some (.int x1), some (.int x2), some (.int x3)], [], M) res := by
  refine mz_Go.steps (n := 4) (k2 := (if (M.1 2 1) ≤ x3 then 35 else 17, [some (.ref 2), some (.int x1), some (.int x2), some (.int x3)], [], M)) (P := []) rfl mz_o0 ?_
  refine mz_Go.ite (fun c14 => ?_) (fun c14 => ?_)
  · replace h := h.1 c14
    refine mz_Go.steps (n := 1) (k2 := (36, [some (.ref 2), some (.int x1), some (.int x2), some (.int x3)], [.int x3], M)) (P := []) rfl mz_o0 ?_
    rw [h]
    exact mz_Go.iret (rfl : mz_find 36 (mz_rows mq_X0_sizeOf) = some (36, .ireturn, 1, 0, 0, 0)) rfl
  · replace h := h.2 c14
    refine mz_Go.steps (n := 3) (k2 := (if x2 = x1 then 35 else 22, [some (.ref 2), some (.int x1), some (.int x2), some (.int x3)], [], M)) (P := []) rfl mz_o0 ?_
    refine mz_Go.ite (fun c19 => ?_) (fun c19 => ?_)
    · replace h := h.1 c19
      refine mz_Go.steps (n := 1) (k2 := (36, [some (.ref 2), some (.int x1), some (.int x2), some (.int x3)], [.int x3], M)) (P := []) rfl mz_o0 ?_
      rw [h]
      exact mz_Go.iret (rfl : mz_find 36 (mz_rows mq_X0_sizeOf) = some (36, .ireturn, 1, 0, 0, 0)) rfl
    · replace h := h.2 c19
      refine mz_Go.steps (n := 3) (k2 := (25, [some (.ref 2), some (.int x1), some (.int x2), some (.int x3)], [.int x2, .int x2, .ref 2], M)) (P := []) rfl mz_o0 ?_
      obtain ⟨r3, k3, h⟩ := h
      refine mz_Go.callV (As := [.int x2, .int x2]) (rest := []) (rfl : mz_find 25 (mz_rows mq_X0_sizeOf) = some (25, .invokevirtual 51, 3, 3, 0, 11)) (rfl : mz_nth mq_tab 3 = some mq_X0_times) rfl rfl rfl rfl (Nat.le_of_ble_eq_true rfl) (Nat.le_of_ble_eq_true rfl) k3 ?_
      show mq_G mq_X0_sizeOf (28, [some (.ref 2), some (.int x1), some (.int x2), some (.int x3)], [.int r3], M) res
      refine mz_Go.steps (n := 3) (k2 := (9, [some (.ref 2), some (.int x1), some (.int r3), some (.int (x3 + 1))], [], M)) (P := []) rfl mz_o0 ?_
      exact h
set_option maxRecDepth 100000 in
set_option maxHeartbeats 4000000 in
theorem t_X0_hasSubfield_0 (x1 : Int32) (M : mz_M) {res : mz_O} (h :
    ((x1 < 1 →
      res = (some (.int 0), M)) ∧
    (¬ (x1 < 1) →
      (((M.1 2 1) < x1 →
        res = (some (.int 0), M)) ∧
      (¬ ((M.1 2 1) < x1) →
        (¬ x1 = 0) ∧
        ((¬ ((M.1 2 1) - (M.1 2 1) / x1 * x1) = 0 →
          res = (some (.int 0), M)) ∧
        (¬ (¬ ((M.1 2 1) - (M.1 2 1) / x1 * x1) = 0) →
          res = (some (.int 1), M)))))))) :
    mq_G mq_X0_hasSubfield (0, [some (.ref 2), some (.int x1)], [], M) res := by
  refine mz_Go.steps (n := 3) (k2 := (if x1 < 1 then 26 else 5, [some (.ref 2), some (.int x1)], [], M)) (P := []) rfl mz_o0 ?_
  refine mz_Go.ite (fun c2 => ?_) (fun c2 => ?_)
  · replace h := h.1 c2
    refine mz_Go.steps (n := 1) (k2 := (27, [some (.ref 2), some (.int x1)], [.int 0], M)) (P := []) rfl mz_o0 ?_
    rw [h]
    exact mz_Go.zret (rfl : mz_find 27 (mz_rows mq_X0_hasSubfield) = some (27, .ireturn, 1, 0, 0, 0)) rfl (Or.inl rfl)
  · replace h := h.2 c2
    refine mz_Go.steps (n := 4) (k2 := (if (M.1 2 1) < x1 then 26 else 13, [some (.ref 2), some (.int x1)], [], M)) (P := []) rfl mz_o0 ?_
    refine mz_Go.ite (fun c10 => ?_) (fun c10 => ?_)
    · replace h := h.1 c10
      refine mz_Go.steps (n := 1) (k2 := (27, [some (.ref 2), some (.int x1)], [.int 0], M)) (P := []) rfl mz_o0 ?_
      rw [h]
      exact mz_Go.zret (rfl : mz_find 27 (mz_rows mq_X0_hasSubfield) = some (27, .ireturn, 1, 0, 0, 0)) rfl (Or.inl rfl)
    · replace h := h.2 c10
      obtain ⟨q4, h⟩ := h
      refine mz_Go.steps (n := 5) (k2 := (if ¬ ((M.1 2 1) - (M.1 2 1) / x1 * x1) = 0 then 26 else 22, [some (.ref 2), some (.int x1)], [], M)) (P := [¬ x1 = 0]) rfl (mz_o1 q4) ?_
      refine mz_Go.ite (fun c19 => ?_) (fun c19 => ?_)
      · replace h := h.1 c19
        refine mz_Go.steps (n := 1) (k2 := (27, [some (.ref 2), some (.int x1)], [.int 0], M)) (P := []) rfl mz_o0 ?_
        rw [h]
        exact mz_Go.zret (rfl : mz_find 27 (mz_rows mq_X0_hasSubfield) = some (27, .ireturn, 1, 0, 0, 0)) rfl (Or.inl rfl)
      · replace h := h.2 c19
        refine mz_Go.steps (n := 2) (k2 := (27, [some (.ref 2), some (.int x1)], [.int 1], M)) (P := []) rfl mz_o0 ?_
        rw [h]
        exact mz_Go.zret (rfl : mz_find 27 (mz_rows mq_X0_hasSubfield) = some (27, .ireturn, 1, 0, 0, 0)) rfl (Or.inr rfl)
set_option maxRecDepth 100000 in
set_option maxHeartbeats 4000000 in
theorem t_X0_tracedTo_0 (x1 : Int32) (x2 : Int32) (M : mz_M) {res : mz_O} (h :
    ((1 ≤ x2 →
      mq_G mq_X0_tracedTo (20, [some (.ref 2), some (.int x1), some (.int x2), some (.int x2), some (.int 0), some (.int x1), some (.int 0)], [], M) res) ∧
    (¬ (1 ≤ x2) →
      mq_G mq_X0_tracedTo (20, [some (.ref 2), some (.int x1), some (.int x2), some (.int 1), some (.int 0), some (.int x1), some (.int 0)], [], M) res))) :
    mq_G mq_X0_tracedTo (0, [some (.ref 2), some (.int x1), some (.int x2), none, none, none, none], [], M) res := by
  refine mz_Go.steps (n := 3) (k2 := (if 1 ≤ x2 then 9 else 5, [some (.ref 2), some (.int x1), some (.int x2), none, none, none, none], [], M)) (P := []) rfl mz_o0 ?_
  refine mz_Go.ite (fun c2 => ?_) (fun c2 => ?_)
  · replace h := h.1 c2
    refine mz_Go.steps (n := 8) (k2 := (20, [some (.ref 2), some (.int x1), some (.int x2), some (.int x2), some (.int 0), some (.int x1), some (.int 0)], [], M)) (P := []) rfl mz_o0 ?_
    exact h
  · replace h := h.2 c2
    refine mz_Go.steps (n := 9) (k2 := (20, [some (.ref 2), some (.int x1), some (.int x2), some (.int 1), some (.int 0), some (.int x1), some (.int 0)], [], M)) (P := []) rfl mz_o0 ?_
    exact h
set_option maxRecDepth 100000 in
set_option maxHeartbeats 4000000 in
theorem t_X0_tracedTo_20 (o1 : Option Value) (o2 : Option Value) (x3 : Int32) (x4 : Int32) (x5 : Int32) (x6 : Int32) (M : mz_M) {res : mz_O} (h :
    (((M.1 2 1) ≤ x6 →
      res = (some (.int x4), M)) ∧
    (¬ ((M.1 2 1) ≤ x6) →
      (∃ (r2 : Int32), (mq_C mq_X0_squared [.ref 2, .int x5, .int x3] M (some (.int r2), M)) ∧
      mq_G mq_X0_tracedTo (20, [some (.ref 2), o1, o2, some (.int x3), some (.int (x4 ^^^ x5)), some (.int r2), some (.int (x6 + x3))], [], M) res)))) :
    mq_G mq_X0_tracedTo (20, [some (.ref 2), o1, o2, some (.int x3), some (.int x4), some (.int x5), some (.int x6)], [], M) res := by
  refine mz_Go.steps (n := 4) (k2 := (if (M.1 2 1) ≤ x6 then 54 else 29, [some (.ref 2), o1, o2, some (.int x3), some (.int x4), some (.int x5), some (.int x6)], [], M)) (P := []) rfl mz_o0 ?_
  refine mz_Go.ite (fun c26 => ?_) (fun c26 => ?_)
  · replace h := h.1 c26
    refine mz_Go.steps (n := 1) (k2 := (56, [some (.ref 2), o1, o2, some (.int x3), some (.int x4), some (.int x5), some (.int x6)], [.int x4], M)) (P := []) rfl mz_o0 ?_
    rw [h]
    exact mz_Go.iret (rfl : mz_find 56 (mz_rows mq_X0_tracedTo) = some (56, .ireturn, 1, 0, 0, 0)) rfl
  · replace h := h.2 c26
    refine mz_Go.steps (n := 7) (k2 := (40, [some (.ref 2), o1, o2, some (.int x3), some (.int (x4 ^^^ x5)), some (.int x5), some (.int x6)], [.int x3, .int x5, .ref 2], M)) (P := []) rfl mz_o0 ?_
    obtain ⟨r2, k2, h⟩ := h
    refine mz_Go.callV (As := [.int x5, .int x3]) (rest := []) (rfl : mz_find 40 (mz_rows mq_X0_tracedTo) = some (40, .invokevirtual 57, 3, 6, 0, 13)) (rfl : mz_nth mq_tab 6 = some mq_X0_squared) rfl rfl rfl rfl (Nat.le_of_ble_eq_true rfl) (Nat.le_of_ble_eq_true rfl) k2 ?_
    show mq_G mq_X0_tracedTo (43, [some (.ref 2), o1, o2, some (.int x3), some (.int (x4 ^^^ x5)), some (.int x5), some (.int x6)], [.int r2], M) res
    refine mz_Go.steps (n := 6) (k2 := (20, [some (.ref 2), o1, o2, some (.int x3), some (.int (x4 ^^^ x5)), some (.int r2), some (.int (x6 + x3))], [], M)) (P := []) rfl mz_o0 ?_
    exact h
set_option maxRecDepth 100000 in
set_option maxHeartbeats 4000000 in
theorem t_X0_tracedToOne_0 (x1 : Int32) (M : mz_M) {res : mz_O} (h :
    (∃ (r1 : Int32), (mq_C mq_J6_bitCount_0f7a4 [.int (x1 &&& (M.1 2 5))] M (some (.int r1), M)) ∧
    res = (some (.int (r1 &&& 1)), M))) :
    mq_G mq_X0_tracedToOne (0, [some (.ref 2), some (.int x1)], [], M) res := by
  refine mz_Go.steps (n := 4) (k2 := (6, [some (.ref 2), some (.int x1)], [.int (x1 &&& (M.1 2 5))], M)) (P := []) rfl mz_o0 ?_
  obtain ⟨r1, k1, h⟩ := h
  refine mz_Go.callS (As := [.int (x1 &&& (M.1 2 5))]) (rest := []) (rfl : mz_find 6 (mz_rows mq_X0_tracedToOne) = some (6, .invokestatic 60, 3, 252, 0, 14)) (rfl : mz_nth mq_tab 252 = some mq_J6_bitCount_0f7a4) (by decide) rfl rfl rfl (Nat.le_of_ble_eq_true rfl) (Nat.le_of_ble_eq_true rfl) k1 ?_
  show mq_G mq_X0_tracedToOne (9, [some (.ref 2), some (.int x1)], [.int r1], M) res
  refine mz_Go.steps (n := 2) (k2 := (11, [some (.ref 2), some (.int x1)], [.int (r1 &&& 1)], M)) (P := []) rfl mz_o0 ?_
  rw [h]
  exact mz_Go.iret (rfl : mz_find 11 (mz_rows mq_X0_tracedToOne) = some (11, .ireturn, 1, 0, 0, 0)) rfl
set_option maxRecDepth 100000 in
set_option maxHeartbeats 4000000 in
theorem t_X0_normedTo_0 (x1 : Int32) (x2 : Int32) (M : mz_M) {res : mz_O} (h :
    ((1 ≤ x2 →
      mq_G mq_X0_normedTo (20, [some (.ref 2), some (.int x1), some (.int x2), some (.int x2), some (.int 1), some (.int x1), some (.int 0)], [], M) res) ∧
    (¬ (1 ≤ x2) →
      mq_G mq_X0_normedTo (20, [some (.ref 2), some (.int x1), some (.int x2), some (.int 1), some (.int 1), some (.int x1), some (.int 0)], [], M) res))) :
    mq_G mq_X0_normedTo (0, [some (.ref 2), some (.int x1), some (.int x2), none, none, none, none], [], M) res := by
  refine mz_Go.steps (n := 3) (k2 := (if 1 ≤ x2 then 9 else 5, [some (.ref 2), some (.int x1), some (.int x2), none, none, none, none], [], M)) (P := []) rfl mz_o0 ?_
  refine mz_Go.ite (fun c2 => ?_) (fun c2 => ?_)
  · replace h := h.1 c2
    refine mz_Go.steps (n := 8) (k2 := (20, [some (.ref 2), some (.int x1), some (.int x2), some (.int x2), some (.int 1), some (.int x1), some (.int 0)], [], M)) (P := []) rfl mz_o0 ?_
    exact h
  · replace h := h.2 c2
    refine mz_Go.steps (n := 9) (k2 := (20, [some (.ref 2), some (.int x1), some (.int x2), some (.int 1), some (.int 1), some (.int x1), some (.int 0)], [], M)) (P := []) rfl mz_o0 ?_
    exact h
set_option maxRecDepth 100000 in
set_option maxHeartbeats 4000000 in
theorem t_X0_normedTo_20 (o1 : Option Value) (o2 : Option Value) (x3 : Int32) (x4 : Int32) (x5 : Int32) (x6 : Int32) (M : mz_M) {res : mz_O} (h :
    (((M.1 2 1) ≤ x6 →
      res = (some (.int x4), M)) ∧
    (¬ ((M.1 2 1) ≤ x6) →
      (∃ (r2 : Int32), (mq_C mq_X0_times [.ref 2, .int x4, .int x5] M (some (.int r2), M)) ∧
      (∃ (r3 : Int32), (mq_C mq_X0_squared [.ref 2, .int x5, .int x3] M (some (.int r3), M)) ∧
      mq_G mq_X0_normedTo (20, [some (.ref 2), o1, o2, some (.int x3), some (.int r2), some (.int r3), some (.int (x6 + x3))], [], M) res))))) :
    mq_G mq_X0_normedTo (20, [some (.ref 2), o1, o2, some (.int x3), some (.int x4), some (.int x5), some (.int x6)], [], M) res := by
  refine mz_Go.steps (n := 4) (k2 := (if (M.1 2 1) ≤ x6 then 57 else 29, [some (.ref 2), o1, o2, some (.int x3), some (.int x4), some (.int x5), some (.int x6)], [], M)) (P := []) rfl mz_o0 ?_
  refine mz_Go.ite (fun c26 => ?_) (fun c26 => ?_)
  · replace h := h.1 c26
    refine mz_Go.steps (n := 1) (k2 := (59, [some (.ref 2), o1, o2, some (.int x3), some (.int x4), some (.int x5), some (.int x6)], [.int x4], M)) (P := []) rfl mz_o0 ?_
    rw [h]
    exact mz_Go.iret (rfl : mz_find 59 (mz_rows mq_X0_normedTo) = some (59, .ireturn, 1, 0, 0, 0)) rfl
  · replace h := h.2 c26
    refine mz_Go.steps (n := 3) (k2 := (34, [some (.ref 2), o1, o2, some (.int x3), some (.int x4), some (.int x5), some (.int x6)], [.int x5, .int x4, .ref 2], M)) (P := []) rfl mz_o0 ?_
    obtain ⟨r2, k2, h⟩ := h
    refine mz_Go.callV (As := [.int x4, .int x5]) (rest := []) (rfl : mz_find 34 (mz_rows mq_X0_normedTo) = some (34, .invokevirtual 51, 3, 3, 0, 11)) (rfl : mz_nth mq_tab 3 = some mq_X0_times) rfl rfl rfl rfl (Nat.le_of_ble_eq_true rfl) (Nat.le_of_ble_eq_true rfl) k2 ?_
    show mq_G mq_X0_normedTo (37, [some (.ref 2), o1, o2, some (.int x3), some (.int x4), some (.int x5), some (.int x6)], [.int r2], M) res
    refine mz_Go.steps (n := 4) (k2 := (43, [some (.ref 2), o1, o2, some (.int x3), some (.int r2), some (.int x5), some (.int x6)], [.int x3, .int x5, .ref 2], M)) (P := []) rfl mz_o0 ?_
    obtain ⟨r3, k3, h⟩ := h
    refine mz_Go.callV (As := [.int x5, .int x3]) (rest := []) (rfl : mz_find 43 (mz_rows mq_X0_normedTo) = some (43, .invokevirtual 57, 3, 6, 0, 13)) (rfl : mz_nth mq_tab 6 = some mq_X0_squared) rfl rfl rfl rfl (Nat.le_of_ble_eq_true rfl) (Nat.le_of_ble_eq_true rfl) k3 ?_
    show mq_G mq_X0_normedTo (46, [some (.ref 2), o1, o2, some (.int x3), some (.int r2), some (.int x5), some (.int x6)], [.int r3], M) res
    refine mz_Go.steps (n := 6) (k2 := (20, [some (.ref 2), o1, o2, some (.int x3), some (.int r2), some (.int r3), some (.int (x6 + x3))], [], M)) (P := []) rfl mz_o0 ?_
    exact h
set_option maxRecDepth 100000 in
set_option maxHeartbeats 4000000 in
theorem t_X0_valueAt_0 (x1 : Int32) (x2 : Int32) (M : mz_M) {res : mz_O} (h :
    mq_G mq_X0_valueAt (6, [some (.ref 2), some (.int x1), some (.int x2), some (.int 0), some (.int 8)], [], M) res) :
    mq_G mq_X0_valueAt (0, [some (.ref 2), some (.int x1), some (.int x2), none, none], [], M) res := by
  refine mz_Go.steps (n := 4) (k2 := (6, [some (.ref 2), some (.int x1), some (.int x2), some (.int 0), some (.int 8)], [], M)) (P := []) rfl mz_o0 ?_
  exact h
set_option maxRecDepth 100000 in
set_option maxHeartbeats 4000000 in
theorem t_X0_valueAt_6 (x1 : Int32) (x2 : Int32) (x3 : Int32) (x4 : Int32) (M : mz_M) {res : mz_O} (h :
    ((x4 < 0 →
      res = (some (.int x3), M)) ∧
    (¬ (x4 < 0) →
      (∃ (r2 : Int32), (mq_C mq_X0_times [.ref 2, .int x3, .int x2] M (some (.int r2), M)) ∧
      mq_G mq_X0_valueAt (6, [some (.ref 2), some (.int x1), some (.int x2), some (.int (r2 ^^^ ((x1 >>> (x4 &&& 31)) &&& 1))), some (.int (x4 + (-1)))], [], M) res)))) :
    mq_G mq_X0_valueAt (6, [some (.ref 2), some (.int x1), some (.int x2), some (.int x3), some (.int x4)], [], M) res := by
  refine mz_Go.steps (n := 2) (k2 := (if x4 < 0 then 31 else 11, [some (.ref 2), some (.int x1), some (.int x2), some (.int x3), some (.int x4)], [], M)) (P := []) rfl mz_o0 ?_
  refine mz_Go.ite (fun c8 => ?_) (fun c8 => ?_)
  · replace h := h.1 c8
    refine mz_Go.steps (n := 1) (k2 := (32, [some (.ref 2), some (.int x1), some (.int x2), some (.int x3), some (.int x4)], [.int x3], M)) (P := []) rfl mz_o0 ?_
    rw [h]
    exact mz_Go.iret (rfl : mz_find 32 (mz_rows mq_X0_valueAt) = some (32, .ireturn, 1, 0, 0, 0)) rfl
  · replace h := h.2 c8
    refine mz_Go.steps (n := 3) (k2 := (14, [some (.ref 2), some (.int x1), some (.int x2), some (.int x3), some (.int x4)], [.int x2, .int x3, .ref 2], M)) (P := []) rfl mz_o0 ?_
    obtain ⟨r2, k2, h⟩ := h
    refine mz_Go.callV (As := [.int x3, .int x2]) (rest := []) (rfl : mz_find 14 (mz_rows mq_X0_valueAt) = some (14, .invokevirtual 51, 3, 3, 0, 11)) (rfl : mz_nth mq_tab 3 = some mq_X0_times) rfl rfl rfl rfl (Nat.le_of_ble_eq_true rfl) (Nat.le_of_ble_eq_true rfl) k2 ?_
    show mq_G mq_X0_valueAt (17, [some (.ref 2), some (.int x1), some (.int x2), some (.int x3), some (.int x4)], [.int r2], M) res
    refine mz_Go.steps (n := 9) (k2 := (6, [some (.ref 2), some (.int x1), some (.int x2), some (.int (r2 ^^^ ((x1 >>> (x4 &&& 31)) &&& 1))), some (.int (x4 + (-1)))], [], M)) (P := []) rfl mz_o0 ?_
    exact h
set_option maxRecDepth 100000 in
set_option maxHeartbeats 4000000 in
theorem t_X0_fillsPowers_0 (b1 : Nat) (x2 : Int32) (M : mz_M) {res : mz_O} (h :
    mq_G mq_X0_fillsPowers (5, [some (.ref 2), some (.ref b1), some (.int x2), some (.int 1), some (.int 0)], [], M) res) :
    mq_G mq_X0_fillsPowers (0, [some (.ref 2), some (.ref b1), some (.int x2), none, none], [], M) res := by
  refine mz_Go.steps (n := 4) (k2 := (5, [some (.ref 2), some (.ref b1), some (.int x2), some (.int 1), some (.int 0)], [], M)) (P := []) rfl mz_o0 ?_
  exact h
