set_option maxRecDepth 100000 in
set_option maxHeartbeats 4000000 in
theorem t_X0_settle_0 (x1 : Int32) (M : mz_M) {res : mz_O} (h :
    (∀ M1 : mz_M, M1 = mz_wr M 2 (upd (M.1 2) 0 x1) →
    (∃ (r2 : Int32), (mq_C mq_X4_degreeOf [.int x1] M1 (some (.int r2), M1)) ∧
    (∀ M3 : mz_M, M3 = mz_wr M1 2 (upd (M1.1 2) 1 r2) →
    (∀ M4 : mz_M, M4 = mz_wr M3 2 (upd (M3.1 2) 2 ((1 : Int32) <<< ((M3.1 2 1) &&& 31))) →
    mq_G mq_X0_settle (27, [some (.ref 2), some (.int x1), some (.int 0), some (.int 2)], [], M4) res))))) :
    mq_G mq_X0_settle (0, [some (.ref 2), some (.int x1), none, none], [], M) res := by
  obtain ⟨M1, e1⟩ : ∃ y, y = mz_wr M 2 (upd (M.1 2) 0 x1) := ⟨_, rfl⟩
  replace h := h M1 e1
  refine mz_Go.steps (n := 3) (k2 := (5, [some (.ref 2), some (.int x1), none, none], [], (mz_wr M 2 (upd (M.1 2) 0 x1)))) (P := []) rfl mz_o0 ?_
  rw [← e1]
  refine mz_Go.steps (n := 2) (k2 := (7, [some (.ref 2), some (.int x1), none, none], [.int x1, .ref 2], M1)) (P := []) rfl mz_o0 ?_
  obtain ⟨r2, k2, h⟩ := h
  refine mz_Go.callS (As := [.int x1]) (rest := [.ref 2]) (rfl : mz_find 7 (mz_rows mq_X0_settle) = some (7, .invokestatic 22, 3, 37, 0, 1)) (rfl : mz_nth mq_tab 37 = some mq_X4_degreeOf) (by decide) rfl rfl rfl (Nat.le_of_ble_eq_true rfl) (Nat.le_of_ble_eq_true rfl) k2 ?_
  show mq_G mq_X0_settle (10, [some (.ref 2), some (.int x1), none, none], [.int r2, .ref 2], M1) res
  obtain ⟨M3, e3⟩ : ∃ y, y = mz_wr M1 2 (upd (M1.1 2) 1 r2) := ⟨_, rfl⟩
  replace h := h M3 e3
  refine mz_Go.steps (n := 1) (k2 := (13, [some (.ref 2), some (.int x1), none, none], [], (mz_wr M1 2 (upd (M1.1 2) 1 r2)))) (P := []) rfl mz_o0 ?_
  rw [← e3]
  obtain ⟨M4, e4⟩ : ∃ y, y = mz_wr M3 2 (upd (M3.1 2) 2 ((1 : Int32) <<< ((M3.1 2 1) &&& 31))) := ⟨_, rfl⟩
  replace h := h M4 e4
  refine mz_Go.steps (n := 6) (k2 := (23, [some (.ref 2), some (.int x1), none, none], [], (mz_wr M3 2 (upd (M3.1 2) 2 ((1 : Int32) <<< ((M3.1 2 1) &&& 31)))))) (P := []) rfl mz_o0 ?_
  rw [← e4]
  refine mz_Go.steps (n := 4) (k2 := (27, [some (.ref 2), some (.int x1), some (.int 0), some (.int 2)], [], M4)) (P := []) rfl mz_o0 ?_
  exact h
set_option maxRecDepth 100000 in
set_option maxHeartbeats 4000000 in
theorem t_X0_settle_27 (o1 : Option Value) (x2 : Int32) (x3 : Int32) (M : mz_M) {res : mz_O} (h :
    (((M.1 2 2) ≤ x3 →
      (∀ M2 : mz_M, M2 = mz_wr M 2 (upd (M.1 2) 5 0) →
      mq_G mq_X0_settle (58, [some (.ref 2), o1, some (.int x2), some (.int 0)], [], M2) res)) ∧
    (¬ ((M.1 2 2) ≤ x3) →
      ((¬ x2 = 0 →
        (∀ M4 : mz_M, M4 = mz_wr M 2 (upd (M.1 2) 5 0) →
        mq_G mq_X0_settle (58, [some (.ref 2), o1, some (.int x2), some (.int 0)], [], M4) res)) ∧
      (¬ (¬ x2 = 0) →
        (∃ (r5 : Int32) (M5 : mz_M), (mq_C mq_X0_fills [.ref 2, .int x3] M (some (.int r5), M5)) ∧
        mq_G mq_X0_settle (27, [some (.ref 2), (mz_nw o1), some (.int r5), some (.int (x3 + 1))], [], M5) res)))))) :
    mq_G mq_X0_settle (27, [some (.ref 2), o1, some (.int x2), some (.int x3)], [], M) res := by
  refine mz_Go.steps (n := 4) (k2 := (if (M.1 2 2) ≤ x3 then 51 else 35, [some (.ref 2), o1, some (.int x2), some (.int x3)], [], M)) (P := []) rfl mz_o0 ?_
  refine mz_Go.ite (fun c32 => ?_) (fun c32 => ?_)
  · replace h := h.1 c32
    obtain ⟨M2, e2⟩ : ∃ y, y = mz_wr M 2 (upd (M.1 2) 5 0) := ⟨_, rfl⟩
    replace h := h M2 e2
    refine mz_Go.steps (n := 3) (k2 := (56, [some (.ref 2), o1, some (.int x2), some (.int x3)], [], (mz_wr M 2 (upd (M.1 2) 5 0)))) (P := []) rfl mz_o0 ?_
    rw [← e2]
    refine mz_Go.steps (n := 2) (k2 := (58, [some (.ref 2), o1, some (.int x2), some (.int 0)], [], M2)) (P := []) rfl mz_o0 ?_
    exact h
  · replace h := h.2 c32
    refine mz_Go.steps (n := 2) (k2 := (if ¬ x2 = 0 then 51 else 39, [some (.ref 2), o1, some (.int x2), some (.int x3)], [], M)) (P := []) rfl mz_o0 ?_
    refine mz_Go.ite (fun c36 => ?_) (fun c36 => ?_)
    · replace h := h.1 c36
      obtain ⟨M4, e4⟩ : ∃ y, y = mz_wr M 2 (upd (M.1 2) 5 0) := ⟨_, rfl⟩
      replace h := h M4 e4
      refine mz_Go.steps (n := 3) (k2 := (56, [some (.ref 2), o1, some (.int x2), some (.int x3)], [], (mz_wr M 2 (upd (M.1 2) 5 0)))) (P := []) rfl mz_o0 ?_
      rw [← e4]
      refine mz_Go.steps (n := 2) (k2 := (58, [some (.ref 2), o1, some (.int x2), some (.int 0)], [], M4)) (P := []) rfl mz_o0 ?_
      exact h
    · replace h := h.2 c36
      refine mz_Go.steps (n := 2) (k2 := (41, [some (.ref 2), o1, some (.int x2), some (.int x3)], [.int x3, .ref 2], M)) (P := []) rfl mz_o0 ?_
      obtain ⟨r5, M5, k5, h⟩ := h
      refine mz_Go.callV (As := [.int x3]) (rest := []) (rfl : mz_find 41 (mz_rows mq_X0_settle) = some (41, .invokevirtual 34, 3, 1, 0, 4)) (rfl : mz_nth mq_tab 1 = some mq_X0_fills) rfl rfl rfl rfl (Nat.le_of_ble_eq_true rfl) (Nat.le_of_ble_eq_true rfl) k5 ?_
      show mq_G mq_X0_settle (44, [some (.ref 2), o1, some (.int x2), some (.int x3)], [.int r5], M5) res
      refine mz_Go.steps (n := 3) (k2 := (27, [some (.ref 2), (mz_nw o1), some (.int r5), some (.int (x3 + 1))], [], M5)) (P := []) rfl mz_o0 ?_
      exact h
set_option maxRecDepth 100000 in
set_option maxHeartbeats 4000000 in
theorem t_X0_settle_58 (o1 : Option Value) (o2 : Option Value) (x3 : Int32) (M : mz_M) {res : mz_O} (h :
    (((M.1 2 1) ≤ x3 →
      res = (none, M)) ∧
    (¬ ((M.1 2 1) ≤ x3) →
      (∃ (r2 : Int32), (mq_C mq_X0_tracedTo [.ref 2, .int ((1 : Int32) <<< (x3 &&& 31)), .int 1] M (some (.int r2), M)) ∧
      (∀ M3 : mz_M, M3 = mz_wr M 2 (upd (M.1 2) 5 ((M.1 2 5) ||| (r2 <<< (x3 &&& 31)))) →
      mq_G mq_X0_settle (58, [some (.ref 2), o1, (mz_nw o2), some (.int (x3 + 1))], [], M3) res))))) :
    mq_G mq_X0_settle (58, [some (.ref 2), o1, o2, some (.int x3)], [], M) res := by
  refine mz_Go.steps (n := 4) (k2 := (if (M.1 2 1) ≤ x3 then 91 else 66, [some (.ref 2), o1, o2, some (.int x3)], [], M)) (P := []) rfl mz_o0 ?_
  refine mz_Go.ite (fun c63 => ?_) (fun c63 => ?_)
  · replace h := h.1 c63
    rw [h]
    exact mz_Go.vret (rfl : mz_find 91 (mz_rows mq_X0_settle) = some (91, .return_, 1, 0, 0, 0)) rfl
  · replace h := h.2 c63
    refine mz_Go.steps (n := 8) (k2 := (76, [some (.ref 2), o1, o2, some (.int x3)], [.int 1, .int ((1 : Int32) <<< (x3 &&& 31)), .ref 2, .int (M.1 2 5), .ref 2], M)) (P := []) rfl mz_o0 ?_
    obtain ⟨r2, k2, h⟩ := h
    refine mz_Go.callV (As := [.int ((1 : Int32) <<< (x3 &&& 31)), .int 1]) (rest := [.int (M.1 2 5), .ref 2]) (rfl : mz_find 76 (mz_rows mq_X0_settle) = some (76, .invokevirtual 41, 3, 12, 0, 6)) (rfl : mz_nth mq_tab 12 = some mq_X0_tracedTo) rfl rfl rfl rfl (Nat.le_of_ble_eq_true rfl) (Nat.le_of_ble_eq_true rfl) k2 ?_
    show mq_G mq_X0_settle (79, [some (.ref 2), o1, o2, some (.int x3)], [.int r2, .int (M.1 2 5), .ref 2], M) res
    obtain ⟨M3, e3⟩ : ∃ y, y = mz_wr M 2 (upd (M.1 2) 5 ((M.1 2 5) ||| (r2 <<< (x3 &&& 31)))) := ⟨_, rfl⟩
    replace h := h M3 e3
    refine mz_Go.steps (n := 4) (k2 := (85, [some (.ref 2), o1, o2, some (.int x3)], [], (mz_wr M 2 (upd (M.1 2) 5 ((M.1 2 5) ||| (r2 <<< (x3 &&& 31))))))) (P := []) rfl mz_o0 ?_
    rw [← e3]
    refine mz_Go.steps (n := 2) (k2 := (58, [some (.ref 2), o1, (mz_nw o2), some (.int (x3 + 1))], [], M3)) (P := []) rfl mz_o0 ?_
    exact h
set_option maxRecDepth 100000 in
set_option maxHeartbeats 4000000 in
theorem t_X0_fills_0 (x1 : Int32) (M : mz_M) {res : mz_O} (h :
    mq_G mq_X0_fills (4, [some (.ref 2), some (.int x1), some (.int 1), some (.int 0)], [], M) res) :
    mq_G mq_X0_fills (0, [some (.ref 2), some (.int x1), none, none], [], M) res := by
  refine mz_Go.steps (n := 4) (k2 := (4, [some (.ref 2), some (.int x1), some (.int 1), some (.int 0)], [], M)) (P := []) rfl mz_o0 ?_
  exact h
set_option maxRecDepth 100000 in
set_option maxHeartbeats 4000000 in
theorem t_X0_fills_4 (x1 : Int32) (x2 : Int32) (x3 : Int32) (M : mz_M) {res : mz_O} (h :
    ((((M.1 2 2) - 1) ≤ x3 →
      res = (some (.int 1), M)) ∧
    (¬ (((M.1 2 2) - 1) ≤ x3) →
      ((x3 ≤ 0 →
        (vp_in x3 256) ∧
        (∀ M3 : mz_M, M3 = mz_wr M 3 (upd (M.1 3) x3.toNatClampNeg x2) →
        (vp_in x2 256) ∧
        (∀ M5 : mz_M, M5 = mz_wr M3 4 (upd (M3.1 4) x2.toNatClampNeg x3) →
        (∃ (r7 : Int32), (mq_C mq_X0_multiplied [.ref 2, .int x2, .int x1] M5 (some (.int r7), M5)) ∧
        mq_G mq_X0_fills (4, [some (.ref 2), some (.int x1), some (.int r7), some (.int (x3 + 1))], [], M5) res)))) ∧
      (¬ (x3 ≤ 0) →
        ((¬ x2 = 1 →
          (vp_in x3 256) ∧
          (∀ M9 : mz_M, M9 = mz_wr M 3 (upd (M.1 3) x3.toNatClampNeg x2) →
          (vp_in x2 256) ∧
          (∀ M11 : mz_M, M11 = mz_wr M9 4 (upd (M9.1 4) x2.toNatClampNeg x3) →
          (∃ (r13 : Int32), (mq_C mq_X0_multiplied [.ref 2, .int x2, .int x1] M11 (some (.int r13), M11)) ∧
          mq_G mq_X0_fills (4, [some (.ref 2), some (.int x1), some (.int r13), some (.int (x3 + 1))], [], M11) res)))) ∧
        (¬ (¬ x2 = 1) →
          res = (some (.int 0), M)))))))) :
    mq_G mq_X0_fills (4, [some (.ref 2), some (.int x1), some (.int x2), some (.int x3)], [], M) res := by
  refine mz_Go.steps (n := 6) (k2 := (if ((M.1 2 2) - 1) ≤ x3 then 52 else 14, [some (.ref 2), some (.int x1), some (.int x2), some (.int x3)], [], M)) (P := []) rfl mz_o0 ?_
  refine mz_Go.ite (fun c11 => ?_) (fun c11 => ?_)
  · replace h := h.1 c11
    refine mz_Go.steps (n := 1) (k2 := (53, [some (.ref 2), some (.int x1), some (.int x2), some (.int x3)], [.int 1], M)) (P := []) rfl mz_o0 ?_
    rw [h]
    exact mz_Go.zret (rfl : mz_find 53 (mz_rows mq_X0_fills) = some (53, .ireturn, 1, 0, 0, 0)) rfl (Or.inr rfl)
  · replace h := h.2 c11
    refine mz_Go.steps (n := 2) (k2 := (if x3 ≤ 0 then 25 else 18, [some (.ref 2), some (.int x1), some (.int x2), some (.int x3)], [], M)) (P := []) rfl mz_o0 ?_
    refine mz_Go.ite (fun c15 => ?_) (fun c15 => ?_)
    · replace h := h.1 c15
      obtain ⟨q4, h⟩ := h
      obtain ⟨M3, e3⟩ : ∃ y, y = mz_wr M 3 (upd (M.1 3) x3.toNatClampNeg x2) := ⟨_, rfl⟩
      replace h := h M3 e3
      refine mz_Go.steps (n := 5) (k2 := (32, [some (.ref 2), some (.int x1), some (.int x2), some (.int x3)], [], (mz_wr M 3 (upd (M.1 3) x3.toNatClampNeg x2)))) (P := [vp_in x3 256]) rfl (mz_o1 q4) ?_
      rw [← e3]
      obtain ⟨q6, h⟩ := h
      obtain ⟨M5, e5⟩ : ∃ y, y = mz_wr M3 4 (upd (M3.1 4) x2.toNatClampNeg x3) := ⟨_, rfl⟩
      replace h := h M5 e5
      refine mz_Go.steps (n := 5) (k2 := (39, [some (.ref 2), some (.int x1), some (.int x2), some (.int x3)], [], (mz_wr M3 4 (upd (M3.1 4) x2.toNatClampNeg x3)))) (P := [vp_in x2 256]) rfl (mz_o1 q6) ?_
      rw [← e5]
      refine mz_Go.steps (n := 3) (k2 := (42, [some (.ref 2), some (.int x1), some (.int x2), some (.int x3)], [.int x1, .int x2, .ref 2], M5)) (P := []) rfl mz_o0 ?_
      obtain ⟨r7, k7, h⟩ := h
      refine mz_Go.callV (As := [.int x2, .int x1]) (rest := []) (rfl : mz_find 42 (mz_rows mq_X0_fills) = some (42, .invokevirtual 45, 3, 2, 0, 9)) (rfl : mz_nth mq_tab 2 = some mq_X0_multiplied) rfl rfl rfl rfl (Nat.le_of_ble_eq_true rfl) (Nat.le_of_ble_eq_true rfl) k7 ?_
      show mq_G mq_X0_fills (45, [some (.ref 2), some (.int x1), some (.int x2), some (.int x3)], [.int r7], M5) res
      refine mz_Go.steps (n := 3) (k2 := (4, [some (.ref 2), some (.int x1), some (.int r7), some (.int (x3 + 1))], [], M5)) (P := []) rfl mz_o0 ?_
      exact h
    · replace h := h.2 c15
      refine mz_Go.steps (n := 3) (k2 := (if ¬ x2 = 1 then 25 else 23, [some (.ref 2), some (.int x1), some (.int x2), some (.int x3)], [], M)) (P := []) rfl mz_o0 ?_
      refine mz_Go.ite (fun c20 => ?_) (fun c20 => ?_)
      · replace h := h.1 c20
        obtain ⟨q10, h⟩ := h
        obtain ⟨M9, e9⟩ : ∃ y, y = mz_wr M 3 (upd (M.1 3) x3.toNatClampNeg x2) := ⟨_, rfl⟩
        replace h := h M9 e9
        refine mz_Go.steps (n := 5) (k2 := (32, [some (.ref 2), some (.int x1), some (.int x2), some (.int x3)], [], (mz_wr M 3 (upd (M.1 3) x3.toNatClampNeg x2)))) (P := [vp_in x3 256]) rfl (mz_o1 q10) ?_
        rw [← e9]
        obtain ⟨q12, h⟩ := h
        obtain ⟨M11, e11⟩ : ∃ y, y = mz_wr M9 4 (upd (M9.1 4) x2.toNatClampNeg x3) := ⟨_, rfl⟩
        replace h := h M11 e11
        refine mz_Go.steps (n := 5) (k2 := (39, [some (.ref 2), some (.int x1), some (.int x2), some (.int x3)], [], (mz_wr M9 4 (upd (M9.1 4) x2.toNatClampNeg x3)))) (P := [vp_in x2 256]) rfl (mz_o1 q12) ?_
        rw [← e11]
        refine mz_Go.steps (n := 3) (k2 := (42, [some (.ref 2), some (.int x1), some (.int x2), some (.int x3)], [.int x1, .int x2, .ref 2], M11)) (P := []) rfl mz_o0 ?_
        obtain ⟨r13, k13, h⟩ := h
        refine mz_Go.callV (As := [.int x2, .int x1]) (rest := []) (rfl : mz_find 42 (mz_rows mq_X0_fills) = some (42, .invokevirtual 45, 3, 2, 0, 9)) (rfl : mz_nth mq_tab 2 = some mq_X0_multiplied) rfl rfl rfl rfl (Nat.le_of_ble_eq_true rfl) (Nat.le_of_ble_eq_true rfl) k13 ?_
        show mq_G mq_X0_fills (45, [some (.ref 2), some (.int x1), some (.int x2), some (.int x3)], [.int r13], M11) res
        refine mz_Go.steps (n := 3) (k2 := (4, [some (.ref 2), some (.int x1), some (.int r13), some (.int (x3 + 1))], [], M11)) (P := []) rfl mz_o0 ?_
        exact h
      · replace h := h.2 c20
        refine mz_Go.steps (n := 1) (k2 := (24, [some (.ref 2), some (.int x1), some (.int x2), some (.int x3)], [.int 0], M)) (P := []) rfl mz_o0 ?_
        rw [h]
        exact mz_Go.zret (rfl : mz_find 24 (mz_rows mq_X0_fills) = some (24, .ireturn, 1, 0, 0, 0)) rfl (Or.inl rfl)
set_option maxRecDepth 100000 in
set_option maxHeartbeats 4000000 in
theorem t_X0_multiplied_0 (x1 : Int32) (x2 : Int32) (M : mz_M) {res : mz_O} (h :
    mq_G mq_X0_multiplied (5, [some (.ref 2), some (.int x1), some (.int x2), some (.int 0), some (.int 0)], [], M) res) :
    mq_G mq_X0_multiplied (0, [some (.ref 2), some (.int x1), some (.int x2), none, none], [], M) res := by
  refine mz_Go.steps (n := 4) (k2 := (5, [some (.ref 2), some (.int x1), some (.int x2), some (.int 0), some (.int 0)], [], M)) (P := []) rfl mz_o0 ?_
  exact h
set_option maxRecDepth 100000 in
set_option maxHeartbeats 4000000 in
theorem t_X0_multiplied_5 (x1 : Int32) (x2 : Int32) (x3 : Int32) (x4 : Int32) (M : mz_M) {res : mz_O} (h :
    ((8 ≤ x4 →
      (∃ (r2 : Int32), (mq_C mq_X4_remainder [.int x3, .int (M.1 2 0)] M (some (.int r2), M)) ∧
      res = (some (.int r2), M))) ∧
    (¬ (8 ≤ x4) →
      ((((x2 >>> (x4 &&& 31)) &&& 1) = 0 →
        mq_G mq_X0_multiplied (5, [some (.ref 2), some (.int x1), some (.int x2), some (.int x3), some (.int (x4 + 1))], [], M) res) ∧
      (¬ (((x2 >>> (x4 &&& 31)) &&& 1) = 0) →
        mq_G mq_X0_multiplied (5, [some (.ref 2), some (.int x1), some (.int x2), some (.int (x3 ^^^ (x1 <<< (x4 &&& 31)))), some (.int (x4 + 1))], [], M) res))))) :
    mq_G mq_X0_multiplied (5, [some (.ref 2), some (.int x1), some (.int x2), some (.int x3), some (.int x4)], [], M) res := by
  refine mz_Go.steps (n := 3) (k2 := (if 8 ≤ x4 then 34 else 12, [some (.ref 2), some (.int x1), some (.int x2), some (.int x3), some (.int x4)], [], M)) (P := []) rfl mz_o0 ?_
  refine mz_Go.ite (fun c9 => ?_) (fun c9 => ?_)
  · replace h := h.1 c9
    refine mz_Go.steps (n := 3) (k2 := (39, [some (.ref 2), some (.int x1), some (.int x2), some (.int x3), some (.int x4)], [.int (M.1 2 0), .int x3], M)) (P := []) rfl mz_o0 ?_
    obtain ⟨r2, k2, h⟩ := h
    refine mz_Go.callS (As := [.int x3, .int (M.1 2 0)]) (rest := []) (rfl : mz_find 39 (mz_rows mq_X0_multiplied) = some (39, .invokestatic 48, 3, 38, 0, 10)) (rfl : mz_nth mq_tab 38 = some mq_X4_remainder) (by decide) rfl rfl rfl (Nat.le_of_ble_eq_true rfl) (Nat.le_of_ble_eq_true rfl) k2 ?_
    show mq_G mq_X0_multiplied (42, [some (.ref 2), some (.int x1), some (.int x2), some (.int x3), some (.int x4)], [.int r2], M) res
    rw [h]
    exact mz_Go.iret (rfl : mz_find 42 (mz_rows mq_X0_multiplied) = some (42, .ireturn, 1, 0, 0, 0)) rfl
  · replace h := h.2 c9
    refine mz_Go.steps (n := 6) (k2 := (if ((x2 >>> (x4 &&& 31)) &&& 1) = 0 then 28 else 21, [some (.ref 2), some (.int x1), some (.int x2), some (.int x3), some (.int x4)], [], M)) (P := []) rfl mz_o0 ?_
    refine mz_Go.ite (fun c18 => ?_) (fun c18 => ?_)
    · replace h := h.1 c18
      refine mz_Go.steps (n := 2) (k2 := (5, [some (.ref 2), some (.int x1), some (.int x2), some (.int x3), some (.int (x4 + 1))], [], M)) (P := []) rfl mz_o0 ?_
      exact h
    · replace h := h.2 c18
      refine mz_Go.steps (n := 8) (k2 := (5, [some (.ref 2), some (.int x1), some (.int x2), some (.int (x3 ^^^ (x1 <<< (x4 &&& 31)))), some (.int (x4 + 1))], [], M)) (P := []) rfl mz_o0 ?_
      exact h
set_option maxRecDepth 100000 in
set_option maxHeartbeats 4000000 in
theorem t_X0_times_0 (x1 : Int32) (x2 : Int32) (M : mz_M) {res : mz_O} (h :
    ((x1 = 0 →
      res = (some (.int 0), M)) ∧
    (¬ (x1 = 0) →
      ((¬ x2 = 0 →
        (vp_in x1 256) ∧
        (vp_in x2 256) ∧
        ((((M.1 2 2) - 1) ≤ ((M.1 4 x1.toNatClampNeg) + (M.1 4 x2.toNatClampNeg)) →
          (vp_in ((((M.1 4 x1.toNatClampNeg) + (M.1 4 x2.toNatClampNeg)) - (M.1 2 2)) + 1) 256) ∧
          res = (some (.int (M.1 3 ((((M.1 4 x1.toNatClampNeg) + (M.1 4 x2.toNatClampNeg)) - (M.1 2 2)) + 1).toNatClampNeg)), M)) ∧
        (¬ (((M.1 2 2) - 1) ≤ ((M.1 4 x1.toNatClampNeg) + (M.1 4 x2.toNatClampNeg))) →
          (vp_in ((M.1 4 x1.toNatClampNeg) + (M.1 4 x2.toNatClampNeg)) 256) ∧
          res = (some (.int (M.1 3 ((M.1 4 x1.toNatClampNeg) + (M.1 4 x2.toNatClampNeg)).toNatClampNeg)), M)))) ∧
      (¬ (¬ x2 = 0) →
        res = (some (.int 0), M)))))) :
    mq_G mq_X0_times (0, [some (.ref 2), some (.int x1), some (.int x2), none], [], M) res := by
  refine mz_Go.steps (n := 2) (k2 := (if x1 = 0 then 8 else 4, [some (.ref 2), some (.int x1), some (.int x2), none], [], M)) (P := []) rfl mz_o0 ?_
  refine mz_Go.ite (fun c1 => ?_) (fun c1 => ?_)
  · replace h := h.1 c1
    refine mz_Go.steps (n := 1) (k2 := (9, [some (.ref 2), some (.int x1), some (.int x2), none], [.int 0], M)) (P := []) rfl mz_o0 ?_
    rw [h]
    exact mz_Go.iret (rfl : mz_find 9 (mz_rows mq_X0_times) = some (9, .ireturn, 1, 0, 0, 0)) rfl
  · replace h := h.2 c1
    refine mz_Go.steps (n := 2) (k2 := (if ¬ x2 = 0 then 10 else 8, [some (.ref 2), some (.int x1), some (.int x2), none], [], M)) (P := []) rfl mz_o0 ?_
    refine mz_Go.ite (fun c5 => ?_) (fun c5 => ?_)
    · replace h := h.1 c5
      obtain ⟨q4, q5, h⟩ := h
      refine mz_Go.steps (n := 18) (k2 := (if ((M.1 2 2) - 1) ≤ ((M.1 4 x1.toNatClampNeg) + (M.1 4 x2.toNatClampNeg)) then 42 else 38, [some (.ref 2), some (.int x1), some (.int x2), some (.int ((M.1 4 x1.toNatClampNeg) + (M.1 4 x2.toNatClampNeg)))], [.ref 3], M)) (P := [vp_in x1 256, vp_in x2 256]) rfl (mz_o2 q4 q5) ?_
      refine mz_Go.ite (fun c35 => ?_) (fun c35 => ?_)
      · replace h := h.1 c35
        obtain ⟨q6, h⟩ := h
        refine mz_Go.steps (n := 7) (k2 := (51, [some (.ref 2), some (.int x1), some (.int x2), some (.int ((M.1 4 x1.toNatClampNeg) + (M.1 4 x2.toNatClampNeg)))], [.int (M.1 3 ((((M.1 4 x1.toNatClampNeg) + (M.1 4 x2.toNatClampNeg)) - (M.1 2 2)) + 1).toNatClampNeg)], M)) (P := [vp_in ((((M.1 4 x1.toNatClampNeg) + (M.1 4 x2.toNatClampNeg)) - (M.1 2 2)) + 1) 256]) rfl (mz_o1 q6) ?_
        rw [h]
        exact mz_Go.iret (rfl : mz_find 51 (mz_rows mq_X0_times) = some (51, .ireturn, 1, 0, 0, 0)) rfl
      · replace h := h.2 c35
        obtain ⟨q7, h⟩ := h
        refine mz_Go.steps (n := 3) (k2 := (51, [some (.ref 2), some (.int x1), some (.int x2), some (.int ((M.1 4 x1.toNatClampNeg) + (M.1 4 x2.toNatClampNeg)))], [.int (M.1 3 ((M.1 4 x1.toNatClampNeg) + (M.1 4 x2.toNatClampNeg)).toNatClampNeg)], M)) (P := [vp_in ((M.1 4 x1.toNatClampNeg) + (M.1 4 x2.toNatClampNeg)) 256]) rfl (mz_o1 q7) ?_
        rw [h]
        exact mz_Go.iret (rfl : mz_find 51 (mz_rows mq_X0_times) = some (51, .ireturn, 1, 0, 0, 0)) rfl
    · replace h := h.2 c5
      refine mz_Go.steps (n := 1) (k2 := (9, [some (.ref 2), some (.int x1), some (.int x2), none], [.int 0], M)) (P := []) rfl mz_o0 ?_
      rw [h]
      exact mz_Go.iret (rfl : mz_find 9 (mz_rows mq_X0_times) = some (9, .ireturn, 1, 0, 0, 0)) rfl
set_option maxRecDepth 100000 in
set_option maxHeartbeats 4000000 in
theorem t_X0_turned_0 (x1 : Int32) (M : mz_M) {res : mz_O} (h :
    (vp_in x1 256) ∧
    ((¬ (M.1 4 x1.toNatClampNeg) = 0 →
      (vp_in (((M.1 2 2) - 1) - (M.1 4 x1.toNatClampNeg)) 256) ∧
      res = (some (.int (M.1 3 (((M.1 2 2) - 1) - (M.1 4 x1.toNatClampNeg)).toNatClampNeg)), M)) ∧
    (¬ (¬ (M.1 4 x1.toNatClampNeg) = 0) →
      (vp_in 0 256) ∧
      res = (some (.int (M.1 3 (0 : Int32).toNatClampNeg)), M)))) :
    mq_G mq_X0_turned (0, [some (.ref 2), some (.int x1), none], [], M) res := by
  obtain ⟨q2, h⟩ := h
  refine mz_Go.steps (n := 9) (k2 := (if ¬ (M.1 4 x1.toNatClampNeg) = 0 then 19 else 15, [some (.ref 2), some (.int x1), some (.int (M.1 4 x1.toNatClampNeg))], [.ref 3], M)) (P := [vp_in x1 256]) rfl (mz_o1 q2) ?_
  refine mz_Go.ite (fun c12 => ?_) (fun c12 => ?_)
  · replace h := h.1 c12
    obtain ⟨q3, h⟩ := h
    refine mz_Go.steps (n := 7) (k2 := (28, [some (.ref 2), some (.int x1), some (.int (M.1 4 x1.toNatClampNeg))], [.int (M.1 3 (((M.1 2 2) - 1) - (M.1 4 x1.toNatClampNeg)).toNatClampNeg)], M)) (P := [vp_in (((M.1 2 2) - 1) - (M.1 4 x1.toNatClampNeg)) 256]) rfl (mz_o1 q3) ?_
    rw [h]
    exact mz_Go.iret (rfl : mz_find 28 (mz_rows mq_X0_turned) = some (28, .ireturn, 1, 0, 0, 0)) rfl
  · replace h := h.2 c12
    obtain ⟨q4, h⟩ := h
    refine mz_Go.steps (n := 3) (k2 := (28, [some (.ref 2), some (.int x1), some (.int (M.1 4 x1.toNatClampNeg))], [.int (M.1 3 (0 : Int32).toNatClampNeg)], M)) (P := [vp_in 0 256]) rfl (mz_o1 q4) ?_
    rw [h]
    exact mz_Go.iret (rfl : mz_find 28 (mz_rows mq_X0_turned) = some (28, .ireturn, 1, 0, 0, 0)) rfl
set_option maxRecDepth 100000 in
set_option maxHeartbeats 4000000 in
theorem t_X0_raised_0 (x1 : Int32) (x2 : Int32) (M : mz_M) {res : mz_O} (h :
    mq_G mq_X0_raised (8, [some (.ref 2), some (.int x1), some (.int x2), some (.int 1), some (.int x1), some (.int 0)], [], M) res) :
    mq_G mq_X0_raised (0, [some (.ref 2), some (.int x1), some (.int x2), none, none, none], [], M) res := by
  refine mz_Go.steps (n := 6) (k2 := (8, [some (.ref 2), some (.int x1), some (.int x2), some (.int 1), some (.int x1), some (.int 0)], [], M)) (P := []) rfl mz_o0 ?_
  exact h
set_option maxRecDepth 100000 in
set_option maxHeartbeats 4000000 in
theorem t_X0_raised_8 (o1 : Option Value) (x2 : Int32) (x3 : Int32) (x4 : Int32) (x5 : Int32) (M : mz_M) {res : mz_O} (h :
    ((31 ≤ x5 →
      res = (some (.int x3), M)) ∧
    (¬ (31 ≤ x5) →
      ((((x2 >>> (x5 &&& 31)) &&& 1) = 0 →
        (∃ (r3 : Int32), (mq_C mq_X0_times [.ref 2, .int x4, .int x4] M (some (.int r3), M)) ∧
        mq_G mq_X0_raised (8, [some (.ref 2), o1, some (.int x2), some (.int x3), some (.int r3), some (.int (x5 + 1))], [], M) res)) ∧
      (¬ (((x2 >>> (x5 &&& 31)) &&& 1) = 0) →
        (∃ (r4 : Int32), (mq_C mq_X0_times [.ref 2, .int x3, .int x4] M (some (.int r4), M)) ∧
        (∃ (r5 : Int32), (mq_C mq_X0_times [.ref 2, .int x4, .int x4] M (some (.int r5), M)) ∧
        mq_G mq_X0_raised (8, [some (.ref 2), o1, some (.int x2), some (.int r4), some (.int r5), some (.int (x5 + 1))], [], M) res))))))) :
    mq_G mq_X0_raised (8, [some (.ref 2), o1, some (.int x2), some (.int x3), some (.int x4), some (.int x5)], [], M) res := by
  refine mz_Go.steps (n := 3) (k2 := (if 31 ≤ x5 then 48 else 15, [some (.ref 2), o1, some (.int x2), some (.int x3), some (.int x4), some (.int x5)], [], M)) (P := []) rfl mz_o0 ?_
  refine mz_Go.ite (fun c12 => ?_) (fun c12 => ?_)
  · replace h := h.1 c12
    refine mz_Go.steps (n := 1) (k2 := (49, [some (.ref 2), o1, some (.int x2), some (.int x3), some (.int x4), some (.int x5)], [.int x3], M)) (P := []) rfl mz_o0 ?_
    rw [h]
    exact mz_Go.iret (rfl : mz_find 49 (mz_rows mq_X0_raised) = some (49, .ireturn, 1, 0, 0, 0)) rfl
  · replace h := h.2 c12
    refine mz_Go.steps (n := 6) (k2 := (if ((x2 >>> (x5 &&& 31)) &&& 1) = 0 then 32 else 24, [some (.ref 2), o1, some (.int x2), some (.int x3), some (.int x4), some (.int x5)], [], M)) (P := []) rfl mz_o0 ?_
    refine mz_Go.ite (fun c21 => ?_) (fun c21 => ?_)
    · replace h := h.1 c21
      refine mz_Go.steps (n := 3) (k2 := (37, [some (.ref 2), o1, some (.int x2), some (.int x3), some (.int x4), some (.int x5)], [.int x4, .int x4, .ref 2], M)) (P := []) rfl mz_o0 ?_
      obtain ⟨r3, k3, h⟩ := h
      refine mz_Go.callV (As := [.int x4, .int x4]) (rest := []) (rfl : mz_find 37 (mz_rows mq_X0_raised) = some (37, .invokevirtual 51, 3, 3, 0, 11)) (rfl : mz_nth mq_tab 3 = some mq_X0_times) rfl rfl rfl rfl (Nat.le_of_ble_eq_true rfl) (Nat.le_of_ble_eq_true rfl) k3 ?_
      show mq_G mq_X0_raised (40, [some (.ref 2), o1, some (.int x2), some (.int x3), some (.int x4), some (.int x5)], [.int r3], M) res
      refine mz_Go.steps (n := 3) (k2 := (8, [some (.ref 2), o1, some (.int x2), some (.int x3), some (.int r3), some (.int (x5 + 1))], [], M)) (P := []) rfl mz_o0 ?_
      exact h
    · replace h := h.2 c21
      refine mz_Go.steps (n := 3) (k2 := (28, [some (.ref 2), o1, some (.int x2), some (.int x3), some (.int x4), some (.int x5)], [.int x4, .int x3, .ref 2], M)) (P := []) rfl mz_o0 ?_
      obtain ⟨r4, k4, h⟩ := h
      refine mz_Go.callV (As := [.int x3, .int x4]) (rest := []) (rfl : mz_find 28 (mz_rows mq_X0_raised) = some (28, .invokevirtual 51, 3, 3, 0, 11)) (rfl : mz_nth mq_tab 3 = some mq_X0_times) rfl rfl rfl rfl (Nat.le_of_ble_eq_true rfl) (Nat.le_of_ble_eq_true rfl) k4 ?_
      show mq_G mq_X0_raised (31, [some (.ref 2), o1, some (.int x2), some (.int x3), some (.int x4), some (.int x5)], [.int r4], M) res
      refine mz_Go.steps (n := 4) (k2 := (37, [some (.ref 2), o1, some (.int x2), some (.int r4), some (.int x4), some (.int x5)], [.int x4, .int x4, .ref 2], M)) (P := []) rfl mz_o0 ?_
      obtain ⟨r5, k5, h⟩ := h
      refine mz_Go.callV (As := [.int x4, .int x4]) (rest := []) (rfl : mz_find 37 (mz_rows mq_X0_raised) = some (37, .invokevirtual 51, 3, 3, 0, 11)) (rfl : mz_nth mq_tab 3 = some mq_X0_times) rfl rfl rfl rfl (Nat.le_of_ble_eq_true rfl) (Nat.le_of_ble_eq_true rfl) k5 ?_
      show mq_G mq_X0_raised (40, [some (.ref 2), o1, some (.int x2), some (.int r4), some (.int x4), some (.int x5)], [.int r5], M) res
      refine mz_Go.steps (n := 3) (k2 := (8, [some (.ref 2), o1, some (.int x2), some (.int r4), some (.int r5), some (.int (x5 + 1))], [], M)) (P := []) rfl mz_o0 ?_
      exact h
set_option maxRecDepth 100000 in
set_option maxHeartbeats 4000000 in
theorem t_X0_squared_0 (x1 : Int32) (x2 : Int32) (M : mz_M) {res : mz_O} (h :
    mq_G mq_X0_squared (5, [some (.ref 2), some (.int x1), some (.int x2), some (.int x1), some (.int 0)], [], M) res) :
    mq_G mq_X0_squared (0, [some (.ref 2), some (.int x1), some (.int x2), none, none], [], M) res := by
  refine mz_Go.steps (n := 4) (k2 := (5, [some (.ref 2), some (.int x1), some (.int x2), some (.int x1), some (.int 0)], [], M)) (P := []) rfl mz_o0 ?_
  exact h
set_option maxRecDepth 100000 in
set_option maxHeartbeats 4000000 in
theorem t_X0_squared_5 (o1 : Option Value) (x2 : Int32) (x3 : Int32) (x4 : Int32) (M : mz_M) {res : mz_O} (h :
    ((x2 ≤ x4 →
      res = (some (.int x3), M)) ∧
    (¬ (x2 ≤ x4) →
      (∃ (r2 : Int32), (mq_C mq_X0_times [.ref 2, .int x3, .int x3] M (some (.int r2), M)) ∧
      mq_G mq_X0_squared (5, [some (.ref 2), o1, some (.int x2), some (.int r2), some (.int (x4 + 1))], [], M) res)))) :
    mq_G mq_X0_squared (5, [some (.ref 2), o1, some (.int x2), some (.int x3), some (.int x4)], [], M) res := by
  refine mz_Go.steps (n := 3) (k2 := (if x2 ≤ x4 then 24 else 11, [some (.ref 2), o1, some (.int x2), some (.int x3), some (.int x4)], [], M)) (P := []) rfl mz_o0 ?_
  refine mz_Go.ite (fun c8 => ?_) (fun c8 => ?_)
  · replace h := h.1 c8
    refine mz_Go.steps (n := 1) (k2 := (25, [some (.ref 2), o1, some (.int x2), some (.int x3), some (.int x4)], [.int x3], M)) (P := []) rfl mz_o0 ?_
    rw [h]
    exact mz_Go.iret (rfl : mz_find 25 (mz_rows mq_X0_squared) = some (25, .ireturn, 1, 0, 0, 0)) rfl
  · replace h := h.2 c8
    refine mz_Go.steps (n := 3) (k2 := (14, [some (.ref 2), o1, some (.int x2), some (.int x3), some (.int x4)], [.int x3, .int x3, .ref 2], M)) (P := []) rfl mz_o0 ?_
    obtain ⟨r2, k2, h⟩ := h
    refine mz_Go.callV (As := [.int x3, .int x3]) (rest := []) (rfl : mz_find 14 (mz_rows mq_X0_squared) = some (14, .invokevirtual 51, 3, 3, 0, 11)) (rfl : mz_nth mq_tab 3 = some mq_X0_times) rfl rfl rfl rfl (Nat.le_of_ble_eq_true rfl) (Nat.le_of_ble_eq_true rfl) k2 ?_
    show mq_G mq_X0_squared (17, [some (.ref 2), o1, some (.int x2), some (.int x3), some (.int x4)], [.int r2], M) res
    refine mz_Go.steps (n := 3) (k2 := (5, [some (.ref 2), o1, some (.int x2), some (.int r2), some (.int (x4 + 1))], [], M)) (P := []) rfl mz_o0 ?_
    exact h
set_option maxRecDepth 100000 in
set_option maxHeartbeats 4000000 in
theorem t_X0_orderOf_0 (x1 : Int32) (M : mz_M) {res : mz_O} (h :
    (vp_in x1 256) ∧
    mq_G mq_X0_orderOf (20, [some (.ref 2), some (.int x1), some (.int ((M.1 2 2) - 1)), some (.int ((M.1 2 2) - 1)), some (.int (M.1 4 x1.toNatClampNeg)), some (.int 0), none], [], M) res) :
    mq_G mq_X0_orderOf (0, [some (.ref 2), some (.int x1), none, none, none, none, none], [], M) res := by
  obtain ⟨q1, h⟩ := h
  refine mz_Go.steps (n := 14) (k2 := (20, [some (.ref 2), some (.int x1), some (.int ((M.1 2 2) - 1)), some (.int ((M.1 2 2) - 1)), some (.int (M.1 4 x1.toNatClampNeg)), some (.int 0), none], [], M)) (P := [vp_in x1 256]) rfl (mz_o1 q1) ?_
  exact h
set_option maxRecDepth 100000 in
set_option maxHeartbeats 4000000 in
theorem t_X0_orderOf_20 (o0 : Option Value) (o1 : Option Value) (x2 : Int32) (x3 : Int32) (x4 : Int32) (x5 : Int32) (o6 : Option Value) (M : mz_M) {res : mz_O} (h :
    ((64 ≤ x5 →
      ((x3 ≤ 0 →
        res = (some (.int 1), M)) ∧
      (¬ (x3 ≤ 0) →
        (¬ x3 = 0) ∧
        res = (some (.int (x2 / x3)), M)))) ∧
    (¬ (64 ≤ x5) →
      ((x4 ≤ 0 →
        ((x3 ≤ 0 →
          res = (some (.int 1), M)) ∧
        (¬ (x3 ≤ 0) →
          (¬ x3 = 0) ∧
          res = (some (.int (x2 / x3)), M)))) ∧
      (¬ (x4 ≤ 0) →
        (¬ x4 = 0) ∧
        mq_G mq_X0_orderOf (20, [o0, o1, some (.int x2), some (.int x4), some (.int (x3 - x3 / x4 * x4)), some (.int (x5 + 1)), some (.int (x3 - x3 / x4 * x4))], [], M) res))))) :
    mq_G mq_X0_orderOf (20, [o0, o1, some (.int x2), some (.int x3), some (.int x4), some (.int x5), o6], [], M) res := by
  refine mz_Go.steps (n := 3) (k2 := (if 64 ≤ x5 then 51 else 27, [o0, o1, some (.int x2), some (.int x3), some (.int x4), some (.int x5), o6], [], M)) (P := []) rfl mz_o0 ?_
  refine mz_Go.ite (fun c24 => ?_) (fun c24 => ?_)
  · replace h := h.1 c24
    refine mz_Go.steps (n := 2) (k2 := (if x3 ≤ 0 then 61 else 55, [o0, o1, some (.int x2), some (.int x3), some (.int x4), some (.int x5), o6], [], M)) (P := []) rfl mz_o0 ?_
    refine mz_Go.ite (fun c52 => ?_) (fun c52 => ?_)
    · replace h := h.1 c52
      refine mz_Go.steps (n := 1) (k2 := (62, [o0, o1, some (.int x2), some (.int x3), some (.int x4), some (.int x5), o6], [.int 1], M)) (P := []) rfl mz_o0 ?_
      rw [h]
      exact mz_Go.iret (rfl : mz_find 62 (mz_rows mq_X0_orderOf) = some (62, .ireturn, 1, 0, 0, 0)) rfl
    · replace h := h.2 c52
      obtain ⟨q3, h⟩ := h
      refine mz_Go.steps (n := 4) (k2 := (62, [o0, o1, some (.int x2), some (.int x3), some (.int x4), some (.int x5), o6], [.int (x2 / x3)], M)) (P := [¬ x3 = 0]) rfl (mz_o1 q3) ?_
      rw [h]
      exact mz_Go.iret (rfl : mz_find 62 (mz_rows mq_X0_orderOf) = some (62, .ireturn, 1, 0, 0, 0)) rfl
  · replace h := h.2 c24
    refine mz_Go.steps (n := 2) (k2 := (if x4 ≤ 0 then 51 else 32, [o0, o1, some (.int x2), some (.int x3), some (.int x4), some (.int x5), o6], [], M)) (P := []) rfl mz_o0 ?_
    refine mz_Go.ite (fun c29 => ?_) (fun c29 => ?_)
    · replace h := h.1 c29
      refine mz_Go.steps (n := 2) (k2 := (if x3 ≤ 0 then 61 else 55, [o0, o1, some (.int x2), some (.int x3), some (.int x4), some (.int x5), o6], [], M)) (P := []) rfl mz_o0 ?_
      refine mz_Go.ite (fun c52 => ?_) (fun c52 => ?_)
      · replace h := h.1 c52
        refine mz_Go.steps (n := 1) (k2 := (62, [o0, o1, some (.int x2), some (.int x3), some (.int x4), some (.int x5), o6], [.int 1], M)) (P := []) rfl mz_o0 ?_
        rw [h]
        exact mz_Go.iret (rfl : mz_find 62 (mz_rows mq_X0_orderOf) = some (62, .ireturn, 1, 0, 0, 0)) rfl
      · replace h := h.2 c52
        obtain ⟨q6, h⟩ := h
        refine mz_Go.steps (n := 4) (k2 := (62, [o0, o1, some (.int x2), some (.int x3), some (.int x4), some (.int x5), o6], [.int (x2 / x3)], M)) (P := [¬ x3 = 0]) rfl (mz_o1 q6) ?_
        rw [h]
        exact mz_Go.iret (rfl : mz_find 62 (mz_rows mq_X0_orderOf) = some (62, .ireturn, 1, 0, 0, 0)) rfl
    · replace h := h.2 c29
      obtain ⟨q7, h⟩ := h
      refine mz_Go.steps (n := 10) (k2 := (20, [o0, o1, some (.int x2), some (.int x4), some (.int (x3 - x3 / x4 * x4)), some (.int (x5 + 1)), some (.int (x3 - x3 / x4 * x4))], [], M)) (P := [¬ x4 = 0]) rfl (mz_o1 q7) ?_
      exact h
set_option maxRecDepth 100000 in
set_option maxHeartbeats 4000000 in
theorem t_X0_generates_0 (x1 : Int32) (M : mz_M) {res : mz_O} (h :
    (∃ (r1 : Int32), (mq_C mq_X0_orderOf [.ref 2, .int x1] M (some (.int r1), M)) ∧
    ((¬ r1 = ((M.1 2 2) - 1) →
      res = (some (.int 0), M)) ∧
    (¬ (¬ r1 = ((M.1 2 2) - 1)) →
      res = (some (.int 1), M))))) :
    mq_G mq_X0_generates (0, [some (.ref 2), some (.int x1)], [], M) res := by
  refine mz_Go.steps (n := 2) (k2 := (2, [some (.ref 2), some (.int x1)], [.int x1, .ref 2], M)) (P := []) rfl mz_o0 ?_
  obtain ⟨r1, k1, h⟩ := h
  refine mz_Go.callV (As := [.int x1]) (rest := []) (rfl : mz_find 2 (mz_rows mq_X0_generates) = some (2, .invokevirtual 54, 3, 7, 0, 12)) (rfl : mz_nth mq_tab 7 = some mq_X0_orderOf) rfl rfl rfl rfl (Nat.le_of_ble_eq_true rfl) (Nat.le_of_ble_eq_true rfl) k1 ?_
  show mq_G mq_X0_generates (5, [some (.ref 2), some (.int x1)], [.int r1], M) res
  refine mz_Go.steps (n := 5) (k2 := (if ¬ r1 = ((M.1 2 2) - 1) then 18 else 14, [some (.ref 2), some (.int x1)], [], M)) (P := []) rfl mz_o0 ?_
  refine mz_Go.ite (fun c11 => ?_) (fun c11 => ?_)
  · replace h := h.1 c11
    refine mz_Go.steps (n := 1) (k2 := (19, [some (.ref 2), some (.int x1)], [.int 0], M)) (P := []) rfl mz_o0 ?_
    rw [h]
    exact mz_Go.zret (rfl : mz_find 19 (mz_rows mq_X0_generates) = some (19, .ireturn, 1, 0, 0, 0)) rfl (Or.inl rfl)
  · replace h := h.2 c11
    refine mz_Go.steps (n := 2) (k2 := (19, [some (.ref 2), some (.int x1)], [.int 1], M)) (P := []) rfl mz_o0 ?_
    rw [h]
    exact mz_Go.zret (rfl : mz_find 19 (mz_rows mq_X0_generates) = some (19, .ireturn, 1, 0, 0, 0)) rfl (Or.inr rfl)
set_option maxRecDepth 100000 in
set_option maxHeartbeats 4000000 in
theorem t_X0_howManyOfOrder_0 (x1 : Int32) (M : mz_M) {res : mz_O} (h :
    ((x1 ≤ 0 →
      res = (some (.int 0), M)) ∧
    (¬ (x1 ≤ 0) →
      (¬ x1 = 0) ∧
      ((¬ (((M.1 2 2) - 1) - ((M.1 2 2) - 1) / x1 * x1) = 0 →
        res = (some (.int 0), M)) ∧
      (¬ (¬ (((M.1 2 2) - 1) - ((M.1 2 2) - 1) / x1 * x1) = 0) →
        mq_G mq_X0_howManyOfOrder (19, [some (.ref 2), some (.int x1), some (.int 0), some (.int 1)], [], M) res))))) :
    mq_G mq_X0_howManyOfOrder (0, [some (.ref 2), some (.int x1), none, none], [], M) res := by
  refine mz_Go.steps (n := 4) (k2 := (if x1 ≤ 0 then 50 else 6, [some (.ref 2), some (.int x1), some (.int 0), none], [], M)) (P := []) rfl mz_o0 ?_
  refine mz_Go.ite (fun c3 => ?_) (fun c3 => ?_)
  · replace h := h.1 c3
    refine mz_Go.steps (n := 1) (k2 := (51, [some (.ref 2), some (.int x1), some (.int 0), none], [.int 0], M)) (P := []) rfl mz_o0 ?_
    rw [h]
    exact mz_Go.iret (rfl : mz_find 51 (mz_rows mq_X0_howManyOfOrder) = some (51, .ireturn, 1, 0, 0, 0)) rfl
  · replace h := h.2 c3
    obtain ⟨q3, h⟩ := h
    refine mz_Go.steps (n := 7) (k2 := (if ¬ (((M.1 2 2) - 1) - ((M.1 2 2) - 1) / x1 * x1) = 0 then 50 else 17, [some (.ref 2), some (.int x1), some (.int 0), none], [], M)) (P := [¬ x1 = 0]) rfl (mz_o1 q3) ?_
    refine mz_Go.ite (fun c14 => ?_) (fun c14 => ?_)
    · replace h := h.1 c14
      refine mz_Go.steps (n := 1) (k2 := (51, [some (.ref 2), some (.int x1), some (.int 0), none], [.int 0], M)) (P := []) rfl mz_o0 ?_
      rw [h]
      exact mz_Go.iret (rfl : mz_find 51 (mz_rows mq_X0_howManyOfOrder) = some (51, .ireturn, 1, 0, 0, 0)) rfl
    · replace h := h.2 c14
      refine mz_Go.steps (n := 2) (k2 := (19, [some (.ref 2), some (.int x1), some (.int 0), some (.int 1)], [], M)) (P := []) rfl mz_o0 ?_
      exact h
set_option maxRecDepth 100000 in
set_option maxHeartbeats 4000000 in
theorem t_X0_howManyOfOrder_19 (x1 : Int32) (x2 : Int32) (x3 : Int32) (M : mz_M) {res : mz_O} (h :
    (((M.1 2 2) ≤ x3 →
      res = (some (.int x2), M)) ∧
    (¬ ((M.1 2 2) ≤ x3) →
      (∃ (r2 : Int32), (mq_C mq_X0_orderOf [.ref 2, .int x3] M (some (.int r2), M)) ∧
      ((¬ r2 = x1 →
        mq_G mq_X0_howManyOfOrder (19, [some (.ref 2), some (.int x1), some (.int (x2 + 0)), some (.int (x3 + 1))], [], M) res) ∧
      (¬ (¬ r2 = x1) →
        mq_G mq_X0_howManyOfOrder (19, [some (.ref 2), some (.int x1), some (.int (x2 + 1)), some (.int (x3 + 1))], [], M) res)))))) :
    mq_G mq_X0_howManyOfOrder (19, [some (.ref 2), some (.int x1), some (.int x2), some (.int x3)], [], M) res := by
  refine mz_Go.steps (n := 4) (k2 := (if (M.1 2 2) ≤ x3 then 50 else 27, [some (.ref 2), some (.int x1), some (.int x2), some (.int x3)], [], M)) (P := []) rfl mz_o0 ?_
  refine mz_Go.ite (fun c24 => ?_) (fun c24 => ?_)
  · replace h := h.1 c24
    refine mz_Go.steps (n := 1) (k2 := (51, [some (.ref 2), some (.int x1), some (.int x2), some (.int x3)], [.int x2], M)) (P := []) rfl mz_o0 ?_
    rw [h]
    exact mz_Go.iret (rfl : mz_find 51 (mz_rows mq_X0_howManyOfOrder) = some (51, .ireturn, 1, 0, 0, 0)) rfl
  · replace h := h.2 c24
    refine mz_Go.steps (n := 3) (k2 := (30, [some (.ref 2), some (.int x1), some (.int x2), some (.int x3)], [.int x3, .ref 2, .int x2], M)) (P := []) rfl mz_o0 ?_
    obtain ⟨r2, k2, h⟩ := h
    refine mz_Go.callV (As := [.int x3]) (rest := [.int x2]) (rfl : mz_find 30 (mz_rows mq_X0_howManyOfOrder) = some (30, .invokevirtual 54, 3, 7, 0, 12)) (rfl : mz_nth mq_tab 7 = some mq_X0_orderOf) rfl rfl rfl rfl (Nat.le_of_ble_eq_true rfl) (Nat.le_of_ble_eq_true rfl) k2 ?_
    show mq_G mq_X0_howManyOfOrder (33, [some (.ref 2), some (.int x1), some (.int x2), some (.int x3)], [.int r2, .int x2], M) res
    refine mz_Go.steps (n := 2) (k2 := (if ¬ r2 = x1 then 41 else 37, [some (.ref 2), some (.int x1), some (.int x2), some (.int x3)], [.int x2], M)) (P := []) rfl mz_o0 ?_
    refine mz_Go.ite (fun c34 => ?_) (fun c34 => ?_)
    · replace h := h.1 c34
      refine mz_Go.steps (n := 5) (k2 := (19, [some (.ref 2), some (.int x1), some (.int (x2 + 0)), some (.int (x3 + 1))], [], M)) (P := []) rfl mz_o0 ?_
      exact h
    · replace h := h.2 c34
      refine mz_Go.steps (n := 6) (k2 := (19, [some (.ref 2), some (.int x1), some (.int (x2 + 1)), some (.int (x3 + 1))], [], M)) (P := []) rfl mz_o0 ?_
      exact h
set_option maxRecDepth 100000 in
set_option maxHeartbeats 4000000 in
theorem t_X0_sizeOf_0 (x1 : Int32) (M : mz_M) {res : mz_O} (h :
    (∃ (r1 : Int32), (mq_C mq_X0_times [.ref 2, .int x1, .int x1] M (some (.int r1), M)) ∧
    mq_G mq_X0_sizeOf (9, [some (.ref 2), some (.int x1), some (.int r1), some (.int 1)], [], M) res)) :
    mq_G mq_X0_sizeOf (0, [some (.ref 2), some (.int x1), none, none], [], M) res := by
  refine mz_Go.steps (n := 3) (k2 := (3, [some (.ref 2), some (.int x1), none, none], [.int x1, .int x1, .ref 2], M)) (P := []) rfl mz_o0 ?_
  obtain ⟨r1, k1, h⟩ := h
  refine mz_Go.callV (As := [.int x1, .int x1]) (rest := []) (rfl : mz_find 3 (mz_rows mq_X0_sizeOf) = some (3, .invokevirtual 51, 3, 3, 0, 11)) (rfl : mz_nth mq_tab 3 = some mq_X0_times) rfl rfl rfl rfl (Nat.le_of_ble_eq_true rfl) (Nat.le_of_ble_eq_true rfl) k1 ?_
  show mq_G mq_X0_sizeOf (6, [some (.ref 2), some (.int x1), none, none], [.int r1], M) res
  refine mz_Go.steps (n := 3) (k2 := (9, [some (.ref 2), some (.int x1), some (.int r1), some (.int 1)], [], M)) (P := []) rfl mz_o0 ?_
  exact h
set_option maxRecDepth 100000 in
set_option maxHeartbeats 4000000 in
theorem t_X0_sizeOf_9 (x1 : Int32) (x2 : Int32) (x3 : Int32) (M : mz_M) {res : mz_O} (h :
    (((M.1 2 1) ≤ x3 →
      res = (some (.int x3), M)) ∧
    (¬ ((M.1 2 1) ≤ x3) →
      ((x2 = x1 →
        res = (some (.int x3), M)) ∧
      (¬ (x2 = x1) →
        (∃ (r3 : Int32), (mq_C mq_X0_times [.ref 2, .int x2, .int x2] M (some (.int r3), M)) ∧
        mq_G mq_X0_sizeOf (9, [some (.ref 2), some (.int x1), some (.int r3), some (.int (x3 + 1))], [], M) res)))))) :
    mq_G mq_X0_sizeOf (9, [some (.ref 2), some (.int x1), some (.int x2), some (.int x3)], [], M) res := by
  refine mz_Go.steps (n := 4) (k2 := (if (M.1 2 1) ≤ x3 then 35 else 17, [some (.ref 2), some (.int x1), some (.int x2), some (.int x3)], [], M)) (P := []) rfl mz_o0 ?_
  refine mz_Go.ite (fun c14 => ?_) (fun c14 => ?_)
  · replace h := h.1 c14
    refine mz_Go.steps (n := 1) (k2 := (36, [some (.ref 2), some (.int x1), some (.int x2), some (.int x3)], [.int x3], M)) (P := []) rfl mz_o0 ?_
    rw [h]
    exact mz_Go.iret (rfl : mz_find 36 (mz_rows mq_X0_sizeOf) = some (36, .ireturn, 1, 0, 0, 0)) rfl
  · replace h := h.2 c14
    refine mz_Go.steps (n := 3) (k2 := (if x2 = x1 then 35 else 22, [some (.ref 2), some (.int x1), some (.int x2), some (.int x3)], [], M)) (P := []) rfl mz_o0 ?_
    refine mz_Go.ite (fun c19 => ?_) (fun c19 => ?_)
    · replace h := h.1 c19
      refine mz_Go.steps (n := 1) (k2 := (36, [some (.ref 2), some (.int x1), some (.int x2), some (.int x3)], [.int x3], M)) (P := []) rfl mz_o0 ?_
      rw [h]
      exact mz_Go.iret (rfl : mz_find 36 (mz_rows mq_X0_sizeOf) = some (36, .ireturn, 1, 0, 0, 0)) rfl
    · replace h := h.2 c19
      refine mz_Go.steps (n := 3) (k2 := (25, [some (.ref 2), some (.int x1), some (.int x2), some (.int x3)], [.int x2, .int x2, .ref 2], M)) (P := []) rfl mz_o0 ?_
      obtain ⟨r3, k3, h⟩ := h
      refine mz_Go.callV (As := [.int x2, .int x2]) (rest := []) (rfl : mz_find 25 (mz_rows mq_X0_sizeOf) = some (25, .invokevirtual 51, 3, 3, 0, 11)) (rfl : mz_nth mq_tab 3 = some mq_X0_times) rfl rfl rfl rfl (Nat.le_of_ble_eq_true rfl) (Nat.le_of_ble_eq_true rfl) k3 ?_
      show mq_G mq_X0_sizeOf (28, [some (.ref 2), some (.int x1), some (.int x2), some (.int x3)], [.int r3], M) res
      refine mz_Go.steps (n := 3) (k2 := (9, [some (.ref 2), some (.int x1), some (.int r3), some (.int (x3 + 1))], [], M)) (P := []) rfl mz_o0 ?_
      exact h
set_option maxRecDepth 100000 in
set_option maxHeartbeats 4000000 in
theorem t_X0_hasSubfield_0 (x1 : Int32) (M : mz_M) {res : mz_O} (h :
    ((x1 < 1 →
      res = (some (.int 0), M)) ∧
    (¬ (x1 < 1) →
      (((M.1 2 1) < x1 →
        res = (some (.int 0), M)) ∧
      (¬ ((M.1 2 1) < x1) →
        (¬ x1 = 0) ∧
        ((¬ ((M.1 2 1) - (M.1 2 1) / x1 * x1) = 0 →
          res = (some (.int 0), M)) ∧
        (¬ (¬ ((M.1 2 1) - (M.1 2 1) / x1 * x1) = 0) →
          res = (some (.int 1), M)))))))) :
    mq_G mq_X0_hasSubfield (0, [some (.ref 2), some (.int x1)], [], M) res := by
  refine mz_Go.steps (n := 3) (k2 := (if x1 < 1 then 26 else 5, [some (.ref 2), some (.int x1)], [], M)) (P := []) rfl mz_o0 ?_
  refine mz_Go.ite (fun c2 => ?_) (fun c2 => ?_)
  · replace h := h.1 c2
    refine mz_Go.steps (n := 1) (k2 := (27, [some (.ref 2), some (.int x1)], [.int 0], M)) (P := []) rfl mz_o0 ?_
    rw [h]
    exact mz_Go.zret (rfl : mz_find 27 (mz_rows mq_X0_hasSubfield) = some (27, .ireturn, 1, 0, 0, 0)) rfl (Or.inl rfl)
  · replace h := h.2 c2
    refine mz_Go.steps (n := 4) (k2 := (if (M.1 2 1) < x1 then 26 else 13, [some (.ref 2), some (.int x1)], [], M)) (P := []) rfl mz_o0 ?_
    refine mz_Go.ite (fun c10 => ?_) (fun c10 => ?_)
    · replace h := h.1 c10
      refine mz_Go.steps (n := 1) (k2 := (27, [some (.ref 2), some (.int x1)], [.int 0], M)) (P := []) rfl mz_o0 ?_
      rw [h]
      exact mz_Go.zret (rfl : mz_find 27 (mz_rows mq_X0_hasSubfield) = some (27, .ireturn, 1, 0, 0, 0)) rfl (Or.inl rfl)
    · replace h := h.2 c10
      obtain ⟨q4, h⟩ := h
      refine mz_Go.steps (n := 5) (k2 := (if ¬ ((M.1 2 1) - (M.1 2 1) / x1 * x1) = 0 then 26 else 22, [some (.ref 2), some (.int x1)], [], M)) (P := [¬ x1 = 0]) rfl (mz_o1 q4) ?_
      refine mz_Go.ite (fun c19 => ?_) (fun c19 => ?_)
      · replace h := h.1 c19
        refine mz_Go.steps (n := 1) (k2 := (27, [some (.ref 2), some (.int x1)], [.int 0], M)) (P := []) rfl mz_o0 ?_
        rw [h]
        exact mz_Go.zret (rfl : mz_find 27 (mz_rows mq_X0_hasSubfield) = some (27, .ireturn, 1, 0, 0, 0)) rfl (Or.inl rfl)
      · replace h := h.2 c19
        refine mz_Go.steps (n := 2) (k2 := (27, [some (.ref 2), some (.int x1)], [.int 1], M)) (P := []) rfl mz_o0 ?_
        rw [h]
        exact mz_Go.zret (rfl : mz_find 27 (mz_rows mq_X0_hasSubfield) = some (27, .ireturn, 1, 0, 0, 0)) rfl (Or.inr rfl)
set_option maxRecDepth 100000 in
set_option maxHeartbeats 4000000 in
theorem t_X0_tracedTo_0 (x1 : Int32) (x2 : Int32) (M : mz_M) {res : mz_O} (h :
    ((1 ≤ x2 →
      mq_G mq_X0_tracedTo (20, [some (.ref 2), some (.int x1), some (.int x2), some (.int x2), some (.int 0), some (.int x1), some (.int 0)], [], M) res) ∧
    (¬ (1 ≤ x2) →
      mq_G mq_X0_tracedTo (20, [some (.ref 2), some (.int x1), some (.int x2), some (.int 1), some (.int 0), some (.int x1), some (.int 0)], [], M) res))) :
    mq_G mq_X0_tracedTo (0, [some (.ref 2), some (.int x1), some (.int x2), none, none, none, none], [], M) res := by
  refine mz_Go.steps (n := 3) (k2 := (if 1 ≤ x2 then 9 else 5, [some (.ref 2), some (.int x1), some (.int x2), none, none, none, none], [], M)) (P := []) rfl mz_o0 ?_
  refine mz_Go.ite (fun c2 => ?_) (fun c2 => ?_)
  · replace h := h.1 c2
    refine mz_Go.steps (n := 8) (k2 := (20, [some (.ref 2), some (.int x1), some (.int x2), some (.int x2), some (.int 0), some (.int x1), some (.int 0)], [], M)) (P := []) rfl mz_o0 ?_
    exact h
  · replace h := h.2 c2
    refine mz_Go.steps (n := 9) (k2 := (20, [some (.ref 2), some (.int x1), some (.int x2), some (.int 1), some (.int 0), some (.int x1), some (.int 0)], [], M)) (P := []) rfl mz_o0 ?_
    exact h
set_option maxRecDepth 100000 in
set_option maxHeartbeats 4000000 in
theorem t_X0_tracedTo_20 (o1 : Option Value) (o2 : Option Value) (x3 : Int32) (x4 : Int32) (x5 : Int32) (x6 : Int32) (M : mz_M) {res : mz_O} (h :
    (((M.1 2 1) ≤ x6 →
      res = (some (.int x4), M)) ∧
    (¬ ((M.1 2 1) ≤ x6) →
      (∃ (r2 : Int32), (mq_C mq_X0_squared [.ref 2, .int x5, .int x3] M (some (.int r2), M)) ∧
      mq_G mq_X0_tracedTo (20, [some (.ref 2), o1, o2, some (.int x3), some (.int (x4 ^^^ x5)), some (.int r2), some (.int (x6 + x3))], [], M) res)))) :
    mq_G mq_X0_tracedTo (20, [some (.ref 2), o1, o2, some (.int x3), some (.int x4), some (.int x5), some (.int x6)], [], M) res := by
  refine mz_Go.steps (n := 4) (k2 := (if (M.1 2 1) ≤ x6 then 54 else 29, [some (.ref 2), o1, o2, some (.int x3), some (.int x4), some (.int x5), some (.int x6)], [], M)) (P := []) rfl mz_o0 ?_
  refine mz_Go.ite (fun c26 => ?_) (fun c26 => ?_)
  · replace h := h.1 c26
    refine mz_Go.steps (n := 1) (k2 := (56, [some (.ref 2), o1, o2, some (.int x3), some (.int x4), some (.int x5), some (.int x6)], [.int x4], M)) (P := []) rfl mz_o0 ?_
    rw [h]
    exact mz_Go.iret (rfl : mz_find 56 (mz_rows mq_X0_tracedTo) = some (56, .ireturn, 1, 0, 0, 0)) rfl
  · replace h := h.2 c26
    refine mz_Go.steps (n := 7) (k2 := (40, [some (.ref 2), o1, o2, some (.int x3), some (.int (x4 ^^^ x5)), some (.int x5), some (.int x6)], [.int x3, .int x5, .ref 2], M)) (P := []) rfl mz_o0 ?_
    obtain ⟨r2, k2, h⟩ := h
    refine mz_Go.callV (As := [.int x5, .int x3]) (rest := []) (rfl : mz_find 40 (mz_rows mq_X0_tracedTo) = some (40, .invokevirtual 57, 3, 6, 0, 13)) (rfl : mz_nth mq_tab 6 = some mq_X0_squared) rfl rfl rfl rfl (Nat.le_of_ble_eq_true rfl) (Nat.le_of_ble_eq_true rfl) k2 ?_
    show mq_G mq_X0_tracedTo (43, [some (.ref 2), o1, o2, some (.int x3), some (.int (x4 ^^^ x5)), some (.int x5), some (.int x6)], [.int r2], M) res
    refine mz_Go.steps (n := 6) (k2 := (20, [some (.ref 2), o1, o2, some (.int x3), some (.int (x4 ^^^ x5)), some (.int r2), some (.int (x6 + x3))], [], M)) (P := []) rfl mz_o0 ?_
    exact h
set_option maxRecDepth 100000 in
set_option maxHeartbeats 4000000 in
theorem t_X0_tracedToOne_0 (x1 : Int32) (M : mz_M) {res : mz_O} (h :
    (∃ (r1 : Int32), (mq_C mq_J6_bitCount_0f7a4 [.int (x1 &&& (M.1 2 5))] M (some (.int r1), M)) ∧
    res = (some (.int (r1 &&& 1)), M))) :
    mq_G mq_X0_tracedToOne (0, [some (.ref 2), some (.int x1)], [], M) res := by
  refine mz_Go.steps (n := 4) (k2 := (6, [some (.ref 2), some (.int x1)], [.int (x1 &&& (M.1 2 5))], M)) (P := []) rfl mz_o0 ?_
  obtain ⟨r1, k1, h⟩ := h
  refine mz_Go.callS (As := [.int (x1 &&& (M.1 2 5))]) (rest := []) (rfl : mz_find 6 (mz_rows mq_X0_tracedToOne) = some (6, .invokestatic 60, 3, 252, 0, 14)) (rfl : mz_nth mq_tab 252 = some mq_J6_bitCount_0f7a4) (by decide) rfl rfl rfl (Nat.le_of_ble_eq_true rfl) (Nat.le_of_ble_eq_true rfl) k1 ?_
  show mq_G mq_X0_tracedToOne (9, [some (.ref 2), some (.int x1)], [.int r1], M) res
  refine mz_Go.steps (n := 2) (k2 := (11, [some (.ref 2), some (.int x1)], [.int (r1 &&& 1)], M)) (P := []) rfl mz_o0 ?_
  rw [h]
  exact mz_Go.iret (rfl : mz_find 11 (mz_rows mq_X0_tracedToOne) = some (11, .ireturn, 1, 0, 0, 0)) rfl
set_option maxRecDepth 100000 in
set_option maxHeartbeats 4000000 in
theorem t_X0_normedTo_0 (x1 : Int32) (x2 : Int32) (M : mz_M) {res : mz_O} (h :
    ((1 ≤ x2 →
      mq_G mq_X0_normedTo (20, [some (.ref 2), some (.int x1), some (.int x2), some (.int x2), some (.int 1), some (.int x1), some (.int 0)], [], M) res) ∧
    (¬ (1 ≤ x2) →
      mq_G mq_X0_normedTo (20, [some (.ref 2), some (.int x1), some (.int x2), some (.int 1), some (.int 1), some (.int x1), some (.int 0)], [], M) res))) :
    mq_G mq_X0_normedTo (0, [some (.ref 2), some (.int x1), some (.int x2), none, none, none, none], [], M) res := by
  refine mz_Go.steps (n := 3) (k2 := (if 1 ≤ x2 then 9 else 5, [some (.ref 2), some (.int x1), some (.int x2), none, none, none, none], [], M)) (P := []) rfl mz_o0 ?_
  refine mz_Go.ite (fun c2 => ?_) (fun c2 => ?_)
  · replace h := h.1 c2
    refine mz_Go.steps (n := 8) (k2 := (20, [some (.ref 2), some (.int x1), some (.int x2), some (.int x2), some (.int 1), some (.int x1), some (.int 0)], [], M)) (P := []) rfl mz_o0 ?_
    exact h
  · replace h := h.2 c2
    refine mz_Go.steps (n := 9) (k2 := (20, [some (.ref 2), some (.int x1), some (.int x2), some (.int 1), some (.int 1), some (.int x1), some (.int 0)], [], M)) (P := []) rfl mz_o0 ?_
    exact h
set_option maxRecDepth 100000 in
set_option maxHeartbeats 4000000 in
theorem t_X0_normedTo_20 (o1 : Option Value) (o2 : Option Value) (x3 : Int32) (x4 : Int32) (x5 : Int32) (x6 : Int32) (M : mz_M) {res : mz_O} (h :
    (((M.1 2 1) ≤ x6 →
      res = (some (.int x4), M)) ∧
    (¬ ((M.1 2 1) ≤ x6) →
      (∃ (r2 : Int32), (mq_C mq_X0_times [.ref 2, .int x4, .int x5] M (some (.int r2), M)) ∧
      (∃ (r3 : Int32), (mq_C mq_X0_squared [.ref 2, .int x5, .int x3] M (some (.int r3), M)) ∧
      mq_G mq_X0_normedTo (20, [some (.ref 2), o1, o2, some (.int x3), some (.int r2), some (.int r3), some (.int (x6 + x3))], [], M) res))))) :
    mq_G mq_X0_normedTo (20, [some (.ref 2), o1, o2, some (.int x3), some (.int x4), some (.int x5), some (.int x6)], [], M) res := by
  refine mz_Go.steps (n := 4) (k2 := (if (M.1 2 1) ≤ x6 then 57 else 29, [some (.ref 2), o1, o2, some (.int x3), some (.int x4), some (.int x5), some (.int x6)], [], M)) (P := []) rfl mz_o0 ?_
  refine mz_Go.ite (fun c26 => ?_) (fun c26 => ?_)
  · replace h := h.1 c26
    refine mz_Go.steps (n := 1) (k2 := (59, [some (.ref 2), o1, o2, some (.int x3), some (.int x4), some (.int x5), some (.int x6)], [.int x4], M)) (P := []) rfl mz_o0 ?_
    rw [h]
    exact mz_Go.iret (rfl : mz_find 59 (mz_rows mq_X0_normedTo) = some (59, .ireturn, 1, 0, 0, 0)) rfl
  · replace h := h.2 c26
    refine mz_Go.steps (n := 3) (k2 := (34, [some (.ref 2), o1, o2, some (.int x3), some (.int x4), some (.int x5), some (.int x6)], [.int x5, .int x4, .ref 2], M)) (P := []) rfl mz_o0 ?_
    obtain ⟨r2, k2, h⟩ := h
    refine mz_Go.callV (As := [.int x4, .int x5]) (rest := []) (rfl : mz_find 34 (mz_rows mq_X0_normedTo) = some (34, .invokevirtual 51, 3, 3, 0, 11)) (rfl : mz_nth mq_tab 3 = some mq_X0_times) rfl rfl rfl rfl (Nat.le_of_ble_eq_true rfl) (Nat.le_of_ble_eq_true rfl) k2 ?_
    show mq_G mq_X0_normedTo (37, [some (.ref 2), o1, o2, some (.int x3), some (.int x4), some (.int x5), some (.int x6)], [.int r2], M) res
    refine mz_Go.steps (n := 4) (k2 := (43, [some (.ref 2), o1, o2, some (.int x3), some (.int r2), some (.int x5), some (.int x6)], [.int x3, .int x5, .ref 2], M)) (P := []) rfl mz_o0 ?_
    obtain ⟨r3, k3, h⟩ := h
    refine mz_Go.callV (As := [.int x5, .int x3]) (rest := []) (rfl : mz_find 43 (mz_rows mq_X0_normedTo) = some (43, .invokevirtual 57, 3, 6, 0, 13)) (rfl : mz_nth mq_tab 6 = some mq_X0_squared) rfl rfl rfl rfl (Nat.le_of_ble_eq_true rfl) (Nat.le_of_ble_eq_true rfl) k3 ?_
    show mq_G mq_X0_normedTo (46, [some (.ref 2), o1, o2, some (.int x3), some (.int r2), some (.int x5), some (.int x6)], [.int r3], M) res
    refine mz_Go.steps (n := 6) (k2 := (20, [some (.ref 2), o1, o2, some (.int x3), some (.int r2), some (.int r3), some (.int (x6 + x3))], [], M)) (P := []) rfl mz_o0 ?_
    exact h
set_option maxRecDepth 100000 in
set_option maxHeartbeats 4000000 in
theorem t_X0_valueAt_0 (x1 : Int32) (x2 : Int32) (M : mz_M) {res : mz_O} (h :
    mq_G mq_X0_valueAt (6, [some (.ref 2), some (.int x1), some (.int x2), some (.int 0), some (.int 8)], [], M) res) :
    mq_G mq_X0_valueAt (0, [some (.ref 2), some (.int x1), some (.int x2), none, none], [], M) res := by
  refine mz_Go.steps (n := 4) (k2 := (6, [some (.ref 2), some (.int x1), some (.int x2), some (.int 0), some (.int 8)], [], M)) (P := []) rfl mz_o0 ?_
  exact h
set_option maxRecDepth 100000 in
set_option maxHeartbeats 4000000 in
theorem t_X0_valueAt_6 (x1 : Int32) (x2 : Int32) (x3 : Int32) (x4 : Int32) (M : mz_M) {res : mz_O} (h :
    ((x4 < 0 →
      res = (some (.int x3), M)) ∧
    (¬ (x4 < 0) →
      (∃ (r2 : Int32), (mq_C mq_X0_times [.ref 2, .int x3, .int x2] M (some (.int r2), M)) ∧
      mq_G mq_X0_valueAt (6, [some (.ref 2), some (.int x1), some (.int x2), some (.int (r2 ^^^ ((x1 >>> (x4 &&& 31)) &&& 1))), some (.int (x4 + (-1)))], [], M) res)))) :
    mq_G mq_X0_valueAt (6, [some (.ref 2), some (.int x1), some (.int x2), some (.int x3), some (.int x4)], [], M) res := by
  refine mz_Go.steps (n := 2) (k2 := (if x4 < 0 then 31 else 11, [some (.ref 2), some (.int x1), some (.int x2), some (.int x3), some (.int x4)], [], M)) (P := []) rfl mz_o0 ?_
  refine mz_Go.ite (fun c8 => ?_) (fun c8 => ?_)
  · replace h := h.1 c8
    refine mz_Go.steps (n := 1) (k2 := (32, [some (.ref 2), some (.int x1), some (.int x2), some (.int x3), some (.int x4)], [.int x3], M)) (P := []) rfl mz_o0 ?_
    rw [h]
    exact mz_Go.iret (rfl : mz_find 32 (mz_rows mq_X0_valueAt) = some (32, .ireturn, 1, 0, 0, 0)) rfl
  · replace h := h.2 c8
    refine mz_Go.steps (n := 3) (k2 := (14, [some (.ref 2), some (.int x1), some (.int x2), some (.int x3), some (.int x4)], [.int x2, .int x3, .ref 2], M)) (P := []) rfl mz_o0 ?_
    obtain ⟨r2, k2, h⟩ := h
    refine mz_Go.callV (As := [.int x3, .int x2]) (rest := []) (rfl : mz_find 14 (mz_rows mq_X0_valueAt) = some (14, .invokevirtual 51, 3, 3, 0, 11)) (rfl : mz_nth mq_tab 3 = some mq_X0_times) rfl rfl rfl rfl (Nat.le_of_ble_eq_true rfl) (Nat.le_of_ble_eq_true rfl) k2 ?_
    show mq_G mq_X0_valueAt (17, [some (.ref 2), some (.int x1), some (.int x2), some (.int x3), some (.int x4)], [.int r2], M) res
    refine mz_Go.steps (n := 9) (k2 := (6, [some (.ref 2), some (.int x1), some (.int x2), some (.int (r2 ^^^ ((x1 >>> (x4 &&& 31)) &&& 1))), some (.int (x4 + (-1)))], [], M)) (P := []) rfl mz_o0 ?_
    exact h
set_option maxRecDepth 100000 in
set_option maxHeartbeats 4000000 in
theorem t_X0_fillsPowers_0 (b1 : Nat) (x2 : Int32) (M : mz_M) {res : mz_O} (h :
    mq_G mq_X0_fillsPowers (5, [some (.ref 2), some (.ref b1), some (.int x2), some (.int 1), some (.int 0)], [], M) res) :
    mq_G mq_X0_fillsPowers (0, [some (.ref 2), some (.ref b1), some (.int x2), none, none], [], M) res := by
  refine mz_Go.steps (n := 4) (k2 := (5, [some (.ref 2), some (.ref b1), some (.int x2), some (.int 1), some (.int 0)], [], M)) (P := []) rfl mz_o0 ?_
  exact h
set_option maxRecDepth 100000 in
set_option maxHeartbeats 4000000 in
theorem t_X0_fillsPowers_5 (b1 : Nat) (x2 : Int32) (x3 : Int32) (x4 : Int32) (M : mz_M) {res : mz_O} (h :
    (((M.1 2 1) ≤ x4 →
      res = (none, M)) ∧
    (¬ ((M.1 2 1) ≤ x4) →
      (mz_nth mq_sk b1 = some (.inl (0, 8, []))) ∧
      (vp_in x4 8) ∧
      (∀ M2 : mz_M, M2 = mz_wr M b1 (upd (M.1 b1) x4.toNatClampNeg x3) →
      (∃ (r5 : Int32), (mq_C mq_X0_times [.ref 2, .int x3, .int x2] M2 (some (.int r5), M2)) ∧
      mq_G mq_X0_fillsPowers (5, [some (.ref 2), some (.ref b1), some (.int x2), some (.int r5), some (.int (x4 + 1))], [], M2) res))))) :
    mq_G mq_X0_fillsPowers (5, [some (.ref 2), some (.ref b1), some (.int x2), some (.int x3), some (.int x4)], [], M) res := by
  refine mz_Go.steps (n := 4) (k2 := (if (M.1 2 1) ≤ x4 then 32 else 14, [some (.ref 2), some (.ref b1), some (.int x2), some (.int x3), some (.int x4)], [], M)) (P := []) rfl mz_o0 ?_
  refine mz_Go.ite (fun c11 => ?_) (fun c11 => ?_)
  · replace h := h.1 c11
    rw [h]
    exact mz_Go.vret (rfl : mz_find 32 (mz_rows mq_X0_fillsPowers) = some (32, .return_, 1, 0, 0, 0)) rfl
  · replace h := h.2 c11
    refine mz_Go.steps (n := 3) (k2 := (18, [some (.ref 2), some (.ref b1), some (.int x2), some (.int x3), some (.int x4)], [.int x3, .int x4, .ref b1], M)) (P := []) rfl mz_o0 ?_
    obtain ⟨q3, q4, h⟩ := h
    obtain ⟨M2, e2⟩ : ∃ y, y = mz_wr M b1 (upd (M.1 b1) x4.toNatClampNeg x3) := ⟨_, rfl⟩
    replace h := h M2 e2
    refine mz_Go.iast (rfl : mz_find 18 (mz_rows mq_X0_fillsPowers) = some (18, .iastore, 1, 0, 0, 0)) q3 q4 ?_
    show mq_G mq_X0_fillsPowers (19, [some (.ref 2), some (.ref b1), some (.int x2), some (.int x3), some (.int x4)], [], (mz_wr M b1 (upd (M.1 b1) x4.toNatClampNeg x3))) res
    rw [← e2]
    refine mz_Go.steps (n := 3) (k2 := (22, [some (.ref 2), some (.ref b1), some (.int x2), some (.int x3), some (.int x4)], [.int x2, .int x3, .ref 2], M2)) (P := []) rfl mz_o0 ?_
    obtain ⟨r5, k5, h⟩ := h
    refine mz_Go.callV (As := [.int x3, .int x2]) (rest := []) (rfl : mz_find 22 (mz_rows mq_X0_fillsPowers) = some (22, .invokevirtual 51, 3, 3, 0, 11)) (rfl : mz_nth mq_tab 3 = some mq_X0_times) rfl rfl rfl rfl (Nat.le_of_ble_eq_true rfl) (Nat.le_of_ble_eq_true rfl) k5 ?_
    show mq_G mq_X0_fillsPowers (25, [some (.ref 2), some (.ref b1), some (.int x2), some (.int x3), some (.int x4)], [.int r5], M2) res
    refine mz_Go.steps (n := 3) (k2 := (5, [some (.ref 2), some (.ref b1), some (.int x2), some (.int r5), some (.int (x4 + 1))], [], M2)) (P := []) rfl mz_o0 ?_
    exact h
set_option maxRecDepth 100000 in
set_option maxHeartbeats 4000000 in
theorem t_X0_fillsConjugates_0 (b1 : Nat) (x2 : Int32) (M : mz_M) {res : mz_O} (h :
    mq_G mq_X0_fillsConjugates (5, [some (.ref 2), some (.ref b1), some (.int x2), some (.int x2), some (.int 0)], [], M) res) :
    mq_G mq_X0_fillsConjugates (0, [some (.ref 2), some (.ref b1), some (.int x2), none, none], [], M) res := by
  refine mz_Go.steps (n := 4) (k2 := (5, [some (.ref 2), some (.ref b1), some (.int x2), some (.int x2), some (.int 0)], [], M)) (P := []) rfl mz_o0 ?_
  exact h
set_option maxRecDepth 100000 in
set_option maxHeartbeats 4000000 in
theorem t_X0_fillsConjugates_5 (b1 : Nat) (o2 : Option Value) (x3 : Int32) (x4 : Int32) (M : mz_M) {res : mz_O} (h :
    (((M.1 2 1) ≤ x4 →
      res = (none, M)) ∧
    (¬ ((M.1 2 1) ≤ x4) →
      (mz_nth mq_sk b1 = some (.inl (0, 8, []))) ∧
      (vp_in x4 8) ∧
      (∀ M2 : mz_M, M2 = mz_wr M b1 (upd (M.1 b1) x4.toNatClampNeg x3) →
      (∃ (r5 : Int32), (mq_C mq_X0_times [.ref 2, .int x3, .int x3] M2 (some (.int r5), M2)) ∧
      mq_G mq_X0_fillsConjugates (5, [some (.ref 2), some (.ref b1), (mz_nw o2), some (.int r5), some (.int (x4 + 1))], [], M2) res))))) :
    mq_G mq_X0_fillsConjugates (5, [some (.ref 2), some (.ref b1), o2, some (.int x3), some (.int x4)], [], M) res := by
  refine mz_Go.steps (n := 4) (k2 := (if (M.1 2 1) ≤ x4 then 32 else 14, [some (.ref 2), some (.ref b1), o2, some (.int x3), some (.int x4)], [], M)) (P := []) rfl mz_o0 ?_
  refine mz_Go.ite (fun c11 => ?_) (fun c11 => ?_)
  · replace h := h.1 c11
    rw [h]
    exact mz_Go.vret (rfl : mz_find 32 (mz_rows mq_X0_fillsConjugates) = some (32, .return_, 1, 0, 0, 0)) rfl
  · replace h := h.2 c11
    refine mz_Go.steps (n := 3) (k2 := (18, [some (.ref 2), some (.ref b1), o2, some (.int x3), some (.int x4)], [.int x3, .int x4, .ref b1], M)) (P := []) rfl mz_o0 ?_
    obtain ⟨q3, q4, h⟩ := h
    obtain ⟨M2, e2⟩ : ∃ y, y = mz_wr M b1 (upd (M.1 b1) x4.toNatClampNeg x3) := ⟨_, rfl⟩
    replace h := h M2 e2
    refine mz_Go.iast (rfl : mz_find 18 (mz_rows mq_X0_fillsConjugates) = some (18, .iastore, 1, 0, 0, 0)) q3 q4 ?_
    show mq_G mq_X0_fillsConjugates (19, [some (.ref 2), some (.ref b1), o2, some (.int x3), some (.int x4)], [], (mz_wr M b1 (upd (M.1 b1) x4.toNatClampNeg x3))) res
    rw [← e2]
    refine mz_Go.steps (n := 3) (k2 := (22, [some (.ref 2), some (.ref b1), o2, some (.int x3), some (.int x4)], [.int x3, .int x3, .ref 2], M2)) (P := []) rfl mz_o0 ?_
    obtain ⟨r5, k5, h⟩ := h
    refine mz_Go.callV (As := [.int x3, .int x3]) (rest := []) (rfl : mz_find 22 (mz_rows mq_X0_fillsConjugates) = some (22, .invokevirtual 51, 3, 3, 0, 11)) (rfl : mz_nth mq_tab 3 = some mq_X0_times) rfl rfl rfl rfl (Nat.le_of_ble_eq_true rfl) (Nat.le_of_ble_eq_true rfl) k5 ?_
    show mq_G mq_X0_fillsConjugates (25, [some (.ref 2), some (.ref b1), o2, some (.int x3), some (.int x4)], [.int r5], M2) res
    refine mz_Go.steps (n := 3) (k2 := (5, [some (.ref 2), some (.ref b1), (mz_nw o2), some (.int r5), some (.int (x4 + 1))], [], M2)) (P := []) rfl mz_o0 ?_
    exact h
set_option maxRecDepth 100000 in
set_option maxHeartbeats 4000000 in
theorem t_X1_empties_0 (M : mz_M) {res : mz_O} (h :
    mq_G mq_X1_empties (2, [some (.ref 5), some (.int 0)], [], M) res) :
    mq_G mq_X1_empties (0, [some (.ref 5), none], [], M) res := by
  refine mz_Go.steps (n := 2) (k2 := (2, [some (.ref 5), some (.int 0)], [], M)) (P := []) rfl mz_o0 ?_
  exact h
set_option maxRecDepth 100000 in
set_option maxHeartbeats 4000000 in
theorem t_X1_empties_2 (x1 : Int32) (M : mz_M) {res : mz_O} (h :
    ((8 ≤ x1 →
      (∀ M2 : mz_M, M2 = mz_wr M 5 (upd (M.1 5) 2 0) →
      res = (none, M2))) ∧
    (¬ (8 ≤ x1) →
      (vp_in x1 8) ∧
      (∀ M3 : mz_M, M3 = mz_wr M 6 (upd (M.1 6) x1.toNatClampNeg 0) →
      (vp_in x1 8) ∧
      (∀ M5 : mz_M, M5 = mz_wr M3 7 (upd (M3.1 7) x1.toNatClampNeg 0) →
      mq_G mq_X1_empties (2, [some (.ref 5), some (.int (x1 + 1))], [], M5) res))))) :
    mq_G mq_X1_empties (2, [some (.ref 5), some (.int x1)], [], M) res := by
  refine mz_Go.steps (n := 3) (k2 := (if 8 ≤ x1 then 28 else 8, [some (.ref 5), some (.int x1)], [], M)) (P := []) rfl mz_o0 ?_
  refine mz_Go.ite (fun c5 => ?_) (fun c5 => ?_)
  · replace h := h.1 c5
    obtain ⟨M2, e2⟩ : ∃ y, y = mz_wr M 5 (upd (M.1 5) 2 0) := ⟨_, rfl⟩
    replace h := h M2 e2
    refine mz_Go.steps (n := 3) (k2 := (33, [some (.ref 5), some (.int x1)], [], (mz_wr M 5 (upd (M.1 5) 2 0)))) (P := []) rfl mz_o0 ?_
    rw [← e2]
    rw [h]
    exact mz_Go.vret (rfl : mz_find 33 (mz_rows mq_X1_empties) = some (33, .return_, 1, 0, 0, 0)) rfl
  · replace h := h.2 c5
    obtain ⟨q4, h⟩ := h
    obtain ⟨M3, e3⟩ : ∃ y, y = mz_wr M 6 (upd (M.1 6) x1.toNatClampNeg 0) := ⟨_, rfl⟩
    replace h := h M3 e3
    refine mz_Go.steps (n := 5) (k2 := (15, [some (.ref 5), some (.int x1)], [], (mz_wr M 6 (upd (M.1 6) x1.toNatClampNeg 0)))) (P := [vp_in x1 8]) rfl (mz_o1 q4) ?_
    rw [← e3]
    obtain ⟨q6, h⟩ := h
    obtain ⟨M5, e5⟩ : ∃ y, y = mz_wr M3 7 (upd (M3.1 7) x1.toNatClampNeg 0) := ⟨_, rfl⟩
    replace h := h M5 e5
    refine mz_Go.steps (n := 5) (k2 := (22, [some (.ref 5), some (.int x1)], [], (mz_wr M3 7 (upd (M3.1 7) x1.toNatClampNeg 0)))) (P := [vp_in x1 8]) rfl (mz_o1 q6) ?_
    rw [← e5]
    refine mz_Go.steps (n := 2) (k2 := (2, [some (.ref 5), some (.int (x1 + 1))], [], M5)) (P := []) rfl mz_o0 ?_
    exact h
set_option maxRecDepth 100000 in
set_option maxHeartbeats 4000000 in
theorem t_X1_takes_0 (x1 : Int32) (M : mz_M) {res : mz_O} (h :
    mq_G mq_X1_takes (8, [some (.ref 5), some (.int x1), some (.int x1), some (.int 0), some (.int 7)], [], M) res) :
    mq_G mq_X1_takes (0, [some (.ref 5), some (.int x1), none, none, none], [], M) res := by
  refine mz_Go.steps (n := 6) (k2 := (8, [some (.ref 5), some (.int x1), some (.int x1), some (.int 0), some (.int 7)], [], M)) (P := []) rfl mz_o0 ?_
  exact h
set_option maxRecDepth 100000 in
set_option maxHeartbeats 4000000 in
theorem t_X1_takes_8 (o1 : Option Value) (x2 : Int32) (x3 : Int32) (x4 : Int32) (M : mz_M) {res : mz_O} (h :
    ((x4 < 0 →
      res = (some (.int 0), M)) ∧
    (¬ (x4 < 0) →
      ((((x2 >>> (x4 &&& 31)) &&& 1) = 0 →
        mq_G mq_X1_takes (8, [some (.ref 5), o1, some (.int x2), some (.int x3), some (.int (x4 + (-1)))], [], M) res) ∧
      (¬ (((x2 >>> (x4 &&& 31)) &&& 1) = 0) →
        (vp_in x4 8) ∧
        ((¬ (M.1 6 x4.toNatClampNeg) = 0 →
          (vp_in x4 8) ∧
          (vp_in x4 8) ∧
          mq_G mq_X1_takes (8, [some (.ref 5), (mz_nw o1), some (.int (x2 ^^^ (M.1 6 x4.toNatClampNeg))), some (.int (x3 ^^^ (M.1 7 x4.toNatClampNeg))), some (.int (x4 + (-1)))], [], M) res) ∧
        (¬ (¬ (M.1 6 x4.toNatClampNeg) = 0) →
          (vp_in x4 8) ∧
          (∀ M7 : mz_M, M7 = mz_wr M 6 (upd (M.1 6) x4.toNatClampNeg x2) →
          (vp_in x4 8) ∧
          (∀ M9 : mz_M, M9 = mz_wr M7 7 (upd (M7.1 7) x4.toNatClampNeg (x3 ^^^ ((1 : Int32) <<< ((M7.1 5 2) &&& 31)))) →
          (∀ M11 : mz_M, M11 = mz_wr M9 5 (upd (M9.1 5) 2 ((M9.1 5 2) + 1)) →
          res = (some (.int 1), M11))))))))))) :
    mq_G mq_X1_takes (8, [some (.ref 5), o1, some (.int x2), some (.int x3), some (.int x4)], [], M) res := by
  refine mz_Go.steps (n := 2) (k2 := (if x4 < 0 then 93 else 13, [some (.ref 5), o1, some (.int x2), some (.int x3), some (.int x4)], [], M)) (P := []) rfl mz_o0 ?_
  refine mz_Go.ite (fun c10 => ?_) (fun c10 => ?_)
  · replace h := h.1 c10
    refine mz_Go.steps (n := 1) (k2 := (94, [some (.ref 5), o1, some (.int x2), some (.int x3), some (.int x4)], [.int 0], M)) (P := []) rfl mz_o0 ?_
    rw [h]
    exact mz_Go.zret (rfl : mz_find 94 (mz_rows mq_X1_takes) = some (94, .ireturn, 1, 0, 0, 0)) rfl (Or.inl rfl)
  · replace h := h.2 c10
    refine mz_Go.steps (n := 6) (k2 := (if ((x2 >>> (x4 &&& 31)) &&& 1) = 0 then 87 else 22, [some (.ref 5), o1, some (.int x2), some (.int x3), some (.int x4)], [], M)) (P := []) rfl mz_o0 ?_
    refine mz_Go.ite (fun c19 => ?_) (fun c19 => ?_)
    · replace h := h.1 c19
      refine mz_Go.steps (n := 2) (k2 := (8, [some (.ref 5), o1, some (.int x2), some (.int x3), some (.int (x4 + (-1)))], [], M)) (P := []) rfl mz_o0 ?_
      exact h
    · replace h := h.2 c19
      obtain ⟨q4, h⟩ := h
      refine mz_Go.steps (n := 5) (k2 := (if ¬ (M.1 6 x4.toNatClampNeg) = 0 then 67 else 32, [some (.ref 5), o1, some (.int x2), some (.int x3), some (.int x4)], [], M)) (P := [vp_in x4 8]) rfl (mz_o1 q4) ?_
      refine mz_Go.ite (fun c29 => ?_) (fun c29 => ?_)
      · replace h := h.1 c29
        obtain ⟨q5, q6, h⟩ := h
        refine mz_Go.steps (n := 16) (k2 := (8, [some (.ref 5), (mz_nw o1), some (.int (x2 ^^^ (M.1 6 x4.toNatClampNeg))), some (.int (x3 ^^^ (M.1 7 x4.toNatClampNeg))), some (.int (x4 + (-1)))], [], M)) (P := [vp_in x4 8, vp_in x4 8]) rfl (mz_o2 q5 q6) ?_
        exact h
      · replace h := h.2 c29
        obtain ⟨q8, h⟩ := h
        obtain ⟨M7, e7⟩ : ∃ y, y = mz_wr M 6 (upd (M.1 6) x4.toNatClampNeg x2) := ⟨_, rfl⟩
        replace h := h M7 e7
        refine mz_Go.steps (n := 5) (k2 := (40, [some (.ref 5), o1, some (.int x2), some (.int x3), some (.int x4)], [], (mz_wr M 6 (upd (M.1 6) x4.toNatClampNeg x2)))) (P := [vp_in x4 8]) rfl (mz_o1 q8) ?_
        rw [← e7]
        obtain ⟨q10, h⟩ := h
        obtain ⟨M9, e9⟩ : ∃ y, y = mz_wr M7 7 (upd (M7.1 7) x4.toNatClampNeg (x3 ^^^ ((1 : Int32) <<< ((M7.1 5 2) &&& 31)))) := ⟨_, rfl⟩
        replace h := h M9 e9
        refine mz_Go.steps (n := 10) (k2 := (55, [some (.ref 5), o1, some (.int x2), some (.int x3), some (.int x4)], [], (mz_wr M7 7 (upd (M7.1 7) x4.toNatClampNeg (x3 ^^^ ((1 : Int32) <<< ((M7.1 5 2) &&& 31))))))) (P := [vp_in x4 8]) rfl (mz_o1 q10) ?_
        rw [← e9]
        obtain ⟨M11, e11⟩ : ∃ y, y = mz_wr M9 5 (upd (M9.1 5) 2 ((M9.1 5 2) + 1)) := ⟨_, rfl⟩
        replace h := h M11 e11
        refine mz_Go.steps (n := 6) (k2 := (65, [some (.ref 5), o1, some (.int x2), some (.int x3), some (.int x4)], [], (mz_wr M9 5 (upd (M9.1 5) 2 ((M9.1 5 2) + 1))))) (P := []) rfl mz_o0 ?_
        rw [← e11]
        refine mz_Go.steps (n := 1) (k2 := (66, [some (.ref 5), o1, some (.int x2), some (.int x3), some (.int x4)], [.int 1], M11)) (P := []) rfl mz_o0 ?_
        rw [h]
        exact mz_Go.zret (rfl : mz_find 66 (mz_rows mq_X1_takes) = some (66, .ireturn, 1, 0, 0, 0)) rfl (Or.inr rfl)
set_option maxRecDepth 100000 in
set_option maxHeartbeats 4000000 in
theorem t_X1_holds_0 (b1 : Nat) (x2 : Int32) (M : mz_M) {res : mz_O} (h :
    (∃ (M1 : mz_M), (mq_C mq_X1_empties [.ref 5] M (none, M1)) ∧
    mq_G mq_X1_holds (6, [some (.ref 5), some (.ref b1), some (.int x2), some (.int 0)], [], M1) res)) :
    mq_G mq_X1_holds (0, [some (.ref 5), some (.ref b1), some (.int x2), none], [], M) res := by
  refine mz_Go.steps (n := 1) (k2 := (1, [some (.ref 5), some (.ref b1), some (.int x2), none], [.ref 5], M)) (P := []) rfl mz_o0 ?_
  obtain ⟨M1, k1, h⟩ := h
  refine mz_Go.callV (As := []) (rest := []) (rfl : mz_find 1 (mz_rows mq_X1_holds) = some (1, .invokevirtual 22, 3, 18, 0, 18)) (rfl : mz_nth mq_tab 18 = some mq_X1_empties) rfl rfl rfl rfl (Nat.le_of_ble_eq_true rfl) (Nat.le_of_ble_eq_true rfl) k1 ?_
  show mq_G mq_X1_holds (4, [some (.ref 5), some (.ref b1), some (.int x2), none], [], M1) res
  refine mz_Go.steps (n := 2) (k2 := (6, [some (.ref 5), some (.ref b1), some (.int x2), some (.int 0)], [], M1)) (P := []) rfl mz_o0 ?_
  exact h
set_option maxRecDepth 100000 in
set_option maxHeartbeats 4000000 in
theorem t_X1_holds_6 (b1 : Nat) (x2 : Int32) (x3 : Int32) (M : mz_M) {res : mz_O} (h :
    ((x2 ≤ x3 →
      ((¬ (M.1 5 2) = x2 →
        res = (some (.int 0), M)) ∧
      (¬ (¬ (M.1 5 2) = x2) →
        res = (some (.int 1), M)))) ∧
    (¬ (x2 ≤ x3) →
      (mz_nth mq_sk b1 = some (.inl (0, 8, []))) ∧
      (vp_in x3 8) ∧
      (∃ (r5 : Int32) (M5 : mz_M), (mq_C mq_X1_takes [.ref 5, .int (M.1 b1 x3.toNatClampNeg)] M (some (.int r5), M5)) ∧
      mq_G mq_X1_holds (6, [some (.ref 5), some (.ref b1), some (.int x2), some (.int (x3 + 1))], [], M5) res)))) :
    mq_G mq_X1_holds (6, [some (.ref 5), some (.ref b1), some (.int x2), some (.int x3)], [], M) res := by
  refine mz_Go.steps (n := 3) (k2 := (if x2 ≤ x3 then 25 else 11, [some (.ref 5), some (.ref b1), some (.int x2), some (.int x3)], [], M)) (P := []) rfl mz_o0 ?_
  refine mz_Go.ite (fun c8 => ?_) (fun c8 => ?_)
  · replace h := h.1 c8
    refine mz_Go.steps (n := 4) (k2 := (if ¬ (M.1 5 2) = x2 then 37 else 33, [some (.ref 5), some (.ref b1), some (.int x2), some (.int x3)], [], M)) (P := []) rfl mz_o0 ?_
    refine mz_Go.ite (fun c30 => ?_) (fun c30 => ?_)
    · replace h := h.1 c30
      refine mz_Go.steps (n := 1) (k2 := (38, [some (.ref 5), some (.ref b1), some (.int x2), some (.int x3)], [.int 0], M)) (P := []) rfl mz_o0 ?_
      rw [h]
      exact mz_Go.zret (rfl : mz_find 38 (mz_rows mq_X1_holds) = some (38, .ireturn, 1, 0, 0, 0)) rfl (Or.inl rfl)
    · replace h := h.2 c30
      refine mz_Go.steps (n := 2) (k2 := (38, [some (.ref 5), some (.ref b1), some (.int x2), some (.int x3)], [.int 1], M)) (P := []) rfl mz_o0 ?_
      rw [h]
      exact mz_Go.zret (rfl : mz_find 38 (mz_rows mq_X1_holds) = some (38, .ireturn, 1, 0, 0, 0)) rfl (Or.inr rfl)
  · replace h := h.2 c8
    refine mz_Go.steps (n := 3) (k2 := (14, [some (.ref 5), some (.ref b1), some (.int x2), some (.int x3)], [.int x3, .ref b1, .ref 5], M)) (P := []) rfl mz_o0 ?_
    obtain ⟨q3, q4, h⟩ := h
    refine mz_Go.iald (rfl : mz_find 14 (mz_rows mq_X1_holds) = some (14, .iaload, 1, 0, 0, 0)) q3 q4 ?_
    show mq_G mq_X1_holds (15, [some (.ref 5), some (.ref b1), some (.int x2), some (.int x3)], [.int (M.1 b1 x3.toNatClampNeg), .ref 5], M) res
    obtain ⟨r5, M5, k5, h⟩ := h
    refine mz_Go.callV (As := [.int (M.1 b1 x3.toNatClampNeg)]) (rest := []) (rfl : mz_find 15 (mz_rows mq_X1_holds) = some (15, .invokevirtual 25, 3, 19, 0, 19)) (rfl : mz_nth mq_tab 19 = some mq_X1_takes) rfl rfl rfl rfl (Nat.le_of_ble_eq_true rfl) (Nat.le_of_ble_eq_true rfl) k5 ?_
    show mq_G mq_X1_holds (18, [some (.ref 5), some (.ref b1), some (.int x2), some (.int x3)], [.int r5], M5) res
    refine mz_Go.steps (n := 3) (k2 := (6, [some (.ref 5), some (.ref b1), some (.int x2), some (.int (x3 + 1))], [], M5)) (P := []) rfl mz_o0 ?_
    exact h
set_option maxRecDepth 100000 in
set_option maxHeartbeats 4000000 in
theorem t_X1_located_0 (x1 : Int32) (M : mz_M) {res : mz_O} (h :
    mq_G mq_X1_located (8, [some (.ref 5), some (.int x1), some (.int x1), some (.int 0), some (.int 7)], [], M) res) :
    mq_G mq_X1_located (0, [some (.ref 5), some (.int x1), none, none, none], [], M) res := by
  refine mz_Go.steps (n := 6) (k2 := (8, [some (.ref 5), some (.int x1), some (.int x1), some (.int 0), some (.int 7)], [], M)) (P := []) rfl mz_o0 ?_
  exact h
set_option maxRecDepth 100000 in
set_option maxHeartbeats 4000000 in
theorem t_X1_located_8 (o1 : Option Value) (x2 : Int32) (x3 : Int32) (x4 : Int32) (M : mz_M) {res : mz_O} (h :
    ((x4 < 0 →
      res = (some (.int x3), M)) ∧
    (¬ (x4 < 0) →
      ((((x2 >>> (x4 &&& 31)) &&& 1) = 0 →
        mq_G mq_X1_located (8, [some (.ref 5), o1, some (.int x2), some (.int x3), some (.int (x4 + (-1)))], [], M) res) ∧
      (¬ (((x2 >>> (x4 &&& 31)) &&& 1) = 0) →
        (vp_in x4 8) ∧
        (vp_in x4 8) ∧
        mq_G mq_X1_located (8, [some (.ref 5), (mz_nw o1), some (.int (x2 ^^^ (M.1 6 x4.toNatClampNeg))), some (.int (x3 ^^^ (M.1 7 x4.toNatClampNeg))), some (.int (x4 + (-1)))], [], M) res))))) :
    mq_G mq_X1_located (8, [some (.ref 5), o1, some (.int x2), some (.int x3), some (.int x4)], [], M) res := by
  refine mz_Go.steps (n := 2) (k2 := (if x4 < 0 then 48 else 13, [some (.ref 5), o1, some (.int x2), some (.int x3), some (.int x4)], [], M)) (P := []) rfl mz_o0 ?_
  refine mz_Go.ite (fun c10 => ?_) (fun c10 => ?_)
  · replace h := h.1 c10
    refine mz_Go.steps (n := 1) (k2 := (49, [some (.ref 5), o1, some (.int x2), some (.int x3), some (.int x4)], [.int x3], M)) (P := []) rfl mz_o0 ?_
    rw [h]
    exact mz_Go.iret (rfl : mz_find 49 (mz_rows mq_X1_located) = some (49, .ireturn, 1, 0, 0, 0)) rfl
  · replace h := h.2 c10
    refine mz_Go.steps (n := 6) (k2 := (if ((x2 >>> (x4 &&& 31)) &&& 1) = 0 then 42 else 22, [some (.ref 5), o1, some (.int x2), some (.int x3), some (.int x4)], [], M)) (P := []) rfl mz_o0 ?_
    refine mz_Go.ite (fun c19 => ?_) (fun c19 => ?_)
    · replace h := h.1 c19
      refine mz_Go.steps (n := 2) (k2 := (8, [some (.ref 5), o1, some (.int x2), some (.int x3), some (.int (x4 + (-1)))], [], M)) (P := []) rfl mz_o0 ?_
      exact h
    · replace h := h.2 c19
      obtain ⟨q3, q4, h⟩ := h
      refine mz_Go.steps (n := 16) (k2 := (8, [some (.ref 5), (mz_nw o1), some (.int (x2 ^^^ (M.1 6 x4.toNatClampNeg))), some (.int (x3 ^^^ (M.1 7 x4.toNatClampNeg))), some (.int (x4 + (-1)))], [], M)) (P := [vp_in x4 8, vp_in x4 8]) rfl (mz_o2 q3 q4) ?_
      exact h
set_option maxRecDepth 100000 in
set_option maxHeartbeats 4000000 in
theorem t_X2_complexityOf_0 (b1 : Nat) (M : mz_M) {res : mz_O} (h :
    (∃ (r1 : Int32) (M1 : mz_M), (mq_C mq_X1_holds [.ref 5, .ref b1, .int (M.1 2 1)] M (some (.int r1), M1)) ∧
    (∃ (r2 : Int32), (mq_C mq_X2_bitsOfFirst [.ref 1, .ref b1] M1 (some (.int r2), M1)) ∧
    res = (some (.int r2), M1)))) :
    mq_G mq_X2_complexityOf (0, [some (.ref 1), some (.ref b1)], [], M) res := by
  refine mz_Go.steps (n := 6) (k2 := (12, [some (.ref 1), some (.ref b1)], [.int (M.1 2 1), .ref b1, .ref 5], M)) (P := []) rfl mz_o0 ?_
  obtain ⟨r1, M1, k1, h⟩ := h
  refine mz_Go.callV (As := [.ref b1, .int (M.1 2 1)]) (rest := []) (rfl : mz_find 12 (mz_rows mq_X2_complexityOf) = some (12, .invokevirtual 29, 3, 20, 0, 23)) (rfl : mz_nth mq_tab 20 = some mq_X1_holds) rfl rfl rfl rfl (Nat.le_of_ble_eq_true rfl) (Nat.le_of_ble_eq_true rfl) k1 ?_
  show mq_G mq_X2_complexityOf (15, [some (.ref 1), some (.ref b1)], [.int r1], M1) res
  refine mz_Go.steps (n := 3) (k2 := (18, [some (.ref 1), some (.ref b1)], [.ref b1, .ref 1], M1)) (P := []) rfl mz_o0 ?_
  obtain ⟨r2, k2, h⟩ := h
  refine mz_Go.callV (As := [.ref b1]) (rest := []) (rfl : mz_find 18 (mz_rows mq_X2_complexityOf) = some (18, .invokevirtual 33, 3, 23, 0, 24)) (rfl : mz_nth mq_tab 23 = some mq_X2_bitsOfFirst) rfl rfl rfl rfl (Nat.le_of_ble_eq_true rfl) (Nat.le_of_ble_eq_true rfl) k2 ?_
  show mq_G mq_X2_complexityOf (21, [some (.ref 1), some (.ref b1)], [.int r2], M1) res
  rw [h]
  exact mz_Go.iret (rfl : mz_find 21 (mz_rows mq_X2_complexityOf) = some (21, .ireturn, 1, 0, 0, 0)) rfl
set_option maxRecDepth 100000 in
set_option maxHeartbeats 4000000 in
theorem t_X2_bitsOfFirst_0 (b1 : Nat) (M : mz_M) {res : mz_O} (h :
    mq_G mq_X2_bitsOfFirst (4, [some (.ref 1), some (.ref b1), some (.int 0), some (.int 0)], [], M) res) :
    mq_G mq_X2_bitsOfFirst (0, [some (.ref 1), some (.ref b1), none, none], [], M) res := by
  refine mz_Go.steps (n := 4) (k2 := (4, [some (.ref 1), some (.ref b1), some (.int 0), some (.int 0)], [], M)) (P := []) rfl mz_o0 ?_
  exact h
set_option maxRecDepth 100000 in
set_option maxHeartbeats 4000000 in
theorem t_X2_bitsOfFirst_4 (b1 : Nat) (x2 : Int32) (x3 : Int32) (M : mz_M) {res : mz_O} (h :
    (((M.1 2 1) ≤ x3 →
      res = (some (.int x2), M)) ∧
    (¬ ((M.1 2 1) ≤ x3) →
      (mz_nth mq_sk b1 = some (.inl (0, 8, []))) ∧
      (vp_in 0 8) ∧
      (mz_nth mq_sk b1 = some (.inl (0, 8, []))) ∧
      (vp_in x3 8) ∧
      (∃ (r6 : Int32), (mq_C mq_X0_times [.ref 2, .int (M.1 b1 (0 : Int32).toNatClampNeg), .int (M.1 b1 x3.toNatClampNeg)] M (some (.int r6), M)) ∧
      (∃ (r7 : Int32), (mq_C mq_X1_located [.ref 5, .int r6] M (some (.int r7), M)) ∧
      (∃ (r8 : Int32), (mq_C mq_J6_bitCount_0f7a4 [.int r7] M (some (.int r8), M)) ∧
      mq_G mq_X2_bitsOfFirst (4, [some (.ref 1), some (.ref b1), some (.int (x2 + r8)), some (.int (x3 + 1))], [], M) res)))))) :
    mq_G mq_X2_bitsOfFirst (4, [some (.ref 1), some (.ref b1), some (.int x2), some (.int x3)], [], M) res := by
  refine mz_Go.steps (n := 5) (k2 := (if (M.1 2 1) ≤ x3 then 47 else 15, [some (.ref 1), some (.ref b1), some (.int x2), some (.int x3)], [], M)) (P := []) rfl mz_o0 ?_
  refine mz_Go.ite (fun c12 => ?_) (fun c12 => ?_)
  · replace h := h.1 c12
    refine mz_Go.steps (n := 1) (k2 := (48, [some (.ref 1), some (.ref b1), some (.int x2), some (.int x3)], [.int x2], M)) (P := []) rfl mz_o0 ?_
    rw [h]
    exact mz_Go.iret (rfl : mz_find 48 (mz_rows mq_X2_bitsOfFirst) = some (48, .ireturn, 1, 0, 0, 0)) rfl
  · replace h := h.2 c12
    refine mz_Go.steps (n := 7) (k2 := (26, [some (.ref 1), some (.ref b1), some (.int x2), some (.int x3)], [.int 0, .ref b1, .ref 2, .ref 5, .int x2], M)) (P := []) rfl mz_o0 ?_
    obtain ⟨q2, q3, h⟩ := h
    refine mz_Go.iald (rfl : mz_find 26 (mz_rows mq_X2_bitsOfFirst) = some (26, .iaload, 1, 0, 0, 0)) q2 q3 ?_
    show mq_G mq_X2_bitsOfFirst (27, [some (.ref 1), some (.ref b1), some (.int x2), some (.int x3)], [.int (M.1 b1 (0 : Int32).toNatClampNeg), .ref 2, .ref 5, .int x2], M) res
    refine mz_Go.steps (n := 2) (k2 := (29, [some (.ref 1), some (.ref b1), some (.int x2), some (.int x3)], [.int x3, .ref b1, .int (M.1 b1 (0 : Int32).toNatClampNeg), .ref 2, .ref 5, .int x2], M)) (P := []) rfl mz_o0 ?_
    obtain ⟨q4, q5, h⟩ := h
    refine mz_Go.iald (rfl : mz_find 29 (mz_rows mq_X2_bitsOfFirst) = some (29, .iaload, 1, 0, 0, 0)) q4 q5 ?_
    show mq_G mq_X2_bitsOfFirst (30, [some (.ref 1), some (.ref b1), some (.int x2), some (.int x3)], [.int (M.1 b1 x3.toNatClampNeg), .int (M.1 b1 (0 : Int32).toNatClampNeg), .ref 2, .ref 5, .int x2], M) res
    obtain ⟨r6, k6, h⟩ := h
    refine mz_Go.callV (As := [.int (M.1 b1 (0 : Int32).toNatClampNeg), .int (M.1 b1 x3.toNatClampNeg)]) (rest := [.ref 5, .int x2]) (rfl : mz_find 30 (mz_rows mq_X2_bitsOfFirst) = some (30, .invokevirtual 37, 3, 3, 0, 25)) (rfl : mz_nth mq_tab 3 = some mq_X0_times) rfl rfl rfl rfl (Nat.le_of_ble_eq_true rfl) (Nat.le_of_ble_eq_true rfl) k6 ?_
    show mq_G mq_X2_bitsOfFirst (33, [some (.ref 1), some (.ref b1), some (.int x2), some (.int x3)], [.int r6, .ref 5, .int x2], M) res
    obtain ⟨r7, k7, h⟩ := h
    refine mz_Go.callV (As := [.int r6]) (rest := [.int x2]) (rfl : mz_find 33 (mz_rows mq_X2_bitsOfFirst) = some (33, .invokevirtual 41, 3, 21, 0, 26)) (rfl : mz_nth mq_tab 21 = some mq_X1_located) rfl rfl rfl rfl (Nat.le_of_ble_eq_true rfl) (Nat.le_of_ble_eq_true rfl) k7 ?_
    show mq_G mq_X2_bitsOfFirst (36, [some (.ref 1), some (.ref b1), some (.int x2), some (.int x3)], [.int r7, .int x2], M) res
    obtain ⟨r8, k8, h⟩ := h
    refine mz_Go.callS (As := [.int r7]) (rest := [.int x2]) (rfl : mz_find 36 (mz_rows mq_X2_bitsOfFirst) = some (36, .invokestatic 45, 3, 252, 0, 27)) (rfl : mz_nth mq_tab 252 = some mq_J6_bitCount_0f7a4) (by decide) rfl rfl rfl (Nat.le_of_ble_eq_true rfl) (Nat.le_of_ble_eq_true rfl) k8 ?_
    show mq_G mq_X2_bitsOfFirst (39, [some (.ref 1), some (.ref b1), some (.int x2), some (.int x3)], [.int r8, .int x2], M) res
    refine mz_Go.steps (n := 4) (k2 := (4, [some (.ref 1), some (.ref b1), some (.int (x2 + r8)), some (.int (x3 + 1))], [], M)) (P := []) rfl mz_o0 ?_
    exact h
set_option maxRecDepth 100000 in
set_option maxHeartbeats 4000000 in
theorem t_X2_bitsOfAll_0 (b1 : Nat) (M : mz_M) {res : mz_O} (h :
    mq_G mq_X2_bitsOfAll (4, [some (.ref 1), some (.ref b1), some (.int 0), some (.int 0), none], [], M) res) :
    mq_G mq_X2_bitsOfAll (0, [some (.ref 1), some (.ref b1), none, none, none], [], M) res := by
  refine mz_Go.steps (n := 4) (k2 := (4, [some (.ref 1), some (.ref b1), some (.int 0), some (.int 0), none], [], M)) (P := []) rfl mz_o0 ?_
  exact h
set_option maxRecDepth 100000 in
set_option maxHeartbeats 4000000 in
theorem t_X2_bitsOfAll_4 (b1 : Nat) (x2 : Int32) (x3 : Int32) (o4 : Option Value) (M : mz_M) {res : mz_O} (h :
    (((M.1 2 1) ≤ x3 →
      res = (some (.int x2), M)) ∧
    (¬ ((M.1 2 1) ≤ x3) →
      mq_G mq_X2_bitsOfAll (18, [some (.ref 1), some (.ref b1), some (.int x2), some (.int x3), some (.int 0)], [], M) res))) :
    mq_G mq_X2_bitsOfAll (4, [some (.ref 1), some (.ref b1), some (.int x2), some (.int x3), o4], [], M) res := by
  refine mz_Go.steps (n := 5) (k2 := (if (M.1 2 1) ≤ x3 then 63 else 15, [some (.ref 1), some (.ref b1), some (.int x2), some (.int x3), o4], [], M)) (P := []) rfl mz_o0 ?_
  refine mz_Go.ite (fun c12 => ?_) (fun c12 => ?_)
  · replace h := h.1 c12
    refine mz_Go.steps (n := 1) (k2 := (64, [some (.ref 1), some (.ref b1), some (.int x2), some (.int x3), o4], [.int x2], M)) (P := []) rfl mz_o0 ?_
    rw [h]
    exact mz_Go.iret (rfl : mz_find 64 (mz_rows mq_X2_bitsOfAll) = some (64, .ireturn, 1, 0, 0, 0)) rfl
  · replace h := h.2 c12
    refine mz_Go.steps (n := 2) (k2 := (18, [some (.ref 1), some (.ref b1), some (.int x2), some (.int x3), some (.int 0)], [], M)) (P := []) rfl mz_o0 ?_
    exact h
set_option maxRecDepth 100000 in
set_option maxHeartbeats 4000000 in
theorem t_X2_bitsOfAll_18 (b1 : Nat) (x2 : Int32) (x3 : Int32) (x4 : Int32) (M : mz_M) {res : mz_O} (h :
    ((x3 < x4 →
      mq_G mq_X2_bitsOfAll (4, [some (.ref 1), some (.ref b1), some (.int x2), some (.int (x3 + 1)), some (.int x4)], [], M) res) ∧
    (¬ (x3 < x4) →
      (mz_nth mq_sk b1 = some (.inl (0, 8, []))) ∧
      (vp_in x4 8) ∧
      (mz_nth mq_sk b1 = some (.inl (0, 8, []))) ∧
      (vp_in x3 8) ∧
      (∃ (r6 : Int32), (mq_C mq_X0_times [.ref 2, .int (M.1 b1 x4.toNatClampNeg), .int (M.1 b1 x3.toNatClampNeg)] M (some (.int r6), M)) ∧
      (∃ (r7 : Int32), (mq_C mq_X1_located [.ref 5, .int r6] M (some (.int r7), M)) ∧
      (∃ (r8 : Int32), (mq_C mq_J6_bitCount_0f7a4 [.int r7] M (some (.int r8), M)) ∧
      mq_G mq_X2_bitsOfAll (18, [some (.ref 1), some (.ref b1), some (.int (x2 + r8)), some (.int x3), some (.int (x4 + 1))], [], M) res)))))) :
    mq_G mq_X2_bitsOfAll (18, [some (.ref 1), some (.ref b1), some (.int x2), some (.int x3), some (.int x4)], [], M) res := by
  refine mz_Go.steps (n := 3) (k2 := (if x3 < x4 then 57 else 24, [some (.ref 1), some (.ref b1), some (.int x2), some (.int x3), some (.int x4)], [], M)) (P := []) rfl mz_o0 ?_
  refine mz_Go.ite (fun c21 => ?_) (fun c21 => ?_)
  · replace h := h.1 c21
    refine mz_Go.steps (n := 2) (k2 := (4, [some (.ref 1), some (.ref b1), some (.int x2), some (.int (x3 + 1)), some (.int x4)], [], M)) (P := []) rfl mz_o0 ?_
    exact h
  · replace h := h.2 c21
    refine mz_Go.steps (n := 7) (k2 := (36, [some (.ref 1), some (.ref b1), some (.int x2), some (.int x3), some (.int x4)], [.int x4, .ref b1, .ref 2, .ref 5, .int x2], M)) (P := []) rfl mz_o0 ?_
    obtain ⟨q2, q3, h⟩ := h
    refine mz_Go.iald (rfl : mz_find 36 (mz_rows mq_X2_bitsOfAll) = some (36, .iaload, 1, 0, 0, 0)) q2 q3 ?_
    show mq_G mq_X2_bitsOfAll (37, [some (.ref 1), some (.ref b1), some (.int x2), some (.int x3), some (.int x4)], [.int (M.1 b1 x4.toNatClampNeg), .ref 2, .ref 5, .int x2], M) res
    refine mz_Go.steps (n := 2) (k2 := (39, [some (.ref 1), some (.ref b1), some (.int x2), some (.int x3), some (.int x4)], [.int x3, .ref b1, .int (M.1 b1 x4.toNatClampNeg), .ref 2, .ref 5, .int x2], M)) (P := []) rfl mz_o0 ?_
    obtain ⟨q4, q5, h⟩ := h
    refine mz_Go.iald (rfl : mz_find 39 (mz_rows mq_X2_bitsOfAll) = some (39, .iaload, 1, 0, 0, 0)) q4 q5 ?_
    show mq_G mq_X2_bitsOfAll (40, [some (.ref 1), some (.ref b1), some (.int x2), some (.int x3), some (.int x4)], [.int (M.1 b1 x3.toNatClampNeg), .int (M.1 b1 x4.toNatClampNeg), .ref 2, .ref 5, .int x2], M) res
    obtain ⟨r6, k6, h⟩ := h
    refine mz_Go.callV (As := [.int (M.1 b1 x4.toNatClampNeg), .int (M.1 b1 x3.toNatClampNeg)]) (rest := [.ref 5, .int x2]) (rfl : mz_find 40 (mz_rows mq_X2_bitsOfAll) = some (40, .invokevirtual 37, 3, 3, 0, 25)) (rfl : mz_nth mq_tab 3 = some mq_X0_times) rfl rfl rfl rfl (Nat.le_of_ble_eq_true rfl) (Nat.le_of_ble_eq_true rfl) k6 ?_
    show mq_G mq_X2_bitsOfAll (43, [some (.ref 1), some (.ref b1), some (.int x2), some (.int x3), some (.int x4)], [.int r6, .ref 5, .int x2], M) res
    obtain ⟨r7, k7, h⟩ := h
    refine mz_Go.callV (As := [.int r6]) (rest := [.int x2]) (rfl : mz_find 43 (mz_rows mq_X2_bitsOfAll) = some (43, .invokevirtual 41, 3, 21, 0, 26)) (rfl : mz_nth mq_tab 21 = some mq_X1_located) rfl rfl rfl rfl (Nat.le_of_ble_eq_true rfl) (Nat.le_of_ble_eq_true rfl) k7 ?_
    show mq_G mq_X2_bitsOfAll (46, [some (.ref 1), some (.ref b1), some (.int x2), some (.int x3), some (.int x4)], [.int r7, .int x2], M) res
    obtain ⟨r8, k8, h⟩ := h
    refine mz_Go.callS (As := [.int r7]) (rest := [.int x2]) (rfl : mz_find 46 (mz_rows mq_X2_bitsOfAll) = some (46, .invokestatic 45, 3, 252, 0, 27)) (rfl : mz_nth mq_tab 252 = some mq_J6_bitCount_0f7a4) (by decide) rfl rfl rfl (Nat.le_of_ble_eq_true rfl) (Nat.le_of_ble_eq_true rfl) k8 ?_
    show mq_G mq_X2_bitsOfAll (49, [some (.ref 1), some (.ref b1), some (.int x2), some (.int x3), some (.int x4)], [.int r8, .int x2], M) res
    refine mz_Go.steps (n := 4) (k2 := (18, [some (.ref 1), some (.ref b1), some (.int (x2 + r8)), some (.int x3), some (.int (x4 + 1))], [], M)) (P := []) rfl mz_o0 ?_
    exact h
set_option maxRecDepth 100000 in
set_option maxHeartbeats 4000000 in
theorem t_X2_whoseNormal_0 (b1 : Nat) (M : mz_M) {res : mz_O} (h :
    mq_G mq_X2_whoseNormal (2, [some (.ref 1), some (.ref b1), some (.int 1)], [], M) res) :
    mq_G mq_X2_whoseNormal (0, [some (.ref 1), some (.ref b1), none], [], M) res := by
  refine mz_Go.steps (n := 2) (k2 := (2, [some (.ref 1), some (.ref b1), some (.int 1)], [], M)) (P := []) rfl mz_o0 ?_
  exact h
set_option maxRecDepth 100000 in
set_option maxHeartbeats 4000000 in
theorem t_X2_whoseNormal_2 (b1 : Nat) (x2 : Int32) (M : mz_M) {res : mz_O} (h :
    (((M.1 2 1) ≤ x2 →
      (mz_nth mq_sk b1 = some (.inl (0, 8, []))) ∧
      (vp_in 0 8) ∧
      res = (some (.int (M.1 b1 (0 : Int32).toNatClampNeg)), M)) ∧
    (¬ ((M.1 2 1) ≤ x2) →
      (mz_nth mq_sk b1 = some (.inl (0, 8, []))) ∧
      (vp_in (x2 - 1) 8) ∧
      (mz_nth mq_sk b1 = some (.inl (0, 8, []))) ∧
      (vp_in (x2 - 1) 8) ∧
      (∃ (r8 : Int32), (mq_C mq_X0_times [.ref 2, .int (M.1 b1 (x2 - 1).toNatClampNeg), .int (M.1 b1 (x2 - 1).toNatClampNeg)] M (some (.int r8), M)) ∧
      (mz_nth mq_sk b1 = some (.inl (0, 8, []))) ∧
      (vp_in x2 8) ∧
      ((r8 = (M.1 b1 x2.toNatClampNeg) →
        mq_G mq_X2_whoseNormal (2, [some (.ref 1), some (.ref b1), some (.int (x2 + 1))], [], M) res) ∧
      (¬ (r8 = (M.1 b1 x2.toNatClampNeg)) →
        res = (some (.int (-1)), M))))))) :
    mq_G mq_X2_whoseNormal (2, [some (.ref 1), some (.ref b1), some (.int x2)], [], M) res := by
  refine mz_Go.steps (n := 5) (k2 := (if (M.1 2 1) ≤ x2 then 44 else 13, [some (.ref 1), some (.ref b1), some (.int x2)], [], M)) (P := []) rfl mz_o0 ?_
  refine mz_Go.ite (fun c10 => ?_) (fun c10 => ?_)
  · replace h := h.1 c10
    refine mz_Go.steps (n := 2) (k2 := (46, [some (.ref 1), some (.ref b1), some (.int x2)], [.int 0, .ref b1], M)) (P := []) rfl mz_o0 ?_
    obtain ⟨q2, q3, h⟩ := h
    refine mz_Go.iald (rfl : mz_find 46 (mz_rows mq_X2_whoseNormal) = some (46, .iaload, 1, 0, 0, 0)) q2 q3 ?_
    show mq_G mq_X2_whoseNormal (47, [some (.ref 1), some (.ref b1), some (.int x2)], [.int (M.1 b1 (0 : Int32).toNatClampNeg)], M) res
    rw [h]
    exact mz_Go.iret (rfl : mz_find 47 (mz_rows mq_X2_whoseNormal) = some (47, .ireturn, 1, 0, 0, 0)) rfl
  · replace h := h.2 c10
    refine mz_Go.steps (n := 6) (k2 := (21, [some (.ref 1), some (.ref b1), some (.int x2)], [.int (x2 - 1), .ref b1, .ref 2], M)) (P := []) rfl mz_o0 ?_
    obtain ⟨q4, q5, h⟩ := h
    refine mz_Go.iald (rfl : mz_find 21 (mz_rows mq_X2_whoseNormal) = some (21, .iaload, 1, 0, 0, 0)) q4 q5 ?_
    show mq_G mq_X2_whoseNormal (22, [some (.ref 1), some (.ref b1), some (.int x2)], [.int (M.1 b1 (x2 - 1).toNatClampNeg), .ref 2], M) res
    refine mz_Go.steps (n := 4) (k2 := (26, [some (.ref 1), some (.ref b1), some (.int x2)], [.int (x2 - 1), .ref b1, .int (M.1 b1 (x2 - 1).toNatClampNeg), .ref 2], M)) (P := []) rfl mz_o0 ?_
    obtain ⟨q6, q7, h⟩ := h
    refine mz_Go.iald (rfl : mz_find 26 (mz_rows mq_X2_whoseNormal) = some (26, .iaload, 1, 0, 0, 0)) q6 q7 ?_
    show mq_G mq_X2_whoseNormal (27, [some (.ref 1), some (.ref b1), some (.int x2)], [.int (M.1 b1 (x2 - 1).toNatClampNeg), .int (M.1 b1 (x2 - 1).toNatClampNeg), .ref 2], M) res
    obtain ⟨r8, k8, h⟩ := h
    refine mz_Go.callV (As := [.int (M.1 b1 (x2 - 1).toNatClampNeg), .int (M.1 b1 (x2 - 1).toNatClampNeg)]) (rest := []) (rfl : mz_find 27 (mz_rows mq_X2_whoseNormal) = some (27, .invokevirtual 37, 3, 3, 0, 25)) (rfl : mz_nth mq_tab 3 = some mq_X0_times) rfl rfl rfl rfl (Nat.le_of_ble_eq_true rfl) (Nat.le_of_ble_eq_true rfl) k8 ?_
    show mq_G mq_X2_whoseNormal (30, [some (.ref 1), some (.ref b1), some (.int x2)], [.int r8], M) res
    refine mz_Go.steps (n := 2) (k2 := (32, [some (.ref 1), some (.ref b1), some (.int x2)], [.int x2, .ref b1, .int r8], M)) (P := []) rfl mz_o0 ?_
    obtain ⟨q9, q10, h⟩ := h
    refine mz_Go.iald (rfl : mz_find 32 (mz_rows mq_X2_whoseNormal) = some (32, .iaload, 1, 0, 0, 0)) q9 q10 ?_
    show mq_G mq_X2_whoseNormal (33, [some (.ref 1), some (.ref b1), some (.int x2)], [.int (M.1 b1 x2.toNatClampNeg), .int r8], M) res
    refine mz_Go.steps (n := 1) (k2 := (if r8 = (M.1 b1 x2.toNatClampNeg) then 38 else 36, [some (.ref 1), some (.ref b1), some (.int x2)], [], M)) (P := []) rfl mz_o0 ?_
    refine mz_Go.ite (fun c33 => ?_) (fun c33 => ?_)
    · replace h := h.1 c33
      refine mz_Go.steps (n := 2) (k2 := (2, [some (.ref 1), some (.ref b1), some (.int (x2 + 1))], [], M)) (P := []) rfl mz_o0 ?_
      exact h
    · replace h := h.2 c33
      refine mz_Go.steps (n := 1) (k2 := (37, [some (.ref 1), some (.ref b1), some (.int x2)], [.int (-1)], M)) (P := []) rfl mz_o0 ?_
      rw [h]
      exact mz_Go.iret (rfl : mz_find 37 (mz_rows mq_X2_whoseNormal) = some (37, .ireturn, 1, 0, 0, 0)) rfl
set_option maxRecDepth 100000 in
set_option maxHeartbeats 4000000 in
theorem t_X2_sumAt_0 (b1 : Nat) (x2 : Int32) (M : mz_M) {res : mz_O} (h :
    mq_G mq_X2_sumAt (5, [some (.ref 1), some (.ref b1), some (.int x2), some (.int 0), some (.int 0)], [], M) res) :
    mq_G mq_X2_sumAt (0, [some (.ref 1), some (.ref b1), some (.int x2), none, none], [], M) res := by
  refine mz_Go.steps (n := 4) (k2 := (5, [some (.ref 1), some (.ref b1), some (.int x2), some (.int 0), some (.int 0)], [], M)) (P := []) rfl mz_o0 ?_
  exact h
set_option maxRecDepth 100000 in
set_option maxHeartbeats 4000000 in
theorem t_X2_sumAt_5 (b1 : Nat) (x2 : Int32) (x3 : Int32) (x4 : Int32) (M : mz_M) {res : mz_O} (h :
    (((M.1 2 1) ≤ x4 →
      res = (some (.int x3), M)) ∧
    (¬ ((M.1 2 1) ≤ x4) →
      ((((x2 >>> (x4 &&& 31)) &&& 1) = 0 →
        mq_G mq_X2_sumAt (5, [some (.ref 1), some (.ref b1), some (.int x2), some (.int (x3 ^^^ 0)), some (.int (x4 + 1))], [], M) res) ∧
      (¬ (((x2 >>> (x4 &&& 31)) &&& 1) = 0) →
        (mz_nth mq_sk b1 = some (.inl (0, 8, []))) ∧
        (vp_in x4 8) ∧
        mq_G mq_X2_sumAt (5, [some (.ref 1), some (.ref b1), some (.int x2), some (.int (x3 ^^^ (M.1 b1 x4.toNatClampNeg))), some (.int (x4 + 1))], [], M) res))))) :
    mq_G mq_X2_sumAt (5, [some (.ref 1), some (.ref b1), some (.int x2), some (.int x3), some (.int x4)], [], M) res := by
  refine mz_Go.steps (n := 5) (k2 := (if (M.1 2 1) ≤ x4 then 43 else 17, [some (.ref 1), some (.ref b1), some (.int x2), some (.int x3), some (.int x4)], [], M)) (P := []) rfl mz_o0 ?_
  refine mz_Go.ite (fun c14 => ?_) (fun c14 => ?_)
  · replace h := h.1 c14
    refine mz_Go.steps (n := 1) (k2 := (44, [some (.ref 1), some (.ref b1), some (.int x2), some (.int x3), some (.int x4)], [.int x3], M)) (P := []) rfl mz_o0 ?_
    rw [h]
    exact mz_Go.iret (rfl : mz_find 44 (mz_rows mq_X2_sumAt) = some (44, .ireturn, 1, 0, 0, 0)) rfl
  · replace h := h.2 c14
    refine mz_Go.steps (n := 7) (k2 := (if ((x2 >>> (x4 &&& 31)) &&& 1) = 0 then 34 else 27, [some (.ref 1), some (.ref b1), some (.int x2), some (.int x3), some (.int x4)], [.int x3], M)) (P := []) rfl mz_o0 ?_
    refine mz_Go.ite (fun c24 => ?_) (fun c24 => ?_)
    · replace h := h.1 c24
      refine mz_Go.steps (n := 5) (k2 := (5, [some (.ref 1), some (.ref b1), some (.int x2), some (.int (x3 ^^^ 0)), some (.int (x4 + 1))], [], M)) (P := []) rfl mz_o0 ?_
      exact h
    · replace h := h.2 c24
      refine mz_Go.steps (n := 2) (k2 := (30, [some (.ref 1), some (.ref b1), some (.int x2), some (.int x3), some (.int x4)], [.int x4, .ref b1, .int x3], M)) (P := []) rfl mz_o0 ?_
      obtain ⟨q3, q4, h⟩ := h
      refine mz_Go.iald (rfl : mz_find 30 (mz_rows mq_X2_sumAt) = some (30, .iaload, 1, 0, 0, 0)) q3 q4 ?_
      show mq_G mq_X2_sumAt (31, [some (.ref 1), some (.ref b1), some (.int x2), some (.int x3), some (.int x4)], [.int (M.1 b1 x4.toNatClampNeg), .int x3], M) res
      refine mz_Go.steps (n := 5) (k2 := (5, [some (.ref 1), some (.ref b1), some (.int x2), some (.int (x3 ^^^ (M.1 b1 x4.toNatClampNeg))), some (.int (x4 + 1))], [], M)) (P := []) rfl mz_o0 ?_
      exact h
set_option maxRecDepth 100000 in
set_option maxHeartbeats 4000000 in
theorem t_X2_placeOf_0 (b1 : Nat) (x2 : Int32) (M : mz_M) {res : mz_O} (h :
    mq_G mq_X2_placeOf (2, [some (.ref 1), some (.ref b1), some (.int x2), some (.int 0)], [], M) res) :
    mq_G mq_X2_placeOf (0, [some (.ref 1), some (.ref b1), some (.int x2), none], [], M) res := by
  refine mz_Go.steps (n := 2) (k2 := (2, [some (.ref 1), some (.ref b1), some (.int x2), some (.int 0)], [], M)) (P := []) rfl mz_o0 ?_
  exact h
set_option maxRecDepth 100000 in
set_option maxHeartbeats 4000000 in
theorem t_X2_placeOf_2 (b1 : Nat) (x2 : Int32) (x3 : Int32) (M : mz_M) {res : mz_O} (h :
    (((M.1 2 1) ≤ x3 →
      res = (some (.int (-1)), M)) ∧
    (¬ ((M.1 2 1) ≤ x3) →
      (mz_nth mq_sk b1 = some (.inl (0, 8, []))) ∧
      (vp_in x3 8) ∧
      ((¬ (M.1 b1 x3.toNatClampNeg) = x2 →
        mq_G mq_X2_placeOf (2, [some (.ref 1), some (.ref b1), some (.int x2), some (.int (x3 + 1))], [], M) res) ∧
      (¬ (¬ (M.1 b1 x3.toNatClampNeg) = x2) →
        res = (some (.int x3), M)))))) :
    mq_G mq_X2_placeOf (2, [some (.ref 1), some (.ref b1), some (.int x2), some (.int x3)], [], M) res := by
  refine mz_Go.steps (n := 5) (k2 := (if (M.1 2 1) ≤ x3 then 28 else 13, [some (.ref 1), some (.ref b1), some (.int x2), some (.int x3)], [], M)) (P := []) rfl mz_o0 ?_
  refine mz_Go.ite (fun c10 => ?_) (fun c10 => ?_)
  · replace h := h.1 c10
    refine mz_Go.steps (n := 1) (k2 := (29, [some (.ref 1), some (.ref b1), some (.int x2), some (.int x3)], [.int (-1)], M)) (P := []) rfl mz_o0 ?_
    rw [h]
    exact mz_Go.iret (rfl : mz_find 29 (mz_rows mq_X2_placeOf) = some (29, .ireturn, 1, 0, 0, 0)) rfl
  · replace h := h.2 c10
    refine mz_Go.steps (n := 2) (k2 := (15, [some (.ref 1), some (.ref b1), some (.int x2), some (.int x3)], [.int x3, .ref b1], M)) (P := []) rfl mz_o0 ?_
    obtain ⟨q2, q3, h⟩ := h
    refine mz_Go.iald (rfl : mz_find 15 (mz_rows mq_X2_placeOf) = some (15, .iaload, 1, 0, 0, 0)) q2 q3 ?_
    show mq_G mq_X2_placeOf (16, [some (.ref 1), some (.ref b1), some (.int x2), some (.int x3)], [.int (M.1 b1 x3.toNatClampNeg)], M) res
    refine mz_Go.steps (n := 2) (k2 := (if ¬ (M.1 b1 x3.toNatClampNeg) = x2 then 22 else 20, [some (.ref 1), some (.ref b1), some (.int x2), some (.int x3)], [], M)) (P := []) rfl mz_o0 ?_
    refine mz_Go.ite (fun c17 => ?_) (fun c17 => ?_)
    · replace h := h.1 c17
      refine mz_Go.steps (n := 2) (k2 := (2, [some (.ref 1), some (.ref b1), some (.int x2), some (.int (x3 + 1))], [], M)) (P := []) rfl mz_o0 ?_
      exact h
    · replace h := h.2 c17
      refine mz_Go.steps (n := 1) (k2 := (21, [some (.ref 1), some (.ref b1), some (.int x2), some (.int x3)], [.int x3], M)) (P := []) rfl mz_o0 ?_
      rw [h]
      exact mz_Go.iret (rfl : mz_find 21 (mz_rows mq_X2_placeOf) = some (21, .ireturn, 1, 0, 0, 0)) rfl
set_option maxRecDepth 100000 in
set_option maxHeartbeats 4000000 in
theorem t_X2_leastPolynomial_0 (x1 : Int32) (M : mz_M) {res : mz_O} (h :
    (∃ (M1 : mz_M), (mq_C mq_X1_empties [.ref 5] M (none, M1)) ∧
    mq_G mq_X2_leastPolynomial (11, [some (.ref 1), some (.int x1), some (.int 1), some (.int 0)], [], M1) res)) :
    mq_G mq_X2_leastPolynomial (0, [some (.ref 1), some (.int x1), none, none], [], M) res := by
  refine mz_Go.steps (n := 2) (k2 := (4, [some (.ref 1), some (.int x1), none, none], [.ref 5], M)) (P := []) rfl mz_o0 ?_
  obtain ⟨M1, k1, h⟩ := h
  refine mz_Go.callV (As := []) (rest := []) (rfl : mz_find 4 (mz_rows mq_X2_leastPolynomial) = some (4, .invokevirtual 50, 3, 18, 0, 28)) (rfl : mz_nth mq_tab 18 = some mq_X1_empties) rfl rfl rfl rfl (Nat.le_of_ble_eq_true rfl) (Nat.le_of_ble_eq_true rfl) k1 ?_
  show mq_G mq_X2_leastPolynomial (7, [some (.ref 1), some (.int x1), none, none], [], M1) res
  refine mz_Go.steps (n := 4) (k2 := (11, [some (.ref 1), some (.int x1), some (.int 1), some (.int 0)], [], M1)) (P := []) rfl mz_o0 ?_
  exact h
set_option maxRecDepth 100000 in
set_option maxHeartbeats 4000000 in
theorem t_X2_leastPolynomial_11 (x1 : Int32) (x2 : Int32) (x3 : Int32) (M : mz_M) {res : mz_O} (h :
    (((M.1 2 1) ≤ x3 →
      (∃ (r2 : Int32), (mq_C mq_X1_located [.ref 5, .int x2] M (some (.int r2), M)) ∧
      res = (some (.int (((1 : Int32) <<< (x3 &&& 31)) ||| r2)), M))) ∧
    (¬ ((M.1 2 1) ≤ x3) →
      (∃ (r3 : Int32) (M3 : mz_M), (mq_C mq_X1_takes [.ref 5, .int x2] M (some (.int r3), M3)) ∧
      ((r3 = 0 →
        (∃ (r5 : Int32), (mq_C mq_X1_located [.ref 5, .int x2] M3 (some (.int r5), M3)) ∧
        res = (some (.int (((1 : Int32) <<< (x3 &&& 31)) ||| r5)), M3))) ∧
      (¬ (r3 = 0) →
        (∃ (r6 : Int32), (mq_C mq_X0_times [.ref 2, .int x2, .int x1] M3 (some (.int r6), M3)) ∧
        mq_G mq_X2_leastPolynomial (11, [some (.ref 1), some (.int x1), some (.int r6), some (.int (x3 + 1))], [], M3) res))))))) :
    mq_G mq_X2_leastPolynomial (11, [some (.ref 1), some (.int x1), some (.int x2), some (.int x3)], [], M) res := by
  refine mz_Go.steps (n := 5) (k2 := (if (M.1 2 1) ≤ x3 then 49 else 22, [some (.ref 1), some (.int x1), some (.int x2), some (.int x3)], [], M)) (P := []) rfl mz_o0 ?_
  refine mz_Go.ite (fun c19 => ?_) (fun c19 => ?_)
  · replace h := h.1 c19
    refine mz_Go.steps (n := 6) (k2 := (57, [some (.ref 1), some (.int x1), some (.int x2), some (.int x3)], [.int x2, .ref 5, .int ((1 : Int32) <<< (x3 &&& 31))], M)) (P := []) rfl mz_o0 ?_
    obtain ⟨r2, k2, h⟩ := h
    refine mz_Go.callV (As := [.int x2]) (rest := [.int ((1 : Int32) <<< (x3 &&& 31))]) (rfl : mz_find 57 (mz_rows mq_X2_leastPolynomial) = some (57, .invokevirtual 41, 3, 21, 0, 26)) (rfl : mz_nth mq_tab 21 = some mq_X1_located) rfl rfl rfl rfl (Nat.le_of_ble_eq_true rfl) (Nat.le_of_ble_eq_true rfl) k2 ?_
    show mq_G mq_X2_leastPolynomial (60, [some (.ref 1), some (.int x1), some (.int x2), some (.int x3)], [.int r2, .int ((1 : Int32) <<< (x3 &&& 31))], M) res
    refine mz_Go.steps (n := 1) (k2 := (61, [some (.ref 1), some (.int x1), some (.int x2), some (.int x3)], [.int (((1 : Int32) <<< (x3 &&& 31)) ||| r2)], M)) (P := []) rfl mz_o0 ?_
    rw [h]
    exact mz_Go.iret (rfl : mz_find 61 (mz_rows mq_X2_leastPolynomial) = some (61, .ireturn, 1, 0, 0, 0)) rfl
  · replace h := h.2 c19
    refine mz_Go.steps (n := 3) (k2 := (27, [some (.ref 1), some (.int x1), some (.int x2), some (.int x3)], [.int x2, .ref 5], M)) (P := []) rfl mz_o0 ?_
    obtain ⟨r3, M3, k3, h⟩ := h
    refine mz_Go.callV (As := [.int x2]) (rest := []) (rfl : mz_find 27 (mz_rows mq_X2_leastPolynomial) = some (27, .invokevirtual 53, 3, 19, 0, 29)) (rfl : mz_nth mq_tab 19 = some mq_X1_takes) rfl rfl rfl rfl (Nat.le_of_ble_eq_true rfl) (Nat.le_of_ble_eq_true rfl) k3 ?_
    show mq_G mq_X2_leastPolynomial (30, [some (.ref 1), some (.int x1), some (.int x2), some (.int x3)], [.int r3], M3) res
    refine mz_Go.steps (n := 1) (k2 := (if r3 = 0 then 49 else 33, [some (.ref 1), some (.int x1), some (.int x2), some (.int x3)], [], M3)) (P := []) rfl mz_o0 ?_
    refine mz_Go.ite (fun c30 => ?_) (fun c30 => ?_)
    · replace h := h.1 c30
      refine mz_Go.steps (n := 6) (k2 := (57, [some (.ref 1), some (.int x1), some (.int x2), some (.int x3)], [.int x2, .ref 5, .int ((1 : Int32) <<< (x3 &&& 31))], M3)) (P := []) rfl mz_o0 ?_
      obtain ⟨r5, k5, h⟩ := h
      refine mz_Go.callV (As := [.int x2]) (rest := [.int ((1 : Int32) <<< (x3 &&& 31))]) (rfl : mz_find 57 (mz_rows mq_X2_leastPolynomial) = some (57, .invokevirtual 41, 3, 21, 0, 26)) (rfl : mz_nth mq_tab 21 = some mq_X1_located) rfl rfl rfl rfl (Nat.le_of_ble_eq_true rfl) (Nat.le_of_ble_eq_true rfl) k5 ?_
      show mq_G mq_X2_leastPolynomial (60, [some (.ref 1), some (.int x1), some (.int x2), some (.int x3)], [.int r5, .int ((1 : Int32) <<< (x3 &&& 31))], M3) res
      refine mz_Go.steps (n := 1) (k2 := (61, [some (.ref 1), some (.int x1), some (.int x2), some (.int x3)], [.int (((1 : Int32) <<< (x3 &&& 31)) ||| r5)], M3)) (P := []) rfl mz_o0 ?_
      rw [h]
      exact mz_Go.iret (rfl : mz_find 61 (mz_rows mq_X2_leastPolynomial) = some (61, .ireturn, 1, 0, 0, 0)) rfl
    · replace h := h.2 c30
      refine mz_Go.steps (n := 4) (k2 := (39, [some (.ref 1), some (.int x1), some (.int x2), some (.int x3)], [.int x1, .int x2, .ref 2], M3)) (P := []) rfl mz_o0 ?_
      obtain ⟨r6, k6, h⟩ := h
      refine mz_Go.callV (As := [.int x2, .int x1]) (rest := []) (rfl : mz_find 39 (mz_rows mq_X2_leastPolynomial) = some (39, .invokevirtual 37, 3, 3, 0, 25)) (rfl : mz_nth mq_tab 3 = some mq_X0_times) rfl rfl rfl rfl (Nat.le_of_ble_eq_true rfl) (Nat.le_of_ble_eq_true rfl) k6 ?_
      show mq_G mq_X2_leastPolynomial (42, [some (.ref 1), some (.int x1), some (.int x2), some (.int x3)], [.int r6], M3) res
      refine mz_Go.steps (n := 3) (k2 := (11, [some (.ref 1), some (.int x1), some (.int r6), some (.int (x3 + 1))], [], M3)) (P := []) rfl mz_o0 ?_
      exact h
set_option maxRecDepth 100000 in
set_option maxHeartbeats 4000000 in
theorem t_X2_fillsSubbase_0 (b1 : Nat) (x2 : Int32) (M : mz_M) {res : mz_O} (h :
    (∃ (M1 : mz_M), (mq_C mq_X1_empties [.ref 5] M (none, M1)) ∧
    mq_G mq_X2_fillsSubbase (9, [some (.ref 1), some (.ref b1), some (.int x2), some (.int 1), none], [], M1) res)) :
    mq_G mq_X2_fillsSubbase (0, [some (.ref 1), some (.ref b1), some (.int x2), none, none], [], M) res := by
  refine mz_Go.steps (n := 2) (k2 := (4, [some (.ref 1), some (.ref b1), some (.int x2), none, none], [.ref 5], M)) (P := []) rfl mz_o0 ?_
  obtain ⟨M1, k1, h⟩ := h
  refine mz_Go.callV (As := []) (rest := []) (rfl : mz_find 4 (mz_rows mq_X2_fillsSubbase) = some (4, .invokevirtual 50, 3, 18, 0, 28)) (rfl : mz_nth mq_tab 18 = some mq_X1_empties) rfl rfl rfl rfl (Nat.le_of_ble_eq_true rfl) (Nat.le_of_ble_eq_true rfl) k1 ?_
  show mq_G mq_X2_fillsSubbase (7, [some (.ref 1), some (.ref b1), some (.int x2), none, none], [], M1) res
  refine mz_Go.steps (n := 2) (k2 := (9, [some (.ref 1), some (.ref b1), some (.int x2), some (.int 1), none], [], M1)) (P := []) rfl mz_o0 ?_
  exact h
set_option maxRecDepth 100000 in
set_option maxHeartbeats 4000000 in
theorem t_X2_fillsSubbase_9 (b1 : Nat) (x2 : Int32) (x3 : Int32) (o4 : Option Value) (M : mz_M) {res : mz_O} (h :
    (((M.1 2 2) ≤ x3 →
      res = (none, M)) ∧
    (¬ ((M.1 2 2) ≤ x3) →
      ((x2 ≤ (M.1 5 2) →
        res = (none, M)) ∧
      (¬ (x2 ≤ (M.1 5 2)) →
        (mz_nth mq_sk b1 = some (.inl (0, 8, []))) ∧
        (((Int32.ofNat 8) ≤ (M.1 5 2) →
          mq_G mq_X2_fillsSubbase (9, [some (.ref 1), some (.ref b1), some (.int x2), some (.int (x3 + 1)), some (.int (M.1 5 2))], [], M) res) ∧
        (¬ ((Int32.ofNat 8) ≤ (M.1 5 2)) →
          (∃ (r5 : Int32), (mq_C mq_X0_squared [.ref 2, .int x3, .int x2] M (some (.int r5), M)) ∧
          ((¬ r5 = x3 →
            mq_G mq_X2_fillsSubbase (9, [some (.ref 1), some (.ref b1), some (.int x2), some (.int (x3 + 1)), some (.int (M.1 5 2))], [], M) res) ∧
          (¬ (¬ r5 = x3) →
            (∃ (r7 : Int32) (M7 : mz_M), (mq_C mq_X1_takes [.ref 5, .int x3] M (some (.int r7), M7)) ∧
            ((r7 = 0 →
              mq_G mq_X2_fillsSubbase (9, [some (.ref 1), some (.ref b1), some (.int x2), some (.int (x3 + 1)), some (.int (M.1 5 2))], [], M7) res) ∧
            (¬ (r7 = 0) →
              (mz_nth mq_sk b1 = some (.inl (0, 8, []))) ∧
              (vp_in (M.1 5 2) 8) ∧
              (∀ M9 : mz_M, M9 = mz_wr M7 b1 (upd (M7.1 b1) (M.1 5 2).toNatClampNeg x3) →
              mq_G mq_X2_fillsSubbase (9, [some (.ref 1), some (.ref b1), some (.int x2), some (.int (x3 + 1)), some (.int (M.1 5 2))], [], M9) res)))))))))))))) :
    mq_G mq_X2_fillsSubbase (9, [some (.ref 1), some (.ref b1), some (.int x2), some (.int x3), o4], [], M) res := by
  refine mz_Go.steps (n := 5) (k2 := (if (M.1 2 2) ≤ x3 then 82 else 20, [some (.ref 1), some (.ref b1), some (.int x2), some (.int x3), o4], [], M)) (P := []) rfl mz_o0 ?_
  refine mz_Go.ite (fun c17 => ?_) (fun c17 => ?_)
  · replace h := h.1 c17
    rw [h]
    exact mz_Go.vret (rfl : mz_find 82 (mz_rows mq_X2_fillsSubbase) = some (82, .return_, 1, 0, 0, 0)) rfl
  · replace h := h.2 c17
    refine mz_Go.steps (n := 5) (k2 := (if x2 ≤ (M.1 5 2) then 82 else 31, [some (.ref 1), some (.ref b1), some (.int x2), some (.int x3), o4], [], M)) (P := []) rfl mz_o0 ?_
    refine mz_Go.ite (fun c28 => ?_) (fun c28 => ?_)
    · replace h := h.1 c28
      rw [h]
      exact mz_Go.vret (rfl : mz_find 82 (mz_rows mq_X2_fillsSubbase) = some (82, .return_, 1, 0, 0, 0)) rfl
    · replace h := h.2 c28
      refine mz_Go.steps (n := 6) (k2 := (43, [some (.ref 1), some (.ref b1), some (.int x2), some (.int x3), some (.int (M.1 5 2))], [.ref b1, .int (M.1 5 2)], M)) (P := []) rfl mz_o0 ?_
      obtain ⟨q3, h⟩ := h
      refine mz_Go.alen (rfl : mz_find 43 (mz_rows mq_X2_fillsSubbase) = some (43, .arraylength, 1, 0, 0, 0)) q3 ?_
      show mq_G mq_X2_fillsSubbase (44, [some (.ref 1), some (.ref b1), some (.int x2), some (.int x3), some (.int (M.1 5 2))], [.int (Int32.ofNat 8), .int (M.1 5 2)], M) res
      refine mz_Go.steps (n := 1) (k2 := (if (Int32.ofNat 8) ≤ (M.1 5 2) then 76 else 47, [some (.ref 1), some (.ref b1), some (.int x2), some (.int x3), some (.int (M.1 5 2))], [], M)) (P := []) rfl mz_o0 ?_
      refine mz_Go.ite (fun c44 => ?_) (fun c44 => ?_)
      · replace h := h.1 c44
        refine mz_Go.steps (n := 2) (k2 := (9, [some (.ref 1), some (.ref b1), some (.int x2), some (.int (x3 + 1)), some (.int (M.1 5 2))], [], M)) (P := []) rfl mz_o0 ?_
        exact h
      · replace h := h.2 c44
        refine mz_Go.steps (n := 4) (k2 := (53, [some (.ref 1), some (.ref b1), some (.int x2), some (.int x3), some (.int (M.1 5 2))], [.int x2, .int x3, .ref 2], M)) (P := []) rfl mz_o0 ?_
        obtain ⟨r5, k5, h⟩ := h
        refine mz_Go.callV (As := [.int x3, .int x2]) (rest := []) (rfl : mz_find 53 (mz_rows mq_X2_fillsSubbase) = some (53, .invokevirtual 63, 3, 6, 0, 32)) (rfl : mz_nth mq_tab 6 = some mq_X0_squared) rfl rfl rfl rfl (Nat.le_of_ble_eq_true rfl) (Nat.le_of_ble_eq_true rfl) k5 ?_
        show mq_G mq_X2_fillsSubbase (56, [some (.ref 1), some (.ref b1), some (.int x2), some (.int x3), some (.int (M.1 5 2))], [.int r5], M) res
        refine mz_Go.steps (n := 2) (k2 := (if ¬ r5 = x3 then 76 else 60, [some (.ref 1), some (.ref b1), some (.int x2), some (.int x3), some (.int (M.1 5 2))], [], M)) (P := []) rfl mz_o0 ?_
        refine mz_Go.ite (fun c57 => ?_) (fun c57 => ?_)
        · replace h := h.1 c57
          refine mz_Go.steps (n := 2) (k2 := (9, [some (.ref 1), some (.ref b1), some (.int x2), some (.int (x3 + 1)), some (.int (M.1 5 2))], [], M)) (P := []) rfl mz_o0 ?_
          exact h
        · replace h := h.2 c57
          refine mz_Go.steps (n := 3) (k2 := (65, [some (.ref 1), some (.ref b1), some (.int x2), some (.int x3), some (.int (M.1 5 2))], [.int x3, .ref 5], M)) (P := []) rfl mz_o0 ?_
          obtain ⟨r7, M7, k7, h⟩ := h
          refine mz_Go.callV (As := [.int x3]) (rest := []) (rfl : mz_find 65 (mz_rows mq_X2_fillsSubbase) = some (65, .invokevirtual 53, 3, 19, 0, 29)) (rfl : mz_nth mq_tab 19 = some mq_X1_takes) rfl rfl rfl rfl (Nat.le_of_ble_eq_true rfl) (Nat.le_of_ble_eq_true rfl) k7 ?_
          show mq_G mq_X2_fillsSubbase (68, [some (.ref 1), some (.ref b1), some (.int x2), some (.int x3), some (.int (M.1 5 2))], [.int r7], M7) res
          refine mz_Go.steps (n := 1) (k2 := (if r7 = 0 then 76 else 71, [some (.ref 1), some (.ref b1), some (.int x2), some (.int x3), some (.int (M.1 5 2))], [], M7)) (P := []) rfl mz_o0 ?_
          refine mz_Go.ite (fun c68 => ?_) (fun c68 => ?_)
          · replace h := h.1 c68
            refine mz_Go.steps (n := 2) (k2 := (9, [some (.ref 1), some (.ref b1), some (.int x2), some (.int (x3 + 1)), some (.int (M.1 5 2))], [], M7)) (P := []) rfl mz_o0 ?_
            exact h
          · replace h := h.2 c68
            refine mz_Go.steps (n := 3) (k2 := (75, [some (.ref 1), some (.ref b1), some (.int x2), some (.int x3), some (.int (M.1 5 2))], [.int x3, .int (M.1 5 2), .ref b1], M7)) (P := []) rfl mz_o0 ?_
            obtain ⟨q10, q11, h⟩ := h
            obtain ⟨M9, e9⟩ : ∃ y, y = mz_wr M7 b1 (upd (M7.1 b1) (M.1 5 2).toNatClampNeg x3) := ⟨_, rfl⟩
            replace h := h M9 e9
            refine mz_Go.iast (rfl : mz_find 75 (mz_rows mq_X2_fillsSubbase) = some (75, .iastore, 1, 0, 0, 0)) q10 q11 ?_
            show mq_G mq_X2_fillsSubbase (76, [some (.ref 1), some (.ref b1), some (.int x2), some (.int x3), some (.int (M.1 5 2))], [], (mz_wr M7 b1 (upd (M7.1 b1) (M.1 5 2).toNatClampNeg x3))) res
            rw [← e9]
            refine mz_Go.steps (n := 2) (k2 := (9, [some (.ref 1), some (.ref b1), some (.int x2), some (.int (x3 + 1)), some (.int (M.1 5 2))], [], M9)) (P := []) rfl mz_o0 ?_
            exact h
set_option maxRecDepth 100000 in
set_option maxHeartbeats 4000000 in
theorem t_X2_fillsOverSubbase_0 (b1 : Nat) (b2 : Nat) (x3 : Int32) (x4 : Int32) (M : mz_M) {res : mz_O} (h :
    mq_G mq_X2_fillsOverSubbase (10, [some (.ref 1), some (.ref b1), some (.ref b2), some (.int x3), some (.int x4), some (.int x4), some (.int 0), some (.int 0)], [], M) res) :
    mq_G mq_X2_fillsOverSubbase (0, [some (.ref 1), some (.ref b1), some (.ref b2), some (.int x3), some (.int x4), none, none, none], [], M) res := by
  refine mz_Go.steps (n := 6) (k2 := (10, [some (.ref 1), some (.ref b1), some (.ref b2), some (.int x3), some (.int x4), some (.int x4), some (.int 0), some (.int 0)], [], M)) (P := []) rfl mz_o0 ?_
  exact h
set_option maxRecDepth 100000 in
set_option maxHeartbeats 4000000 in
theorem t_X2_fillsOverSubbase_10 (b1 : Nat) (b2 : Nat) (x3 : Int32) (o4 : Option Value) (x5 : Int32) (x6 : Int32) (x7 : Int32) (M : mz_M) {res : mz_O} (h :
    (((M.1 2 1) ≤ x7 →
      res = (none, M)) ∧
    (¬ ((M.1 2 1) ≤ x7) →
      (mz_nth mq_sk b2 = some (.inl (0, 8, []))) ∧
      (vp_in x6 8) ∧
      (∃ (r4 : Int32), (mq_C mq_X0_times [.ref 2, .int (M.1 b2 x6.toNatClampNeg), .int x5] M (some (.int r4), M)) ∧
      (mz_nth mq_sk b1 = some (.inl (0, 8, []))) ∧
      (vp_in x7 8) ∧
      (∀ M5 : mz_M, M5 = mz_wr M b1 (upd (M.1 b1) x7.toNatClampNeg r4) →
      ((¬ (x6 + 1) = x3 →
        mq_G mq_X2_fillsOverSubbase (10, [some (.ref 1), some (.ref b1), some (.ref b2), some (.int x3), o4, some (.int x5), some (.int (x6 + 1)), some (.int (x7 + 1))], [], M5) res) ∧
      (¬ (¬ (x6 + 1) = x3) →
        (∃ (r9 : Int32), (mq_C mq_X0_squared [.ref 2, .int x5, .int x3] M5 (some (.int r9), M5)) ∧
        mq_G mq_X2_fillsOverSubbase (10, [some (.ref 1), some (.ref b1), some (.ref b2), some (.int x3), (mz_nw o4), some (.int r9), some (.int 0), some (.int (x7 + 1))], [], M5) res)))))))) :
    mq_G mq_X2_fillsOverSubbase (10, [some (.ref 1), some (.ref b1), some (.ref b2), some (.int x3), o4, some (.int x5), some (.int x6), some (.int x7)], [], M) res := by
  refine mz_Go.steps (n := 5) (k2 := (if (M.1 2 1) ≤ x7 then 69 else 22, [some (.ref 1), some (.ref b1), some (.ref b2), some (.int x3), o4, some (.int x5), some (.int x6), some (.int x7)], [], M)) (P := []) rfl mz_o0 ?_
  refine mz_Go.ite (fun c19 => ?_) (fun c19 => ?_)
  · replace h := h.1 c19
    rw [h]
    exact mz_Go.vret (rfl : mz_find 69 (mz_rows mq_X2_fillsOverSubbase) = some (69, .return_, 1, 0, 0, 0)) rfl
  · replace h := h.2 c19
    refine mz_Go.steps (n := 6) (k2 := (32, [some (.ref 1), some (.ref b1), some (.ref b2), some (.int x3), o4, some (.int x5), some (.int x6), some (.int x7)], [.int x6, .ref b2, .ref 2, .int x7, .ref b1], M)) (P := []) rfl mz_o0 ?_
    obtain ⟨q2, q3, h⟩ := h
    refine mz_Go.iald (rfl : mz_find 32 (mz_rows mq_X2_fillsOverSubbase) = some (32, .iaload, 1, 0, 0, 0)) q2 q3 ?_
    show mq_G mq_X2_fillsOverSubbase (33, [some (.ref 1), some (.ref b1), some (.ref b2), some (.int x3), o4, some (.int x5), some (.int x6), some (.int x7)], [.int (M.1 b2 x6.toNatClampNeg), .ref 2, .int x7, .ref b1], M) res
    refine mz_Go.steps (n := 1) (k2 := (35, [some (.ref 1), some (.ref b1), some (.ref b2), some (.int x3), o4, some (.int x5), some (.int x6), some (.int x7)], [.int x5, .int (M.1 b2 x6.toNatClampNeg), .ref 2, .int x7, .ref b1], M)) (P := []) rfl mz_o0 ?_
    obtain ⟨r4, k4, h⟩ := h
    refine mz_Go.callV (As := [.int (M.1 b2 x6.toNatClampNeg), .int x5]) (rest := [.int x7, .ref b1]) (rfl : mz_find 35 (mz_rows mq_X2_fillsOverSubbase) = some (35, .invokevirtual 37, 3, 3, 0, 25)) (rfl : mz_nth mq_tab 3 = some mq_X0_times) rfl rfl rfl rfl (Nat.le_of_ble_eq_true rfl) (Nat.le_of_ble_eq_true rfl) k4 ?_
    show mq_G mq_X2_fillsOverSubbase (38, [some (.ref 1), some (.ref b1), some (.ref b2), some (.int x3), o4, some (.int x5), some (.int x6), some (.int x7)], [.int r4, .int x7, .ref b1], M) res
    obtain ⟨q6, q7, h⟩ := h
    obtain ⟨M5, e5⟩ : ∃ y, y = mz_wr M b1 (upd (M.1 b1) x7.toNatClampNeg r4) := ⟨_, rfl⟩
    replace h := h M5 e5
    refine mz_Go.iast (rfl : mz_find 38 (mz_rows mq_X2_fillsOverSubbase) = some (38, .iastore, 1, 0, 0, 0)) q6 q7 ?_
    show mq_G mq_X2_fillsOverSubbase (39, [some (.ref 1), some (.ref b1), some (.ref b2), some (.int x3), o4, some (.int x5), some (.int x6), some (.int x7)], [], (mz_wr M b1 (upd (M.1 b1) x7.toNatClampNeg r4))) res
    rw [← e5]
    refine mz_Go.steps (n := 4) (k2 := (if ¬ (x6 + 1) = x3 then 63 else 48, [some (.ref 1), some (.ref b1), some (.ref b2), some (.int x3), o4, some (.int x5), some (.int (x6 + 1)), some (.int x7)], [], M5)) (P := []) rfl mz_o0 ?_
    refine mz_Go.ite (fun c45 => ?_) (fun c45 => ?_)
    · replace h := h.1 c45
      refine mz_Go.steps (n := 2) (k2 := (10, [some (.ref 1), some (.ref b1), some (.ref b2), some (.int x3), o4, some (.int x5), some (.int (x6 + 1)), some (.int (x7 + 1))], [], M5)) (P := []) rfl mz_o0 ?_
      exact h
    · replace h := h.2 c45
      refine mz_Go.steps (n := 6) (k2 := (58, [some (.ref 1), some (.ref b1), some (.ref b2), some (.int x3), o4, some (.int x5), some (.int 0), some (.int x7)], [.int x3, .int x5, .ref 2], M5)) (P := []) rfl mz_o0 ?_
      obtain ⟨r9, k9, h⟩ := h
      refine mz_Go.callV (As := [.int x5, .int x3]) (rest := []) (rfl : mz_find 58 (mz_rows mq_X2_fillsOverSubbase) = some (58, .invokevirtual 63, 3, 6, 0, 32)) (rfl : mz_nth mq_tab 6 = some mq_X0_squared) rfl rfl rfl rfl (Nat.le_of_ble_eq_true rfl) (Nat.le_of_ble_eq_true rfl) k9 ?_
      show mq_G mq_X2_fillsOverSubbase (61, [some (.ref 1), some (.ref b1), some (.ref b2), some (.int x3), o4, some (.int x5), some (.int 0), some (.int x7)], [.int r9], M5) res
      refine mz_Go.steps (n := 3) (k2 := (10, [some (.ref 1), some (.ref b1), some (.ref b2), some (.int x3), (mz_nw o4), some (.int r9), some (.int 0), some (.int (x7 + 1))], [], M5)) (P := []) rfl mz_o0 ?_
      exact h
set_option maxRecDepth 100000 in
set_option maxHeartbeats 4000000 in
theorem t_X2_fillsTower_0 (b1 : Nat) (b2 : Nat) (x3 : Int32) (x4 : Int32) (M : mz_M) {res : mz_O} (h :
    mq_G mq_X2_fillsTower (9, [some (.ref 1), some (.ref b1), some (.ref b2), some (.int x3), some (.int x4), some (.int 1), some (.int 0), some (.int 0)], [], M) res) :
    mq_G mq_X2_fillsTower (0, [some (.ref 1), some (.ref b1), some (.ref b2), some (.int x3), some (.int x4), none, none, none], [], M) res := by
  refine mz_Go.steps (n := 6) (k2 := (9, [some (.ref 1), some (.ref b1), some (.ref b2), some (.int x3), some (.int x4), some (.int 1), some (.int 0), some (.int 0)], [], M)) (P := []) rfl mz_o0 ?_
  exact h
set_option maxRecDepth 100000 in
set_option maxHeartbeats 4000000 in
theorem t_X2_fillsTower_9 (b1 : Nat) (b2 : Nat) (x3 : Int32) (x4 : Int32) (x5 : Int32) (x6 : Int32) (x7 : Int32) (M : mz_M) {res : mz_O} (h :
    (((M.1 2 1) ≤ x7 →
      res = (none, M)) ∧
    (¬ ((M.1 2 1) ≤ x7) →
      (mz_nth mq_sk b2 = some (.inl (0, 8, []))) ∧
      (vp_in x6 8) ∧
      (∃ (r4 : Int32), (mq_C mq_X0_times [.ref 2, .int (M.1 b2 x6.toNatClampNeg), .int x5] M (some (.int r4), M)) ∧
      (mz_nth mq_sk b1 = some (.inl (0, 8, []))) ∧
      (vp_in x7 8) ∧
      (∀ M5 : mz_M, M5 = mz_wr M b1 (upd (M.1 b1) x7.toNatClampNeg r4) →
      ((¬ (x6 + 1) = x3 →
        mq_G mq_X2_fillsTower (9, [some (.ref 1), some (.ref b1), some (.ref b2), some (.int x3), some (.int x4), some (.int x5), some (.int (x6 + 1)), some (.int (x7 + 1))], [], M5) res) ∧
      (¬ (¬ (x6 + 1) = x3) →
        (∃ (r9 : Int32), (mq_C mq_X0_times [.ref 2, .int x5, .int x4] M5 (some (.int r9), M5)) ∧
        mq_G mq_X2_fillsTower (9, [some (.ref 1), some (.ref b1), some (.ref b2), some (.int x3), some (.int x4), some (.int r9), some (.int 0), some (.int (x7 + 1))], [], M5) res)))))))) :
    mq_G mq_X2_fillsTower (9, [some (.ref 1), some (.ref b1), some (.ref b2), some (.int x3), some (.int x4), some (.int x5), some (.int x6), some (.int x7)], [], M) res := by
  refine mz_Go.steps (n := 5) (k2 := (if (M.1 2 1) ≤ x7 then 69 else 21, [some (.ref 1), some (.ref b1), some (.ref b2), some (.int x3), some (.int x4), some (.int x5), some (.int x6), some (.int x7)], [], M)) (P := []) rfl mz_o0 ?_
  refine mz_Go.ite (fun c18 => ?_) (fun c18 => ?_)
  · replace h := h.1 c18
    rw [h]
    exact mz_Go.vret (rfl : mz_find 69 (mz_rows mq_X2_fillsTower) = some (69, .return_, 1, 0, 0, 0)) rfl
  · replace h := h.2 c18
    refine mz_Go.steps (n := 6) (k2 := (31, [some (.ref 1), some (.ref b1), some (.ref b2), some (.int x3), some (.int x4), some (.int x5), some (.int x6), some (.int x7)], [.int x6, .ref b2, .ref 2, .int x7, .ref b1], M)) (P := []) rfl mz_o0 ?_
    obtain ⟨q2, q3, h⟩ := h
    refine mz_Go.iald (rfl : mz_find 31 (mz_rows mq_X2_fillsTower) = some (31, .iaload, 1, 0, 0, 0)) q2 q3 ?_
    show mq_G mq_X2_fillsTower (32, [some (.ref 1), some (.ref b1), some (.ref b2), some (.int x3), some (.int x4), some (.int x5), some (.int x6), some (.int x7)], [.int (M.1 b2 x6.toNatClampNeg), .ref 2, .int x7, .ref b1], M) res
    refine mz_Go.steps (n := 1) (k2 := (34, [some (.ref 1), some (.ref b1), some (.ref b2), some (.int x3), some (.int x4), some (.int x5), some (.int x6), some (.int x7)], [.int x5, .int (M.1 b2 x6.toNatClampNeg), .ref 2, .int x7, .ref b1], M)) (P := []) rfl mz_o0 ?_
    obtain ⟨r4, k4, h⟩ := h
    refine mz_Go.callV (As := [.int (M.1 b2 x6.toNatClampNeg), .int x5]) (rest := [.int x7, .ref b1]) (rfl : mz_find 34 (mz_rows mq_X2_fillsTower) = some (34, .invokevirtual 37, 3, 3, 0, 25)) (rfl : mz_nth mq_tab 3 = some mq_X0_times) rfl rfl rfl rfl (Nat.le_of_ble_eq_true rfl) (Nat.le_of_ble_eq_true rfl) k4 ?_
    show mq_G mq_X2_fillsTower (37, [some (.ref 1), some (.ref b1), some (.ref b2), some (.int x3), some (.int x4), some (.int x5), some (.int x6), some (.int x7)], [.int r4, .int x7, .ref b1], M) res
    obtain ⟨q6, q7, h⟩ := h
    obtain ⟨M5, e5⟩ : ∃ y, y = mz_wr M b1 (upd (M.1 b1) x7.toNatClampNeg r4) := ⟨_, rfl⟩
    replace h := h M5 e5
    refine mz_Go.iast (rfl : mz_find 37 (mz_rows mq_X2_fillsTower) = some (37, .iastore, 1, 0, 0, 0)) q6 q7 ?_
    show mq_G mq_X2_fillsTower (38, [some (.ref 1), some (.ref b1), some (.ref b2), some (.int x3), some (.int x4), some (.int x5), some (.int x6), some (.int x7)], [], (mz_wr M b1 (upd (M.1 b1) x7.toNatClampNeg r4))) res
    rw [← e5]
    refine mz_Go.steps (n := 4) (k2 := (if ¬ (x6 + 1) = x3 then 63 else 47, [some (.ref 1), some (.ref b1), some (.ref b2), some (.int x3), some (.int x4), some (.int x5), some (.int (x6 + 1)), some (.int x7)], [], M5)) (P := []) rfl mz_o0 ?_
    refine mz_Go.ite (fun c44 => ?_) (fun c44 => ?_)
    · replace h := h.1 c44
      refine mz_Go.steps (n := 2) (k2 := (9, [some (.ref 1), some (.ref b1), some (.ref b2), some (.int x3), some (.int x4), some (.int x5), some (.int (x6 + 1)), some (.int (x7 + 1))], [], M5)) (P := []) rfl mz_o0 ?_
      exact h
    · replace h := h.2 c44
      refine mz_Go.steps (n := 6) (k2 := (58, [some (.ref 1), some (.ref b1), some (.ref b2), some (.int x3), some (.int x4), some (.int x5), some (.int 0), some (.int x7)], [.int x4, .int x5, .ref 2], M5)) (P := []) rfl mz_o0 ?_
      obtain ⟨r9, k9, h⟩ := h
      refine mz_Go.callV (As := [.int x5, .int x4]) (rest := []) (rfl : mz_find 58 (mz_rows mq_X2_fillsTower) = some (58, .invokevirtual 37, 3, 3, 0, 25)) (rfl : mz_nth mq_tab 3 = some mq_X0_times) rfl rfl rfl rfl (Nat.le_of_ble_eq_true rfl) (Nat.le_of_ble_eq_true rfl) k9 ?_
      show mq_G mq_X2_fillsTower (61, [some (.ref 1), some (.ref b1), some (.ref b2), some (.int x3), some (.int x4), some (.int x5), some (.int 0), some (.int x7)], [.int r9], M5) res
      refine mz_Go.steps (n := 3) (k2 := (9, [some (.ref 1), some (.ref b1), some (.ref b2), some (.int x3), some (.int x4), some (.int r9), some (.int 0), some (.int (x7 + 1))], [], M5)) (P := []) rfl mz_o0 ?_
      exact h
set_option maxRecDepth 100000 in
set_option maxHeartbeats 4000000 in
theorem t_X2_traceBits_0 (b1 : Nat) (x2 : Int32) (M : mz_M) {res : mz_O} (h :
    mq_G mq_X2_traceBits (5, [some (.ref 1), some (.ref b1), some (.int x2), some (.int 0), some (.int 0)], [], M) res) :
    mq_G mq_X2_traceBits (0, [some (.ref 1), some (.ref b1), some (.int x2), none, none], [], M) res := by
  refine mz_Go.steps (n := 4) (k2 := (5, [some (.ref 1), some (.ref b1), some (.int x2), some (.int 0), some (.int 0)], [], M)) (P := []) rfl mz_o0 ?_
  exact h
set_option maxRecDepth 100000 in
set_option maxHeartbeats 4000000 in
theorem t_X2_traceBits_5 (b1 : Nat) (x2 : Int32) (x3 : Int32) (x4 : Int32) (M : mz_M) {res : mz_O} (h :
    (((M.1 2 1) ≤ x4 →
      res = (some (.int x3), M)) ∧
    (¬ ((M.1 2 1) ≤ x4) →
      (mz_nth mq_sk b1 = some (.inl (0, 8, []))) ∧
      (vp_in x4 8) ∧
      (∃ (r4 : Int32), (mq_C mq_X0_times [.ref 2, .int (M.1 b1 x4.toNatClampNeg), .int x2] M (some (.int r4), M)) ∧
      (∃ (r5 : Int32), (mq_C mq_X0_tracedToOne [.ref 2, .int r4] M (some (.int r5), M)) ∧
      mq_G mq_X2_traceBits (5, [some (.ref 1), some (.ref b1), some (.int x2), some (.int (x3 ||| (r5 <<< (x4 &&& 31)))), some (.int (x4 + 1))], [], M) res))))) :
    mq_G mq_X2_traceBits (5, [some (.ref 1), some (.ref b1), some (.int x2), some (.int x3), some (.int x4)], [], M) res := by
  refine mz_Go.steps (n := 5) (k2 := (if (M.1 2 1) ≤ x4 then 48 else 17, [some (.ref 1), some (.ref b1), some (.int x2), some (.int x3), some (.int x4)], [], M)) (P := []) rfl mz_o0 ?_
  refine mz_Go.ite (fun c14 => ?_) (fun c14 => ?_)
  · replace h := h.1 c14
    refine mz_Go.steps (n := 1) (k2 := (49, [some (.ref 1), some (.ref b1), some (.int x2), some (.int x3), some (.int x4)], [.int x3], M)) (P := []) rfl mz_o0 ?_
    rw [h]
    exact mz_Go.iret (rfl : mz_find 49 (mz_rows mq_X2_traceBits) = some (49, .ireturn, 1, 0, 0, 0)) rfl
  · replace h := h.2 c14
    refine mz_Go.steps (n := 7) (k2 := (29, [some (.ref 1), some (.ref b1), some (.int x2), some (.int x3), some (.int x4)], [.int x4, .ref b1, .ref 2, .ref 2, .int x3], M)) (P := []) rfl mz_o0 ?_
    obtain ⟨q2, q3, h⟩ := h
    refine mz_Go.iald (rfl : mz_find 29 (mz_rows mq_X2_traceBits) = some (29, .iaload, 1, 0, 0, 0)) q2 q3 ?_
    show mq_G mq_X2_traceBits (30, [some (.ref 1), some (.ref b1), some (.int x2), some (.int x3), some (.int x4)], [.int (M.1 b1 x4.toNatClampNeg), .ref 2, .ref 2, .int x3], M) res
    refine mz_Go.steps (n := 1) (k2 := (31, [some (.ref 1), some (.ref b1), some (.int x2), some (.int x3), some (.int x4)], [.int x2, .int (M.1 b1 x4.toNatClampNeg), .ref 2, .ref 2, .int x3], M)) (P := []) rfl mz_o0 ?_
    obtain ⟨r4, k4, h⟩ := h
    refine mz_Go.callV (As := [.int (M.1 b1 x4.toNatClampNeg), .int x2]) (rest := [.ref 2, .int x3]) (rfl : mz_find 31 (mz_rows mq_X2_traceBits) = some (31, .invokevirtual 37, 3, 3, 0, 25)) (rfl : mz_nth mq_tab 3 = some mq_X0_times) rfl rfl rfl rfl (Nat.le_of_ble_eq_true rfl) (Nat.le_of_ble_eq_true rfl) k4 ?_
    show mq_G mq_X2_traceBits (34, [some (.ref 1), some (.ref b1), some (.int x2), some (.int x3), some (.int x4)], [.int r4, .ref 2, .int x3], M) res
    obtain ⟨r5, k5, h⟩ := h
    refine mz_Go.callV (As := [.int r4]) (rest := [.int x3]) (rfl : mz_find 34 (mz_rows mq_X2_traceBits) = some (34, .invokevirtual 66, 3, 13, 0, 33)) (rfl : mz_nth mq_tab 13 = some mq_X0_tracedToOne) rfl rfl rfl rfl (Nat.le_of_ble_eq_true rfl) (Nat.le_of_ble_eq_true rfl) k5 ?_
    show mq_G mq_X2_traceBits (37, [some (.ref 1), some (.ref b1), some (.int x2), some (.int x3), some (.int x4)], [.int r5, .int x3], M) res
    refine mz_Go.steps (n := 6) (k2 := (5, [some (.ref 1), some (.ref b1), some (.int x2), some (.int (x3 ||| (r5 <<< (x4 &&& 31)))), some (.int (x4 + 1))], [], M)) (P := []) rfl mz_o0 ?_
    exact h
set_option maxRecDepth 100000 in
set_option maxHeartbeats 4000000 in
theorem t_X2_fillsDual_0 (b1 : Nat) (b2 : Nat) (M : mz_M) {res : mz_O} (h :
    mq_G mq_X2_fillsDual (2, [some (.ref 1), some (.ref b1), some (.ref b2), some (.int 1), none, none], [], M) res) :
    mq_G mq_X2_fillsDual (0, [some (.ref 1), some (.ref b1), some (.ref b2), none, none, none], [], M) res := by
  refine mz_Go.steps (n := 2) (k2 := (2, [some (.ref 1), some (.ref b1), some (.ref b2), some (.int 1), none, none], [], M)) (P := []) rfl mz_o0 ?_
  exact h
set_option maxRecDepth 100000 in
set_option maxHeartbeats 4000000 in
theorem t_X2_fillsDual_2 (b1 : Nat) (b2 : Nat) (x3 : Int32) (o4 : Option Value) (o5 : Option Value) (M : mz_M) {res : mz_O} (h :
    (((M.1 2 2) ≤ x3 →
      res = (none, M)) ∧
    (¬ ((M.1 2 2) ≤ x3) →
      (∃ (r2 : Int32), (mq_C mq_X2_traceBits [.ref 1, .ref b2, .int x3] M (some (.int r2), M)) ∧
      mq_G mq_X2_fillsDual (24, [some (.ref 1), some (.ref b1), some (.ref b2), some (.int x3), some (.int r2), some (.int 0)], [], M) res)))) :
    mq_G mq_X2_fillsDual (2, [some (.ref 1), some (.ref b1), some (.ref b2), some (.int x3), o4, o5], [], M) res := by
  refine mz_Go.steps (n := 5) (k2 := (if (M.1 2 2) ≤ x3 then 62 else 13, [some (.ref 1), some (.ref b1), some (.ref b2), some (.int x3), o4, o5], [], M)) (P := []) rfl mz_o0 ?_
  refine mz_Go.ite (fun c10 => ?_) (fun c10 => ?_)
  · replace h := h.1 c10
    rw [h]
    exact mz_Go.vret (rfl : mz_find 62 (mz_rows mq_X2_fillsDual) = some (62, .return_, 1, 0, 0, 0)) rfl
  · replace h := h.2 c10
    refine mz_Go.steps (n := 3) (k2 := (16, [some (.ref 1), some (.ref b1), some (.ref b2), some (.int x3), o4, o5], [.int x3, .ref b2, .ref 1], M)) (P := []) rfl mz_o0 ?_
    obtain ⟨r2, k2, h⟩ := h
    refine mz_Go.callV (As := [.ref b2, .int x3]) (rest := []) (rfl : mz_find 16 (mz_rows mq_X2_fillsDual) = some (16, .invokevirtual 69, 3, 32, 0, 34)) (rfl : mz_nth mq_tab 32 = some mq_X2_traceBits) rfl rfl rfl rfl (Nat.le_of_ble_eq_true rfl) (Nat.le_of_ble_eq_true rfl) k2 ?_
    show mq_G mq_X2_fillsDual (19, [some (.ref 1), some (.ref b1), some (.ref b2), some (.int x3), o4, o5], [.int r2], M) res
    refine mz_Go.steps (n := 3) (k2 := (24, [some (.ref 1), some (.ref b1), some (.ref b2), some (.int x3), some (.int r2), some (.int 0)], [], M)) (P := []) rfl mz_o0 ?_
    exact h
set_option maxRecDepth 100000 in
set_option maxHeartbeats 4000000 in
theorem t_X2_fillsDual_24 (b1 : Nat) (b2 : Nat) (x3 : Int32) (x4 : Int32) (x5 : Int32) (M : mz_M) {res : mz_O} (h :
    (((M.1 2 1) ≤ x5 →
      mq_G mq_X2_fillsDual (2, [some (.ref 1), some (.ref b1), some (.ref b2), some (.int (x3 + 1)), some (.int x4), some (.int x5)], [], M) res) ∧
    (¬ ((M.1 2 1) ≤ x5) →
      ((¬ x4 = ((1 : Int32) <<< (x5 &&& 31)) →
        mq_G mq_X2_fillsDual (24, [some (.ref 1), some (.ref b1), some (.ref b2), some (.int x3), some (.int x4), some (.int (x5 + 1))], [], M) res) ∧
      (¬ (¬ x4 = ((1 : Int32) <<< (x5 &&& 31))) →
        (mz_nth mq_sk b1 = some (.inl (0, 8, []))) ∧
        (vp_in x5 8) ∧
        (∀ M3 : mz_M, M3 = mz_wr M b1 (upd (M.1 b1) x5.toNatClampNeg x3) →
        mq_G mq_X2_fillsDual (24, [some (.ref 1), some (.ref b1), some (.ref b2), some (.int x3), some (.int x4), some (.int (x5 + 1))], [], M3) res)))))) :
    mq_G mq_X2_fillsDual (24, [some (.ref 1), some (.ref b1), some (.ref b2), some (.int x3), some (.int x4), some (.int x5)], [], M) res := by
  refine mz_Go.steps (n := 5) (k2 := (if (M.1 2 1) ≤ x5 then 56 else 36, [some (.ref 1), some (.ref b1), some (.ref b2), some (.int x3), some (.int x4), some (.int x5)], [], M)) (P := []) rfl mz_o0 ?_
  refine mz_Go.ite (fun c33 => ?_) (fun c33 => ?_)
  · replace h := h.1 c33
    refine mz_Go.steps (n := 2) (k2 := (2, [some (.ref 1), some (.ref b1), some (.ref b2), some (.int (x3 + 1)), some (.int x4), some (.int x5)], [], M)) (P := []) rfl mz_o0 ?_
    exact h
  · replace h := h.2 c33
    refine mz_Go.steps (n := 5) (k2 := (if ¬ x4 = ((1 : Int32) <<< (x5 &&& 31)) then 50 else 45, [some (.ref 1), some (.ref b1), some (.ref b2), some (.int x3), some (.int x4), some (.int x5)], [], M)) (P := []) rfl mz_o0 ?_
    refine mz_Go.ite (fun c42 => ?_) (fun c42 => ?_)
    · replace h := h.1 c42
      refine mz_Go.steps (n := 2) (k2 := (24, [some (.ref 1), some (.ref b1), some (.ref b2), some (.int x3), some (.int x4), some (.int (x5 + 1))], [], M)) (P := []) rfl mz_o0 ?_
      exact h
    · replace h := h.2 c42
      refine mz_Go.steps (n := 3) (k2 := (49, [some (.ref 1), some (.ref b1), some (.ref b2), some (.int x3), some (.int x4), some (.int x5)], [.int x3, .int x5, .ref b1], M)) (P := []) rfl mz_o0 ?_
      obtain ⟨q4, q5, h⟩ := h
      obtain ⟨M3, e3⟩ : ∃ y, y = mz_wr M b1 (upd (M.1 b1) x5.toNatClampNeg x3) := ⟨_, rfl⟩
      replace h := h M3 e3
      refine mz_Go.iast (rfl : mz_find 49 (mz_rows mq_X2_fillsDual) = some (49, .iastore, 1, 0, 0, 0)) q4 q5 ?_
      show mq_G mq_X2_fillsDual (50, [some (.ref 1), some (.ref b1), some (.ref b2), some (.int x3), some (.int x4), some (.int x5)], [], (mz_wr M b1 (upd (M.1 b1) x5.toNatClampNeg x3))) res
      rw [← e3]
      refine mz_Go.steps (n := 2) (k2 := (24, [some (.ref 1), some (.ref b1), some (.ref b2), some (.int x3), some (.int x4), some (.int (x5 + 1))], [], M3)) (P := []) rfl mz_o0 ?_
      exact h
set_option maxRecDepth 100000 in
set_option maxHeartbeats 4000000 in
theorem t_X2_fillsPlaces_0 (b1 : Nat) (b2 : Nat) (x3 : Int32) (b4 : Nat) (M : mz_M) {res : mz_O} (h :
    mq_G mq_X2_fillsPlaces (3, [some (.ref 1), some (.ref b1), some (.ref b2), some (.int x3), some (.ref b4), some (.int 0)], [], M) res) :
    mq_G mq_X2_fillsPlaces (0, [some (.ref 1), some (.ref b1), some (.ref b2), some (.int x3), some (.ref b4), none], [], M) res := by
  refine mz_Go.steps (n := 2) (k2 := (3, [some (.ref 1), some (.ref b1), some (.ref b2), some (.int x3), some (.ref b4), some (.int 0)], [], M)) (P := []) rfl mz_o0 ?_
  exact h
set_option maxRecDepth 100000 in
set_option maxHeartbeats 4000000 in
theorem t_X2_fillsPlaces_3 (b1 : Nat) (b2 : Nat) (x3 : Int32) (b4 : Nat) (x5 : Int32) (M : mz_M) {res : mz_O} (h :
    (((M.1 2 1) ≤ x5 →
      res = (some (.int 1), M)) ∧
    (¬ ((M.1 2 1) ≤ x5) →
      (mz_nth mq_sk b2 = some (.inl (0, 8, []))) ∧
      (vp_in x5 8) ∧
      (∃ (r4 : Int32), (mq_C mq_X0_times [.ref 2, .int x3, .int (M.1 b2 x5.toNatClampNeg)] M (some (.int r4), M)) ∧
      (∃ (r5 : Int32), (mq_C mq_X2_placeOf [.ref 1, .ref b4, .int r4] M (some (.int r5), M)) ∧
      (mz_nth mq_sk b1 = some (.inl (0, 8, []))) ∧
      (vp_in x5 8) ∧
      (∀ M6 : mz_M, M6 = mz_wr M b1 (upd (M.1 b1) x5.toNatClampNeg r5) →
      (mz_nth mq_sk b1 = some (.inl (0, 8, []))) ∧
      (vp_in x5 8) ∧
      ((¬ (M6.1 b1 x5.toNatClampNeg) = (-1) →
        mq_G mq_X2_fillsPlaces (3, [some (.ref 1), some (.ref b1), some (.ref b2), some (.int x3), some (.ref b4), some (.int (x5 + 1))], [], M6) res) ∧
      (¬ (¬ (M6.1 b1 x5.toNatClampNeg) = (-1)) →
        res = (some (.int 0), M6))))))))) :
    mq_G mq_X2_fillsPlaces (3, [some (.ref 1), some (.ref b1), some (.ref b2), some (.int x3), some (.ref b4), some (.int x5)], [], M) res := by
  refine mz_Go.steps (n := 5) (k2 := (if (M.1 2 1) ≤ x5 then 53 else 15, [some (.ref 1), some (.ref b1), some (.ref b2), some (.int x3), some (.ref b4), some (.int x5)], [], M)) (P := []) rfl mz_o0 ?_
  refine mz_Go.ite (fun c12 => ?_) (fun c12 => ?_)
  · replace h := h.1 c12
    refine mz_Go.steps (n := 1) (k2 := (54, [some (.ref 1), some (.ref b1), some (.ref b2), some (.int x3), some (.ref b4), some (.int x5)], [.int 1], M)) (P := []) rfl mz_o0 ?_
    rw [h]
    exact mz_Go.zret (rfl : mz_find 54 (mz_rows mq_X2_fillsPlaces) = some (54, .ireturn, 1, 0, 0, 0)) rfl (Or.inr rfl)
  · replace h := h.2 c12
    refine mz_Go.steps (n := 9) (k2 := (29, [some (.ref 1), some (.ref b1), some (.ref b2), some (.int x3), some (.ref b4), some (.int x5)], [.int x5, .ref b2, .int x3, .ref 2, .ref b4, .ref 1, .int x5, .ref b1], M)) (P := []) rfl mz_o0 ?_
    obtain ⟨q2, q3, h⟩ := h
    refine mz_Go.iald (rfl : mz_find 29 (mz_rows mq_X2_fillsPlaces) = some (29, .iaload, 1, 0, 0, 0)) q2 q3 ?_
    show mq_G mq_X2_fillsPlaces (30, [some (.ref 1), some (.ref b1), some (.ref b2), some (.int x3), some (.ref b4), some (.int x5)], [.int (M.1 b2 x5.toNatClampNeg), .int x3, .ref 2, .ref b4, .ref 1, .int x5, .ref b1], M) res
    obtain ⟨r4, k4, h⟩ := h
    refine mz_Go.callV (As := [.int x3, .int (M.1 b2 x5.toNatClampNeg)]) (rest := [.ref b4, .ref 1, .int x5, .ref b1]) (rfl : mz_find 30 (mz_rows mq_X2_fillsPlaces) = some (30, .invokevirtual 37, 3, 3, 0, 25)) (rfl : mz_nth mq_tab 3 = some mq_X0_times) rfl rfl rfl rfl (Nat.le_of_ble_eq_true rfl) (Nat.le_of_ble_eq_true rfl) k4 ?_
    show mq_G mq_X2_fillsPlaces (33, [some (.ref 1), some (.ref b1), some (.ref b2), some (.int x3), some (.ref b4), some (.int x5)], [.int r4, .ref b4, .ref 1, .int x5, .ref b1], M) res
    obtain ⟨r5, k5, h⟩ := h
    refine mz_Go.callV (As := [.ref b4, .int r4]) (rest := [.int x5, .ref b1]) (rfl : mz_find 33 (mz_rows mq_X2_fillsPlaces) = some (33, .invokevirtual 73, 3, 27, 0, 35)) (rfl : mz_nth mq_tab 27 = some mq_X2_placeOf) rfl rfl rfl rfl (Nat.le_of_ble_eq_true rfl) (Nat.le_of_ble_eq_true rfl) k5 ?_
    show mq_G mq_X2_fillsPlaces (36, [some (.ref 1), some (.ref b1), some (.ref b2), some (.int x3), some (.ref b4), some (.int x5)], [.int r5, .int x5, .ref b1], M) res
    obtain ⟨q7, q8, h⟩ := h
    obtain ⟨M6, e6⟩ : ∃ y, y = mz_wr M b1 (upd (M.1 b1) x5.toNatClampNeg r5) := ⟨_, rfl⟩
    replace h := h M6 e6
    refine mz_Go.iast (rfl : mz_find 36 (mz_rows mq_X2_fillsPlaces) = some (36, .iastore, 1, 0, 0, 0)) q7 q8 ?_
    show mq_G mq_X2_fillsPlaces (37, [some (.ref 1), some (.ref b1), some (.ref b2), some (.int x3), some (.ref b4), some (.int x5)], [], (mz_wr M b1 (upd (M.1 b1) x5.toNatClampNeg r5))) res
    rw [← e6]
    refine mz_Go.steps (n := 2) (k2 := (40, [some (.ref 1), some (.ref b1), some (.ref b2), some (.int x3), some (.ref b4), some (.int x5)], [.int x5, .ref b1], M6)) (P := []) rfl mz_o0 ?_
    obtain ⟨q9, q10, h⟩ := h
    refine mz_Go.iald (rfl : mz_find 40 (mz_rows mq_X2_fillsPlaces) = some (40, .iaload, 1, 0, 0, 0)) q9 q10 ?_
    show mq_G mq_X2_fillsPlaces (41, [some (.ref 1), some (.ref b1), some (.ref b2), some (.int x3), some (.ref b4), some (.int x5)], [.int (M6.1 b1 x5.toNatClampNeg)], M6) res
    refine mz_Go.steps (n := 2) (k2 := (if ¬ (M6.1 b1 x5.toNatClampNeg) = (-1) then 47 else 45, [some (.ref 1), some (.ref b1), some (.ref b2), some (.int x3), some (.ref b4), some (.int x5)], [], M6)) (P := []) rfl mz_o0 ?_
    refine mz_Go.ite (fun c42 => ?_) (fun c42 => ?_)
    · replace h := h.1 c42
      refine mz_Go.steps (n := 2) (k2 := (3, [some (.ref 1), some (.ref b1), some (.ref b2), some (.int x3), some (.ref b4), some (.int (x5 + 1))], [], M6)) (P := []) rfl mz_o0 ?_
      exact h
    · replace h := h.2 c42
      refine mz_Go.steps (n := 1) (k2 := (46, [some (.ref 1), some (.ref b1), some (.ref b2), some (.int x3), some (.ref b4), some (.int x5)], [.int 0], M6)) (P := []) rfl mz_o0 ?_
      rw [h]
      exact mz_Go.zret (rfl : mz_find 46 (mz_rows mq_X2_fillsPlaces) = some (46, .ireturn, 1, 0, 0, 0)) rfl (Or.inl rfl)
set_option maxRecDepth 100000 in
set_option maxHeartbeats 4000000 in
theorem t_X3_remembers_0 (b1 : Nat) (M : mz_M) {res : mz_O} (h :
    (vp_in (M.1 20 1) 8) ∧
    (([22, 28, 34, 40, 46, 52, 58, 64] : List Nat).length = 8) ∧
    (∃ d10 : Nat, (mz_nth mq_sk ([22, 28, 34, 40, 46, 52, 58, 64].getD (M.1 20 1).toNatClampNeg 0) = some (.inr (5, [none, some d10]))) ∧ ∃ (M3 : mz_M), (mq_C mq_X7_becomes [.ref ([22, 28, 34, 40, 46, 52, 58, 64].getD (M.1 20 1).toNatClampNeg 0), .ref b1] M (none, M3)) ∧
    (∀ M5 : mz_M, M5 = mz_wr M3 20 (upd (M3.1 20) 1 (((M3.1 20 1) + 1) &&& 7)) →
    ((8 ≤ (M5.1 20 2) →
      (∀ M7 : mz_M, M7 = mz_wr M5 20 (upd (M5.1 20) 2 8) →
      res = (none, M7))) ∧
    (¬ (8 ≤ (M5.1 20 2)) →
      (∀ M8 : mz_M, M8 = mz_wr M5 20 (upd (M5.1 20) 2 ((M5.1 20 2) + 1)) →
      res = (none, M8))))))) :
    mq_G mq_X3_remembers (0, [some (.ref 20), some (.ref b1)], [], M) res := by
  obtain ⟨q1, q2, h⟩ := h
  refine mz_Go.steps (n := 6) (k2 := (10, [some (.ref 20), some (.ref b1)], [.ref b1, .ref ([22, 28, 34, 40, 46, 52, 58, 64].getD (M.1 20 1).toNatClampNeg 0)], M)) (P := [vp_in (M.1 20 1) 8, ([22, 28, 34, 40, 46, 52, 58, 64] : List Nat).length = 8]) rfl (mz_o2 q1 q2) ?_
  obtain ⟨d10, q4, M3, k3, h⟩ := h
  refine mz_Go.callV (As := [.ref b1]) (rest := []) (rfl : mz_find 10 (mz_rows mq_X3_remembers) = some (10, .invokevirtual 20, 3, 48, 0, 38)) (rfl : mz_nth mq_tab 48 = some mq_X7_becomes) q4 rfl rfl rfl (Nat.le_of_ble_eq_true rfl) (Nat.le_of_ble_eq_true rfl) k3 ?_
  show mq_G mq_X3_remembers (13, [some (.ref 20), some (.ref b1)], [], M3) res
  obtain ⟨M5, e5⟩ : ∃ y, y = mz_wr M3 20 (upd (M3.1 20) 1 (((M3.1 20 1) + 1) &&& 7)) := ⟨_, rfl⟩
  replace h := h M5 e5
  refine mz_Go.steps (n := 8) (k2 := (26, [some (.ref 20), some (.ref b1)], [], (mz_wr M3 20 (upd (M3.1 20) 1 (((M3.1 20 1) + 1) &&& 7))))) (P := []) rfl mz_o0 ?_
  rw [← e5]
  refine mz_Go.steps (n := 5) (k2 := (if 8 ≤ (M5.1 20 2) then 45 else 36, [some (.ref 20), some (.ref b1)], [.ref 20], M5)) (P := []) rfl mz_o0 ?_
  refine mz_Go.ite (fun c33 => ?_) (fun c33 => ?_)
  · replace h := h.1 c33
    obtain ⟨M7, e7⟩ : ∃ y, y = mz_wr M5 20 (upd (M5.1 20) 2 8) := ⟨_, rfl⟩
    replace h := h M7 e7
    refine mz_Go.steps (n := 2) (k2 := (50, [some (.ref 20), some (.ref b1)], [], (mz_wr M5 20 (upd (M5.1 20) 2 8)))) (P := []) rfl mz_o0 ?_
    rw [← e7]
    rw [h]
    exact mz_Go.vret (rfl : mz_find 50 (mz_rows mq_X3_remembers) = some (50, .return_, 1, 0, 0, 0)) rfl
  · replace h := h.2 c33
    obtain ⟨M8, e8⟩ : ∃ y, y = mz_wr M5 20 (upd (M5.1 20) 2 ((M5.1 20 2) + 1)) := ⟨_, rfl⟩
    replace h := h M8 e8
    refine mz_Go.steps (n := 6) (k2 := (50, [some (.ref 20), some (.ref b1)], [], (mz_wr M5 20 (upd (M5.1 20) 2 ((M5.1 20 2) + 1))))) (P := []) rfl mz_o0 ?_
    rw [← e8]
    rw [h]
    exact mz_Go.vret (rfl : mz_find 50 (mz_rows mq_X3_remembers) = some (50, .return_, 1, 0, 0, 0)) rfl
set_option maxRecDepth 100000 in
set_option maxHeartbeats 4000000 in
theorem t_X3_restores_0 (b1 : Nat) (M : mz_M) {res : mz_O} (h :
    ((¬ (M.1 20 2) = 0 →
      (∀ M2 : mz_M, M2 = mz_wr M 20 (upd (M.1 20) 1 ((((M.1 20 1) + 8) - 1) &&& 7)) →
      (∀ M3 : mz_M, M3 = mz_wr M2 20 (upd (M2.1 20) 2 ((M2.1 20 2) - 1)) →
      (vp_in (M3.1 20 1) 8) ∧
      (([22, 28, 34, 40, 46, 52, 58, 64] : List Nat).length = 8) ∧
      (∃ d45 : Nat, (mz_nth mq_sk b1 = some (.inr (5, [none, some d45]))) ∧ ∃ (M6 : mz_M), (mq_C mq_X7_becomes [.ref b1, .ref ([22, 28, 34, 40, 46, 52, 58, 64].getD (M3.1 20 1).toNatClampNeg 0)] M3 (none, M6)) ∧
      res = (some (.int 1), M6))))) ∧
    (¬ (¬ (M.1 20 2) = 0) →
      res = (some (.int 0), M)))) :
    mq_G mq_X3_restores (0, [some (.ref 20), some (.ref b1)], [], M) res := by
  refine mz_Go.steps (n := 3) (k2 := (if ¬ (M.1 20 2) = 0 then 9 else 7, [some (.ref 20), some (.ref b1)], [], M)) (P := []) rfl mz_o0 ?_
  refine mz_Go.ite (fun c4 => ?_) (fun c4 => ?_)
  · replace h := h.1 c4
    obtain ⟨M2, e2⟩ : ∃ y, y = mz_wr M 20 (upd (M.1 20) 1 ((((M.1 20 1) + 8) - 1) &&& 7)) := ⟨_, rfl⟩
    replace h := h M2 e2
    refine mz_Go.steps (n := 10) (k2 := (25, [some (.ref 20), some (.ref b1)], [], (mz_wr M 20 (upd (M.1 20) 1 ((((M.1 20 1) + 8) - 1) &&& 7))))) (P := []) rfl mz_o0 ?_
    rw [← e2]
    obtain ⟨M3, e3⟩ : ∃ y, y = mz_wr M2 20 (upd (M2.1 20) 2 ((M2.1 20 2) - 1)) := ⟨_, rfl⟩
    replace h := h M3 e3
    refine mz_Go.steps (n := 6) (k2 := (35, [some (.ref 20), some (.ref b1)], [], (mz_wr M2 20 (upd (M2.1 20) 2 ((M2.1 20 2) - 1))))) (P := []) rfl mz_o0 ?_
    rw [← e3]
    obtain ⟨q4, q5, h⟩ := h
    refine mz_Go.steps (n := 6) (k2 := (45, [some (.ref 20), some (.ref b1)], [.ref ([22, 28, 34, 40, 46, 52, 58, 64].getD (M3.1 20 1).toNatClampNeg 0), .ref b1], M3)) (P := [vp_in (M3.1 20 1) 8, ([22, 28, 34, 40, 46, 52, 58, 64] : List Nat).length = 8]) rfl (mz_o2 q4 q5) ?_
    obtain ⟨d45, q7, M6, k6, h⟩ := h
    refine mz_Go.callV (As := [.ref ([22, 28, 34, 40, 46, 52, 58, 64].getD (M3.1 20 1).toNatClampNeg 0)]) (rest := []) (rfl : mz_find 45 (mz_rows mq_X3_restores) = some (45, .invokevirtual 20, 3, 48, 0, 38)) (rfl : mz_nth mq_tab 48 = some mq_X7_becomes) q7 rfl rfl rfl (Nat.le_of_ble_eq_true rfl) (Nat.le_of_ble_eq_true rfl) k6 ?_
    show mq_G mq_X3_restores (48, [some (.ref 20), some (.ref b1)], [], M6) res
    refine mz_Go.steps (n := 1) (k2 := (49, [some (.ref 20), some (.ref b1)], [.int 1], M6)) (P := []) rfl mz_o0 ?_
    rw [h]
    exact mz_Go.zret (rfl : mz_find 49 (mz_rows mq_X3_restores) = some (49, .ireturn, 1, 0, 0, 0)) rfl (Or.inr rfl)
  · replace h := h.2 c4
    refine mz_Go.steps (n := 1) (k2 := (8, [some (.ref 20), some (.ref b1)], [.int 0], M)) (P := []) rfl mz_o0 ?_
    rw [h]
    exact mz_Go.zret (rfl : mz_find 8 (mz_rows mq_X3_restores) = some (8, .ireturn, 1, 0, 0, 0)) rfl (Or.inl rfl)
set_option maxRecDepth 100000 in
set_option maxHeartbeats 4000000 in
theorem t_X4_degreeOf_0 (x0 : Int32) (M : mz_M) {res : mz_O} (h :
    mq_G mq_X4_degreeOf (4, [some (.int x0), some (.int (-1)), some (.int 0)], [], M) res) :
    mq_G mq_X4_degreeOf (0, [some (.int x0), none, none], [], M) res := by
  refine mz_Go.steps (n := 4) (k2 := (4, [some (.int x0), some (.int (-1)), some (.int 0)], [], M)) (P := []) rfl mz_o0 ?_
  exact h
set_option maxRecDepth 100000 in
set_option maxHeartbeats 4000000 in
theorem t_X4_degreeOf_4 (x0 : Int32) (x1 : Int32) (x2 : Int32) (M : mz_M) {res : mz_O} (h :
    ((31 ≤ x2 →
      res = (some (.int x1), M)) ∧
    (¬ (31 ≤ x2) →
      (((x0 >>> (x2 &&& 31)) ≤ 0 →
        res = (some (.int x1), M)) ∧
      (¬ ((x0 >>> (x2 &&& 31)) ≤ 0) →
        mq_G mq_X4_degreeOf (4, [some (.int x0), some (.int x2), some (.int (x2 + 1))], [], M) res))))) :
    mq_G mq_X4_degreeOf (4, [some (.int x0), some (.int x1), some (.int x2)], [], M) res := by
  refine mz_Go.steps (n := 3) (k2 := (if 31 ≤ x2 then 24 else 10, [some (.int x0), some (.int x1), some (.int x2)], [], M)) (P := []) rfl mz_o0 ?_
  refine mz_Go.ite (fun c7 => ?_) (fun c7 => ?_)
  · replace h := h.1 c7
    refine mz_Go.steps (n := 1) (k2 := (25, [some (.int x0), some (.int x1), some (.int x2)], [.int x1], M)) (P := []) rfl mz_o0 ?_
    rw [h]
    exact mz_Go.iret (rfl : mz_find 25 (mz_rows mq_X4_degreeOf) = some (25, .ireturn, 1, 0, 0, 0)) rfl
  · replace h := h.2 c7
    refine mz_Go.steps (n := 4) (k2 := (if (x0 >>> (x2 &&& 31)) ≤ 0 then 24 else 16, [some (.int x0), some (.int x1), some (.int x2)], [], M)) (P := []) rfl mz_o0 ?_
    refine mz_Go.ite (fun c13 => ?_) (fun c13 => ?_)
    · replace h := h.1 c13
      refine mz_Go.steps (n := 1) (k2 := (25, [some (.int x0), some (.int x1), some (.int x2)], [.int x1], M)) (P := []) rfl mz_o0 ?_
      rw [h]
      exact mz_Go.iret (rfl : mz_find 25 (mz_rows mq_X4_degreeOf) = some (25, .ireturn, 1, 0, 0, 0)) rfl
    · replace h := h.2 c13
      refine mz_Go.steps (n := 4) (k2 := (4, [some (.int x0), some (.int x2), some (.int (x2 + 1))], [], M)) (P := []) rfl mz_o0 ?_
      exact h
set_option maxRecDepth 100000 in
set_option maxHeartbeats 4000000 in
theorem t_X4_remainder_0 (x0 : Int32) (x1 : Int32) (M : mz_M) {res : mz_O} (h :
    (∃ (r1 : Int32), (mq_C mq_X4_degreeOf [.int x1] M (some (.int r1), M)) ∧
    (∃ (r2 : Int32), (mq_C mq_X4_degreeOf [.int x0] M (some (.int r2), M)) ∧
    mq_G mq_X4_remainder (13, [some (.int x0), some (.int x1), some (.int r1), some (.int x0), some (.int r2)], [], M) res))) :
    mq_G mq_X4_remainder (0, [some (.int x0), some (.int x1), none, none, none], [], M) res := by
  refine mz_Go.steps (n := 1) (k2 := (1, [some (.int x0), some (.int x1), none, none, none], [.int x1], M)) (P := []) rfl mz_o0 ?_
  obtain ⟨r1, k1, h⟩ := h
  refine mz_Go.callS (As := [.int x1]) (rest := []) (rfl : mz_find 1 (mz_rows mq_X4_remainder) = some (1, .invokestatic 9, 3, 37, 0, 40)) (rfl : mz_nth mq_tab 37 = some mq_X4_degreeOf) (by decide) rfl rfl rfl (Nat.le_of_ble_eq_true rfl) (Nat.le_of_ble_eq_true rfl) k1 ?_
  show mq_G mq_X4_remainder (4, [some (.int x0), some (.int x1), none, none, none], [.int r1], M) res
  refine mz_Go.steps (n := 4) (k2 := (8, [some (.int x0), some (.int x1), some (.int r1), some (.int x0), none], [.int x0], M)) (P := []) rfl mz_o0 ?_
  obtain ⟨r2, k2, h⟩ := h
  refine mz_Go.callS (As := [.int x0]) (rest := []) (rfl : mz_find 8 (mz_rows mq_X4_remainder) = some (8, .invokestatic 9, 3, 37, 0, 40)) (rfl : mz_nth mq_tab 37 = some mq_X4_degreeOf) (by decide) rfl rfl rfl (Nat.le_of_ble_eq_true rfl) (Nat.le_of_ble_eq_true rfl) k2 ?_
  show mq_G mq_X4_remainder (11, [some (.int x0), some (.int x1), some (.int r1), some (.int x0), none], [.int r2], M) res
  refine mz_Go.steps (n := 1) (k2 := (13, [some (.int x0), some (.int x1), some (.int r1), some (.int x0), some (.int r2)], [], M)) (P := []) rfl mz_o0 ?_
  exact h
set_option maxRecDepth 100000 in
set_option maxHeartbeats 4000000 in
theorem t_X4_remainder_13 (o0 : Option Value) (x1 : Int32) (x2 : Int32) (x3 : Int32) (x4 : Int32) (M : mz_M) {res : mz_O} (h :
    ((x4 < x2 →
      res = (some (.int x3), M)) ∧
    (¬ (x4 < x2) →
      ((x2 < 0 →
        res = (some (.int x3), M)) ∧
      (¬ (x2 < 0) →
        ((((x3 >>> (x4 &&& 31)) &&& 1) = 0 →
          mq_G mq_X4_remainder (13, [o0, some (.int x1), some (.int x2), some (.int x3), some (.int (x4 + (-1)))], [], M) res) ∧
        (¬ (((x3 >>> (x4 &&& 31)) &&& 1) = 0) →
          mq_G mq_X4_remainder (13, [o0, some (.int x1), some (.int x2), some (.int (x3 ^^^ (x1 <<< ((x4 - x2) &&& 31)))), some (.int (x4 + (-1)))], [], M) res))))))) :
    mq_G mq_X4_remainder (13, [o0, some (.int x1), some (.int x2), some (.int x3), some (.int x4)], [], M) res := by
  refine mz_Go.steps (n := 3) (k2 := (if x4 < x2 then 47 else 19, [o0, some (.int x1), some (.int x2), some (.int x3), some (.int x4)], [], M)) (P := []) rfl mz_o0 ?_
  refine mz_Go.ite (fun c16 => ?_) (fun c16 => ?_)
  · replace h := h.1 c16
    refine mz_Go.steps (n := 1) (k2 := (48, [o0, some (.int x1), some (.int x2), some (.int x3), some (.int x4)], [.int x3], M)) (P := []) rfl mz_o0 ?_
    rw [h]
    exact mz_Go.iret (rfl : mz_find 48 (mz_rows mq_X4_remainder) = some (48, .ireturn, 1, 0, 0, 0)) rfl
  · replace h := h.2 c16
    refine mz_Go.steps (n := 2) (k2 := (if x2 < 0 then 47 else 23, [o0, some (.int x1), some (.int x2), some (.int x3), some (.int x4)], [], M)) (P := []) rfl mz_o0 ?_
    refine mz_Go.ite (fun c20 => ?_) (fun c20 => ?_)
    · replace h := h.1 c20
      refine mz_Go.steps (n := 1) (k2 := (48, [o0, some (.int x1), some (.int x2), some (.int x3), some (.int x4)], [.int x3], M)) (P := []) rfl mz_o0 ?_
      rw [h]
      exact mz_Go.iret (rfl : mz_find 48 (mz_rows mq_X4_remainder) = some (48, .ireturn, 1, 0, 0, 0)) rfl
    · replace h := h.2 c20
      refine mz_Go.steps (n := 6) (k2 := (if ((x3 >>> (x4 &&& 31)) &&& 1) = 0 then 41 else 32, [o0, some (.int x1), some (.int x2), some (.int x3), some (.int x4)], [], M)) (P := []) rfl mz_o0 ?_
      refine mz_Go.ite (fun c29 => ?_) (fun c29 => ?_)
      · replace h := h.1 c29
        refine mz_Go.steps (n := 2) (k2 := (13, [o0, some (.int x1), some (.int x2), some (.int x3), some (.int (x4 + (-1)))], [], M)) (P := []) rfl mz_o0 ?_
        exact h
      · replace h := h.2 c29
        refine mz_Go.steps (n := 10) (k2 := (13, [o0, some (.int x1), some (.int x2), some (.int (x3 ^^^ (x1 <<< ((x4 - x2) &&& 31)))), some (.int (x4 + (-1)))], [], M)) (P := []) rfl mz_o0 ?_
        exact h
set_option maxRecDepth 100000 in
set_option maxHeartbeats 4000000 in
theorem t_X4_quotient_0 (x0 : Int32) (x1 : Int32) (M : mz_M) {res : mz_O} (h :
    (∃ (r1 : Int32), (mq_C mq_X4_degreeOf [.int x1] M (some (.int r1), M)) ∧
    (∃ (r2 : Int32), (mq_C mq_X4_degreeOf [.int x0] M (some (.int r2), M)) ∧
    mq_G mq_X4_quotient (16, [some (.int x0), some (.int x1), some (.int r1), some (.int x0), some (.int 0), some (.int r2)], [], M) res))) :
    mq_G mq_X4_quotient (0, [some (.int x0), some (.int x1), none, none, none, none], [], M) res := by
  refine mz_Go.steps (n := 1) (k2 := (1, [some (.int x0), some (.int x1), none, none, none, none], [.int x1], M)) (P := []) rfl mz_o0 ?_
  obtain ⟨r1, k1, h⟩ := h
  refine mz_Go.callS (As := [.int x1]) (rest := []) (rfl : mz_find 1 (mz_rows mq_X4_quotient) = some (1, .invokestatic 9, 3, 37, 0, 40)) (rfl : mz_nth mq_tab 37 = some mq_X4_degreeOf) (by decide) rfl rfl rfl (Nat.le_of_ble_eq_true rfl) (Nat.le_of_ble_eq_true rfl) k1 ?_
  show mq_G mq_X4_quotient (4, [some (.int x0), some (.int x1), none, none, none, none], [.int r1], M) res
  refine mz_Go.steps (n := 6) (k2 := (11, [some (.int x0), some (.int x1), some (.int r1), some (.int x0), some (.int 0), none], [.int x0], M)) (P := []) rfl mz_o0 ?_
  obtain ⟨r2, k2, h⟩ := h
  refine mz_Go.callS (As := [.int x0]) (rest := []) (rfl : mz_find 11 (mz_rows mq_X4_quotient) = some (11, .invokestatic 9, 3, 37, 0, 40)) (rfl : mz_nth mq_tab 37 = some mq_X4_degreeOf) (by decide) rfl rfl rfl (Nat.le_of_ble_eq_true rfl) (Nat.le_of_ble_eq_true rfl) k2 ?_
  show mq_G mq_X4_quotient (14, [some (.int x0), some (.int x1), some (.int r1), some (.int x0), some (.int 0), none], [.int r2], M) res
  refine mz_Go.steps (n := 1) (k2 := (16, [some (.int x0), some (.int x1), some (.int r1), some (.int x0), some (.int 0), some (.int r2)], [], M)) (P := []) rfl mz_o0 ?_
  exact h
set_option maxRecDepth 100000 in
set_option maxHeartbeats 4000000 in
theorem t_X4_quotient_16 (o0 : Option Value) (x1 : Int32) (x2 : Int32) (x3 : Int32) (x4 : Int32) (x5 : Int32) (M : mz_M) {res : mz_O} (h :
    ((x5 < x2 →
      res = (some (.int x4), M)) ∧
    (¬ (x5 < x2) →
      ((x2 < 0 →
        res = (some (.int x4), M)) ∧
      (¬ (x2 < 0) →
        ((((x3 >>> (x5 &&& 31)) &&& 1) = 0 →
          mq_G mq_X4_quotient (16, [o0, some (.int x1), some (.int x2), some (.int x3), some (.int x4), some (.int (x5 + (-1)))], [], M) res) ∧
        (¬ (((x3 >>> (x5 &&& 31)) &&& 1) = 0) →
          mq_G mq_X4_quotient (16, [o0, some (.int x1), some (.int x2), some (.int (x3 ^^^ (x1 <<< ((x5 - x2) &&& 31)))), some (.int (x4 ||| ((1 : Int32) <<< ((x5 - x2) &&& 31)))), some (.int (x5 + (-1)))], [], M) res))))))) :
    mq_G mq_X4_quotient (16, [o0, some (.int x1), some (.int x2), some (.int x3), some (.int x4), some (.int x5)], [], M) res := by
  refine mz_Go.steps (n := 3) (k2 := (if x5 < x2 then 61 else 22, [o0, some (.int x1), some (.int x2), some (.int x3), some (.int x4), some (.int x5)], [], M)) (P := []) rfl mz_o0 ?_
  refine mz_Go.ite (fun c19 => ?_) (fun c19 => ?_)
  · replace h := h.1 c19
    refine mz_Go.steps (n := 1) (k2 := (63, [o0, some (.int x1), some (.int x2), some (.int x3), some (.int x4), some (.int x5)], [.int x4], M)) (P := []) rfl mz_o0 ?_
    rw [h]
    exact mz_Go.iret (rfl : mz_find 63 (mz_rows mq_X4_quotient) = some (63, .ireturn, 1, 0, 0, 0)) rfl
  · replace h := h.2 c19
    refine mz_Go.steps (n := 2) (k2 := (if x2 < 0 then 61 else 26, [o0, some (.int x1), some (.int x2), some (.int x3), some (.int x4), some (.int x5)], [], M)) (P := []) rfl mz_o0 ?_
    refine mz_Go.ite (fun c23 => ?_) (fun c23 => ?_)
    · replace h := h.1 c23
      refine mz_Go.steps (n := 1) (k2 := (63, [o0, some (.int x1), some (.int x2), some (.int x3), some (.int x4), some (.int x5)], [.int x4], M)) (P := []) rfl mz_o0 ?_
      rw [h]
      exact mz_Go.iret (rfl : mz_find 63 (mz_rows mq_X4_quotient) = some (63, .ireturn, 1, 0, 0, 0)) rfl
    · replace h := h.2 c23
      refine mz_Go.steps (n := 6) (k2 := (if ((x3 >>> (x5 &&& 31)) &&& 1) = 0 then 55 else 35, [o0, some (.int x1), some (.int x2), some (.int x3), some (.int x4), some (.int x5)], [], M)) (P := []) rfl mz_o0 ?_
      refine mz_Go.ite (fun c32 => ?_) (fun c32 => ?_)
      · replace h := h.1 c32
        refine mz_Go.steps (n := 2) (k2 := (16, [o0, some (.int x1), some (.int x2), some (.int x3), some (.int x4), some (.int (x5 + (-1)))], [], M)) (P := []) rfl mz_o0 ?_
        exact h
      · replace h := h.2 c32
        refine mz_Go.steps (n := 18) (k2 := (16, [o0, some (.int x1), some (.int x2), some (.int (x3 ^^^ (x1 <<< ((x5 - x2) &&& 31)))), some (.int (x4 ||| ((1 : Int32) <<< ((x5 - x2) &&& 31)))), some (.int (x5 + (-1)))], [], M)) (P := []) rfl mz_o0 ?_
        exact h
set_option maxRecDepth 100000 in
set_option maxHeartbeats 4000000 in
theorem t_X4_isIrreducible_0 (x0 : Int32) (M : mz_M) {res : mz_O} (h :
    (∃ (r1 : Int32), (mq_C mq_X4_degreeOf [.int x0] M (some (.int r1), M)) ∧
    ((r1 < 1 →
      res = (some (.int 0), M)) ∧
    (¬ (r1 < 1) →
      ((r1 ≤ 9 →
        mq_G mq_X4_isIrreducible (20, [some (.int x0), some (.int r1), some (.int 2)], [], M) res) ∧
      (¬ (r1 ≤ 9) →
        res = (some (.int 0), M))))))) :
    mq_G mq_X4_isIrreducible (0, [some (.int x0), none, none], [], M) res := by
  refine mz_Go.steps (n := 1) (k2 := (1, [some (.int x0), none, none], [.int x0], M)) (P := []) rfl mz_o0 ?_
  obtain ⟨r1, k1, h⟩ := h
  refine mz_Go.callS (As := [.int x0]) (rest := []) (rfl : mz_find 1 (mz_rows mq_X4_isIrreducible) = some (1, .invokestatic 9, 3, 37, 0, 40)) (rfl : mz_nth mq_tab 37 = some mq_X4_degreeOf) (by decide) rfl rfl rfl (Nat.le_of_ble_eq_true rfl) (Nat.le_of_ble_eq_true rfl) k1 ?_
  show mq_G mq_X4_isIrreducible (4, [some (.int x0), none, none], [.int r1], M) res
  refine mz_Go.steps (n := 4) (k2 := (if r1 < 1 then 16 else 10, [some (.int x0), some (.int r1), none], [], M)) (P := []) rfl mz_o0 ?_
  refine mz_Go.ite (fun c7 => ?_) (fun c7 => ?_)
  · replace h := h.1 c7
    refine mz_Go.steps (n := 1) (k2 := (17, [some (.int x0), some (.int r1), none], [.int 0], M)) (P := []) rfl mz_o0 ?_
    rw [h]
    exact mz_Go.zret (rfl : mz_find 17 (mz_rows mq_X4_isIrreducible) = some (17, .ireturn, 1, 0, 0, 0)) rfl (Or.inl rfl)
  · replace h := h.2 c7
    refine mz_Go.steps (n := 3) (k2 := (if r1 ≤ 9 then 18 else 16, [some (.int x0), some (.int r1), none], [], M)) (P := []) rfl mz_o0 ?_
    refine mz_Go.ite (fun c13 => ?_) (fun c13 => ?_)
    · replace h := h.1 c13
      refine mz_Go.steps (n := 2) (k2 := (20, [some (.int x0), some (.int r1), some (.int 2)], [], M)) (P := []) rfl mz_o0 ?_
      exact h
    · replace h := h.2 c13
      refine mz_Go.steps (n := 1) (k2 := (17, [some (.int x0), some (.int r1), none], [.int 0], M)) (P := []) rfl mz_o0 ?_
      rw [h]
      exact mz_Go.zret (rfl : mz_find 17 (mz_rows mq_X4_isIrreducible) = some (17, .ireturn, 1, 0, 0, 0)) rfl (Or.inl rfl)
set_option maxRecDepth 100000 in
set_option maxHeartbeats 4000000 in
theorem t_X4_isIrreducible_20 (x0 : Int32) (x1 : Int32) (x2 : Int32) (M : mz_M) {res : mz_O} (h :
    ((32 ≤ x2 →
      res = (some (.int 1), M)) ∧
    (¬ (32 ≤ x2) →
      (∃ (r2 : Int32), (mq_C mq_X4_degreeOf [.int x2] M (some (.int r2), M)) ∧
      ((x1 < (2 * r2) →
        res = (some (.int 1), M)) ∧
      (¬ (x1 < (2 * r2)) →
        (∃ (r4 : Int32), (mq_C mq_X4_remainder [.int x0, .int x2] M (some (.int r4), M)) ∧
        ((¬ r4 = 0 →
          mq_G mq_X4_isIrreducible (20, [some (.int x0), some (.int x1), some (.int (x2 + 1))], [], M) res) ∧
        (¬ (¬ r4 = 0) →
          res = (some (.int 0), M)))))))))) :
    mq_G mq_X4_isIrreducible (20, [some (.int x0), some (.int x1), some (.int x2)], [], M) res := by
  refine mz_Go.steps (n := 3) (k2 := (if 32 ≤ x2 then 52 else 26, [some (.int x0), some (.int x1), some (.int x2)], [], M)) (P := []) rfl mz_o0 ?_
  refine mz_Go.ite (fun c23 => ?_) (fun c23 => ?_)
  · replace h := h.1 c23
    refine mz_Go.steps (n := 1) (k2 := (53, [some (.int x0), some (.int x1), some (.int x2)], [.int 1], M)) (P := []) rfl mz_o0 ?_
    rw [h]
    exact mz_Go.zret (rfl : mz_find 53 (mz_rows mq_X4_isIrreducible) = some (53, .ireturn, 1, 0, 0, 0)) rfl (Or.inr rfl)
  · replace h := h.2 c23
    refine mz_Go.steps (n := 2) (k2 := (28, [some (.int x0), some (.int x1), some (.int x2)], [.int x2, .int 2], M)) (P := []) rfl mz_o0 ?_
    obtain ⟨r2, k2, h⟩ := h
    refine mz_Go.callS (As := [.int x2]) (rest := [.int 2]) (rfl : mz_find 28 (mz_rows mq_X4_isIrreducible) = some (28, .invokestatic 9, 3, 37, 0, 40)) (rfl : mz_nth mq_tab 37 = some mq_X4_degreeOf) (by decide) rfl rfl rfl (Nat.le_of_ble_eq_true rfl) (Nat.le_of_ble_eq_true rfl) k2 ?_
    show mq_G mq_X4_isIrreducible (31, [some (.int x0), some (.int x1), some (.int x2)], [.int r2, .int 2], M) res
    refine mz_Go.steps (n := 3) (k2 := (if x1 < (2 * r2) then 52 else 36, [some (.int x0), some (.int x1), some (.int x2)], [], M)) (P := []) rfl mz_o0 ?_
    refine mz_Go.ite (fun c33 => ?_) (fun c33 => ?_)
    · replace h := h.1 c33
      refine mz_Go.steps (n := 1) (k2 := (53, [some (.int x0), some (.int x1), some (.int x2)], [.int 1], M)) (P := []) rfl mz_o0 ?_
      rw [h]
      exact mz_Go.zret (rfl : mz_find 53 (mz_rows mq_X4_isIrreducible) = some (53, .ireturn, 1, 0, 0, 0)) rfl (Or.inr rfl)
    · replace h := h.2 c33
      refine mz_Go.steps (n := 2) (k2 := (38, [some (.int x0), some (.int x1), some (.int x2)], [.int x2, .int x0], M)) (P := []) rfl mz_o0 ?_
      obtain ⟨r4, k4, h⟩ := h
      refine mz_Go.callS (As := [.int x0, .int x2]) (rest := []) (rfl : mz_find 38 (mz_rows mq_X4_isIrreducible) = some (38, .invokestatic 15, 3, 38, 0, 41)) (rfl : mz_nth mq_tab 38 = some mq_X4_remainder) (by decide) rfl rfl rfl (Nat.le_of_ble_eq_true rfl) (Nat.le_of_ble_eq_true rfl) k4 ?_
      show mq_G mq_X4_isIrreducible (41, [some (.int x0), some (.int x1), some (.int x2)], [.int r4], M) res
      refine mz_Go.steps (n := 1) (k2 := (if ¬ r4 = 0 then 46 else 44, [some (.int x0), some (.int x1), some (.int x2)], [], M)) (P := []) rfl mz_o0 ?_
      refine mz_Go.ite (fun c41 => ?_) (fun c41 => ?_)
      · replace h := h.1 c41
        refine mz_Go.steps (n := 2) (k2 := (20, [some (.int x0), some (.int x1), some (.int (x2 + 1))], [], M)) (P := []) rfl mz_o0 ?_
        exact h
      · replace h := h.2 c41
        refine mz_Go.steps (n := 1) (k2 := (45, [some (.int x0), some (.int x1), some (.int x2)], [.int 0], M)) (P := []) rfl mz_o0 ?_
        rw [h]
        exact mz_Go.zret (rfl : mz_find 45 (mz_rows mq_X4_isIrreducible) = some (45, .ireturn, 1, 0, 0, 0)) rfl (Or.inl rfl)
set_option maxRecDepth 100000 in
set_option maxHeartbeats 4000000 in
theorem t_X4_isGeneratedByX_0 (x0 : Int32) (M : mz_M) {res : mz_O} (h :
    (∃ (r1 : Int32), (mq_C mq_X4_degreeOf [.int x0] M (some (.int r1), M)) ∧
    mq_G mq_X4_isGeneratedByX (16, [some (.int x0), some (.int r1), some (.int (((1 : Int32) <<< (r1 &&& 31)) - 1)), some (.int 2), some (.int 1)], [], M) res)) :
    mq_G mq_X4_isGeneratedByX (0, [some (.int x0), none, none, none, none], [], M) res := by
  refine mz_Go.steps (n := 1) (k2 := (1, [some (.int x0), none, none, none, none], [.int x0], M)) (P := []) rfl mz_o0 ?_
  obtain ⟨r1, k1, h⟩ := h
  refine mz_Go.callS (As := [.int x0]) (rest := []) (rfl : mz_find 1 (mz_rows mq_X4_isGeneratedByX) = some (1, .invokestatic 9, 3, 37, 0, 40)) (rfl : mz_nth mq_tab 37 = some mq_X4_degreeOf) (by decide) rfl rfl rfl (Nat.le_of_ble_eq_true rfl) (Nat.le_of_ble_eq_true rfl) k1 ?_
  show mq_G mq_X4_isGeneratedByX (4, [some (.int x0), none, none, none, none], [.int r1], M) res
  refine mz_Go.steps (n := 11) (k2 := (16, [some (.int x0), some (.int r1), some (.int (((1 : Int32) <<< (r1 &&& 31)) - 1)), some (.int 2), some (.int 1)], [], M)) (P := []) rfl mz_o0 ?_
  exact h
set_option maxRecDepth 100000 in
set_option maxHeartbeats 4000000 in
theorem t_X4_isGeneratedByX_16 (x0 : Int32) (o1 : Option Value) (x2 : Int32) (x3 : Int32) (x4 : Int32) (M : mz_M) {res : mz_O} (h :
    ((x2 ≤ x4 →
      ((¬ x3 = 1 →
        res = (some (.int 0), M)) ∧
      (¬ (¬ x3 = 1) →
        res = (some (.int 1), M)))) ∧
    (¬ (x2 ≤ x4) →
      ((¬ x3 = 1 →
        (∃ (r4 : Int32), (mq_C mq_X4_remainder [.int (x3 <<< (1 &&& 31)), .int x0] M (some (.int r4), M)) ∧
        mq_G mq_X4_isGeneratedByX (16, [some (.int x0), o1, some (.int x2), some (.int r4), some (.int (x4 + 1))], [], M) res)) ∧
      (¬ (¬ x3 = 1) →
        res = (some (.int 0), M)))))) :
    mq_G mq_X4_isGeneratedByX (16, [some (.int x0), o1, some (.int x2), some (.int x3), some (.int x4)], [], M) res := by
  refine mz_Go.steps (n := 3) (k2 := (if x2 ≤ x4 then 43 else 22, [some (.int x0), o1, some (.int x2), some (.int x3), some (.int x4)], [], M)) (P := []) rfl mz_o0 ?_
  refine mz_Go.ite (fun c19 => ?_) (fun c19 => ?_)
  · replace h := h.1 c19
    refine mz_Go.steps (n := 3) (k2 := (if ¬ x3 = 1 then 52 else 48, [some (.int x0), o1, some (.int x2), some (.int x3), some (.int x4)], [], M)) (P := []) rfl mz_o0 ?_
    refine mz_Go.ite (fun c45 => ?_) (fun c45 => ?_)
    · replace h := h.1 c45
      refine mz_Go.steps (n := 1) (k2 := (53, [some (.int x0), o1, some (.int x2), some (.int x3), some (.int x4)], [.int 0], M)) (P := []) rfl mz_o0 ?_
      rw [h]
      exact mz_Go.zret (rfl : mz_find 53 (mz_rows mq_X4_isGeneratedByX) = some (53, .ireturn, 1, 0, 0, 0)) rfl (Or.inl rfl)
    · replace h := h.2 c45
      refine mz_Go.steps (n := 2) (k2 := (53, [some (.int x0), o1, some (.int x2), some (.int x3), some (.int x4)], [.int 1], M)) (P := []) rfl mz_o0 ?_
      rw [h]
      exact mz_Go.zret (rfl : mz_find 53 (mz_rows mq_X4_isGeneratedByX) = some (53, .ireturn, 1, 0, 0, 0)) rfl (Or.inr rfl)
  · replace h := h.2 c19
    refine mz_Go.steps (n := 3) (k2 := (if ¬ x3 = 1 then 29 else 27, [some (.int x0), o1, some (.int x2), some (.int x3), some (.int x4)], [], M)) (P := []) rfl mz_o0 ?_
    refine mz_Go.ite (fun c24 => ?_) (fun c24 => ?_)
    · replace h := h.1 c24
      refine mz_Go.steps (n := 4) (k2 := (33, [some (.int x0), o1, some (.int x2), some (.int x3), some (.int x4)], [.int x0, .int (x3 <<< (1 &&& 31))], M)) (P := []) rfl mz_o0 ?_
      obtain ⟨r4, k4, h⟩ := h
      refine mz_Go.callS (As := [.int (x3 <<< (1 &&& 31)), .int x0]) (rest := []) (rfl : mz_find 33 (mz_rows mq_X4_isGeneratedByX) = some (33, .invokestatic 15, 3, 38, 0, 41)) (rfl : mz_nth mq_tab 38 = some mq_X4_remainder) (by decide) rfl rfl rfl (Nat.le_of_ble_eq_true rfl) (Nat.le_of_ble_eq_true rfl) k4 ?_
      show mq_G mq_X4_isGeneratedByX (36, [some (.int x0), o1, some (.int x2), some (.int x3), some (.int x4)], [.int r4], M) res
      refine mz_Go.steps (n := 3) (k2 := (16, [some (.int x0), o1, some (.int x2), some (.int r4), some (.int (x4 + 1))], [], M)) (P := []) rfl mz_o0 ?_
      exact h
    · replace h := h.2 c24
      refine mz_Go.steps (n := 1) (k2 := (28, [some (.int x0), o1, some (.int x2), some (.int x3), some (.int x4)], [.int 0], M)) (P := []) rfl mz_o0 ?_
      rw [h]
      exact mz_Go.zret (rfl : mz_find 28 (mz_rows mq_X4_isGeneratedByX) = some (28, .ireturn, 1, 0, 0, 0)) rfl (Or.inl rfl)
set_option maxRecDepth 100000 in
set_option maxHeartbeats 4000000 in
theorem t_X5_isPrime_0 (x0 : Int32) (M : mz_M) {res : mz_O} (h :
    mq_G mq_X5_isPrime (2, [some (.int x0), some (.int 2)], [], M) res) :
    mq_G mq_X5_isPrime (0, [some (.int x0), none], [], M) res := by
  refine mz_Go.steps (n := 2) (k2 := (2, [some (.int x0), some (.int 2)], [], M)) (P := []) rfl mz_o0 ?_
  exact h
set_option maxRecDepth 100000 in
set_option maxHeartbeats 4000000 in
theorem t_X5_isPrime_2 (x0 : Int32) (x1 : Int32) (M : mz_M) {res : mz_O} (h :
    ((x0 < (x1 * x1) →
      ((x0 ≤ 1 →
        res = (some (.int 0), M)) ∧
      (¬ (x0 ≤ 1) →
        res = (some (.int 1), M)))) ∧
    (¬ (x0 < (x1 * x1)) →
      ((1000 ≤ x1 →
        ((x0 ≤ 1 →
          res = (some (.int 0), M)) ∧
        (¬ (x0 ≤ 1) →
          res = (some (.int 1), M)))) ∧
      (¬ (1000 ≤ x1) →
        (¬ x1 = 0) ∧
        ((¬ (x0 - x0 / x1 * x1) = 0 →
          mq_G mq_X5_isPrime (2, [some (.int x0), some (.int (x1 + 1))], [], M) res) ∧
        (¬ (¬ (x0 - x0 / x1 * x1) = 0) →
          res = (some (.int 0), M)))))))) :
    mq_G mq_X5_isPrime (2, [some (.int x0), some (.int x1)], [], M) res := by
  refine mz_Go.steps (n := 5) (k2 := (if x0 < (x1 * x1) then 30 else 9, [some (.int x0), some (.int x1)], [], M)) (P := []) rfl mz_o0 ?_
  refine mz_Go.ite (fun c6 => ?_) (fun c6 => ?_)
  · replace h := h.1 c6
    refine mz_Go.steps (n := 3) (k2 := (if x0 ≤ 1 then 39 else 35, [some (.int x0), some (.int x1)], [], M)) (P := []) rfl mz_o0 ?_
    refine mz_Go.ite (fun c32 => ?_) (fun c32 => ?_)
    · replace h := h.1 c32
      refine mz_Go.steps (n := 1) (k2 := (40, [some (.int x0), some (.int x1)], [.int 0], M)) (P := []) rfl mz_o0 ?_
      rw [h]
      exact mz_Go.zret (rfl : mz_find 40 (mz_rows mq_X5_isPrime) = some (40, .ireturn, 1, 0, 0, 0)) rfl (Or.inl rfl)
    · replace h := h.2 c32
      refine mz_Go.steps (n := 2) (k2 := (40, [some (.int x0), some (.int x1)], [.int 1], M)) (P := []) rfl mz_o0 ?_
      rw [h]
      exact mz_Go.zret (rfl : mz_find 40 (mz_rows mq_X5_isPrime) = some (40, .ireturn, 1, 0, 0, 0)) rfl (Or.inr rfl)
  · replace h := h.2 c6
    refine mz_Go.steps (n := 3) (k2 := (if 1000 ≤ x1 then 30 else 16, [some (.int x0), some (.int x1)], [], M)) (P := []) rfl mz_o0 ?_
    refine mz_Go.ite (fun c13 => ?_) (fun c13 => ?_)
    · replace h := h.1 c13
      refine mz_Go.steps (n := 3) (k2 := (if x0 ≤ 1 then 39 else 35, [some (.int x0), some (.int x1)], [], M)) (P := []) rfl mz_o0 ?_
      refine mz_Go.ite (fun c32 => ?_) (fun c32 => ?_)
      · replace h := h.1 c32
        refine mz_Go.steps (n := 1) (k2 := (40, [some (.int x0), some (.int x1)], [.int 0], M)) (P := []) rfl mz_o0 ?_
        rw [h]
        exact mz_Go.zret (rfl : mz_find 40 (mz_rows mq_X5_isPrime) = some (40, .ireturn, 1, 0, 0, 0)) rfl (Or.inl rfl)
      · replace h := h.2 c32
        refine mz_Go.steps (n := 2) (k2 := (40, [some (.int x0), some (.int x1)], [.int 1], M)) (P := []) rfl mz_o0 ?_
        rw [h]
        exact mz_Go.zret (rfl : mz_find 40 (mz_rows mq_X5_isPrime) = some (40, .ireturn, 1, 0, 0, 0)) rfl (Or.inr rfl)
    · replace h := h.2 c13
      obtain ⟨q6, h⟩ := h
      refine mz_Go.steps (n := 4) (k2 := (if ¬ (x0 - x0 / x1 * x1) = 0 then 24 else 22, [some (.int x0), some (.int x1)], [], M)) (P := [¬ x1 = 0]) rfl (mz_o1 q6) ?_
      refine mz_Go.ite (fun c19 => ?_) (fun c19 => ?_)
      · replace h := h.1 c19
        refine mz_Go.steps (n := 2) (k2 := (2, [some (.int x0), some (.int (x1 + 1))], [], M)) (P := []) rfl mz_o0 ?_
        exact h
      · replace h := h.2 c19
        refine mz_Go.steps (n := 1) (k2 := (23, [some (.int x0), some (.int x1)], [.int 0], M)) (P := []) rfl mz_o0 ?_
        rw [h]
        exact mz_Go.zret (rfl : mz_find 23 (mz_rows mq_X5_isPrime) = some (23, .ireturn, 1, 0, 0, 0)) rfl (Or.inl rfl)
set_option maxRecDepth 100000 in
set_option maxHeartbeats 4000000 in
theorem t_X5_powersOfTwo_0 (x0 : Int32) (M : mz_M) {res : mz_O} (h :
    (∃ (r1 : Int32), (mq_C mq_X5_isPrime [.int x0] M (some (.int r1), M)) ∧
    ((r1 = 0 →
      res = (some (.int 0), M)) ∧
    (¬ (r1 = 0) →
      ((3 ≤ x0 →
        mq_G mq_X5_powersOfTwo (20, [some (.int x0), some (.int 2), some (.int 1), some (.int 0)], [], M) res) ∧
      (¬ (3 ≤ x0) →
        res = (some (.int 0), M))))))) :
    mq_G mq_X5_powersOfTwo (0, [some (.int x0), none, none, none], [], M) res := by
  refine mz_Go.steps (n := 1) (k2 := (1, [some (.int x0), none, none, none], [.int x0], M)) (P := []) rfl mz_o0 ?_
  obtain ⟨r1, k1, h⟩ := h
  refine mz_Go.callS (As := [.int x0]) (rest := []) (rfl : mz_find 1 (mz_rows mq_X5_powersOfTwo) = some (1, .invokestatic 7, 3, 42, 0, 42)) (rfl : mz_nth mq_tab 42 = some mq_X5_isPrime) (by decide) rfl rfl rfl (Nat.le_of_ble_eq_true rfl) (Nat.le_of_ble_eq_true rfl) k1 ?_
  show mq_G mq_X5_powersOfTwo (4, [some (.int x0), none, none, none], [.int r1], M) res
  refine mz_Go.steps (n := 1) (k2 := (if r1 = 0 then 12 else 7, [some (.int x0), none, none, none], [], M)) (P := []) rfl mz_o0 ?_
  refine mz_Go.ite (fun c4 => ?_) (fun c4 => ?_)
  · replace h := h.1 c4
    refine mz_Go.steps (n := 1) (k2 := (13, [some (.int x0), none, none, none], [.int 0], M)) (P := []) rfl mz_o0 ?_
    rw [h]
    exact mz_Go.iret (rfl : mz_find 13 (mz_rows mq_X5_powersOfTwo) = some (13, .ireturn, 1, 0, 0, 0)) rfl
  · replace h := h.2 c4
    refine mz_Go.steps (n := 3) (k2 := (if 3 ≤ x0 then 14 else 12, [some (.int x0), none, none, none], [], M)) (P := []) rfl mz_o0 ?_
    refine mz_Go.ite (fun c9 => ?_) (fun c9 => ?_)
    · replace h := h.1 c9
      refine mz_Go.steps (n := 6) (k2 := (20, [some (.int x0), some (.int 2), some (.int 1), some (.int 0)], [], M)) (P := []) rfl mz_o0 ?_
      exact h
    · replace h := h.2 c9
      refine mz_Go.steps (n := 1) (k2 := (13, [some (.int x0), none, none, none], [.int 0], M)) (P := []) rfl mz_o0 ?_
      rw [h]
      exact mz_Go.iret (rfl : mz_find 13 (mz_rows mq_X5_powersOfTwo) = some (13, .ireturn, 1, 0, 0, 0)) rfl
set_option maxRecDepth 100000 in
set_option maxHeartbeats 4000000 in
theorem t_X5_powersOfTwo_20 (x0 : Int32) (x1 : Int32) (x2 : Int32) (x3 : Int32) (M : mz_M) {res : mz_O} (h :
    ((x0 ≤ x3 →
      res = (some (.int x2), M)) ∧
    (¬ (x0 ≤ x3) →
      ((x1 = 1 →
        res = (some (.int x2), M)) ∧
      (¬ (x1 = 1) →
        (¬ x0 = 0) ∧
        mq_G mq_X5_powersOfTwo (20, [some (.int x0), some (.int ((x1 * 2) - (x1 * 2) / x0 * x0)), some (.int (x2 + 1)), some (.int (x3 + 1))], [], M) res))))) :
    mq_G mq_X5_powersOfTwo (20, [some (.int x0), some (.int x1), some (.int x2), some (.int x3)], [], M) res := by
  refine mz_Go.steps (n := 3) (k2 := (if x0 ≤ x3 then 45 else 25, [some (.int x0), some (.int x1), some (.int x2), some (.int x3)], [], M)) (P := []) rfl mz_o0 ?_
  refine mz_Go.ite (fun c22 => ?_) (fun c22 => ?_)
  · replace h := h.1 c22
    refine mz_Go.steps (n := 1) (k2 := (46, [some (.int x0), some (.int x1), some (.int x2), some (.int x3)], [.int x2], M)) (P := []) rfl mz_o0 ?_
    rw [h]
    exact mz_Go.iret (rfl : mz_find 46 (mz_rows mq_X5_powersOfTwo) = some (46, .ireturn, 1, 0, 0, 0)) rfl
  · replace h := h.2 c22
    refine mz_Go.steps (n := 3) (k2 := (if x1 = 1 then 45 else 30, [some (.int x0), some (.int x1), some (.int x2), some (.int x3)], [], M)) (P := []) rfl mz_o0 ?_
    refine mz_Go.ite (fun c27 => ?_) (fun c27 => ?_)
    · replace h := h.1 c27
      refine mz_Go.steps (n := 1) (k2 := (46, [some (.int x0), some (.int x1), some (.int x2), some (.int x3)], [.int x2], M)) (P := []) rfl mz_o0 ?_
      rw [h]
      exact mz_Go.iret (rfl : mz_find 46 (mz_rows mq_X5_powersOfTwo) = some (46, .ireturn, 1, 0, 0, 0)) rfl
    · replace h := h.2 c27
      obtain ⟨q3, h⟩ := h
      refine mz_Go.steps (n := 9) (k2 := (20, [some (.int x0), some (.int ((x1 * 2) - (x1 * 2) / x0 * x0)), some (.int (x2 + 1)), some (.int (x3 + 1))], [], M)) (P := [¬ x0 = 0]) rfl (mz_o1 q3) ?_
      exact h
set_option maxRecDepth 100000 in
set_option maxHeartbeats 4000000 in
theorem t_X6_empties_0 (M : mz_M) {res : mz_O} (h :
    (∀ M1 : mz_M, M1 = mz_wr M 73 (upd (M.1 73) 1 0) →
    res = (none, M1))) :
    mq_G mq_X6_empties (0, [some (.ref 73)], [], M) res := by
  obtain ⟨M1, e1⟩ : ∃ y, y = mz_wr M 73 (upd (M.1 73) 1 0) := ⟨_, rfl⟩
  replace h := h M1 e1
  refine mz_Go.steps (n := 3) (k2 := (5, [some (.ref 73)], [], (mz_wr M 73 (upd (M.1 73) 1 0)))) (P := []) rfl mz_o0 ?_
  rw [← e1]
  rw [h]
  exact mz_Go.vret (rfl : mz_find 5 (mz_rows mq_X6_empties) = some (5, .return_, 1, 0, 0, 0)) rfl
set_option maxRecDepth 100000 in
set_option maxHeartbeats 4000000 in
theorem t_X6_puts_0 (x1 : Int64) (M : mz_M) {res : mz_O} (h :
    (((Int32.ofNat 16) ≤ (M.1 73 1) →
      res = (none, M)) ∧
    (¬ ((Int32.ofNat 16) ≤ (M.1 73 1)) →
      (vp_in (M.1 73 1) 16) ∧
      (∀ M2 : mz_M, M2 = mz_wrl M 74 (vp_updL (M.2 74) (M.1 73 1).toNatClampNeg x1) →
      (∀ M4 : mz_M, M4 = mz_wr M2 73 (upd (M2.1 73) 1 ((M2.1 73 1) + 1)) →
      res = (none, M4)))))) :
    mq_G mq_X6_puts (0, [some (.ref 73), some (.long x1), none], [], M) res := by
  refine mz_Go.steps (n := 6) (k2 := (if (Int32.ofNat 16) ≤ (M.1 73 1) then 32 else 12, [some (.ref 73), some (.long x1), none], [], M)) (P := []) rfl mz_o0 ?_
  refine mz_Go.ite (fun c9 => ?_) (fun c9 => ?_)
  · replace h := h.1 c9
    rw [h]
    exact mz_Go.vret (rfl : mz_find 32 (mz_rows mq_X6_puts) = some (32, .return_, 1, 0, 0, 0)) rfl
  · replace h := h.2 c9
    obtain ⟨q3, h⟩ := h
    obtain ⟨M2, e2⟩ : ∃ y, y = mz_wrl M 74 (vp_updL (M.2 74) (M.1 73 1).toNatClampNeg x1) := ⟨_, rfl⟩
    replace h := h M2 e2
    refine mz_Go.steps (n := 6) (k2 := (22, [some (.ref 73), some (.long x1), none], [], (mz_wrl M 74 (vp_updL (M.2 74) (M.1 73 1).toNatClampNeg x1)))) (P := [vp_in (M.1 73 1) 16]) rfl (mz_o1 q3) ?_
    rw [← e2]
    obtain ⟨M4, e4⟩ : ∃ y, y = mz_wr M2 73 (upd (M2.1 73) 1 ((M2.1 73 1) + 1)) := ⟨_, rfl⟩
    replace h := h M4 e4
    refine mz_Go.steps (n := 6) (k2 := (32, [some (.ref 73), some (.long x1), none], [], (mz_wr M2 73 (upd (M2.1 73) 1 ((M2.1 73 1) + 1))))) (P := []) rfl mz_o0 ?_
    rw [← e4]
    rw [h]
    exact mz_Go.vret (rfl : mz_find 32 (mz_rows mq_X6_puts) = some (32, .return_, 1, 0, 0, 0)) rfl
set_option maxRecDepth 100000 in
set_option maxHeartbeats 4000000 in
theorem t_X6_putsAll_0 (b1 : Nat) (x2 : Int32) (M : mz_M) {res : mz_O} (h :
    mq_G mq_X6_putsAll (2, [some (.ref 73), some (.ref b1), some (.int x2), some (.int 0)], [], M) res) :
    mq_G mq_X6_putsAll (0, [some (.ref 73), some (.ref b1), some (.int x2), none], [], M) res := by
  refine mz_Go.steps (n := 2) (k2 := (2, [some (.ref 73), some (.ref b1), some (.int x2), some (.int 0)], [], M)) (P := []) rfl mz_o0 ?_
  exact h
set_option maxRecDepth 100000 in
set_option maxHeartbeats 4000000 in
theorem t_X6_putsAll_2 (b1 : Nat) (x2 : Int32) (x3 : Int32) (M : mz_M) {res : mz_O} (h :
    ((x2 ≤ x3 →
      res = (none, M)) ∧
    (¬ (x2 ≤ x3) →
      (mz_nth mq_sk b1 = some (.inl (0, 8, []))) ∧
      (((Int32.ofNat 8) ≤ x3 →
        res = (none, M)) ∧
      (¬ ((Int32.ofNat 8) ≤ x3) →
        (mz_nth mq_sk b1 = some (.inl (0, 8, []))) ∧
        (vp_in x3 8) ∧
        (∃ (M6 : mz_M), (mq_C mq_X6_puts [.ref 73, .long ((M.1 b1 x3.toNatClampNeg).toInt64)] M (none, M6)) ∧
        mq_G mq_X6_putsAll (2, [some (.ref 73), some (.ref b1), some (.int x2), some (.int (x3 + 1))], [], M6) res)))))) :
    mq_G mq_X6_putsAll (2, [some (.ref 73), some (.ref b1), some (.int x2), some (.int x3)], [], M) res := by
  refine mz_Go.steps (n := 3) (k2 := (if x2 ≤ x3 then 27 else 7, [some (.ref 73), some (.ref b1), some (.int x2), some (.int x3)], [], M)) (P := []) rfl mz_o0 ?_
  refine mz_Go.ite (fun c4 => ?_) (fun c4 => ?_)
  · replace h := h.1 c4
    rw [h]
    exact mz_Go.vret (rfl : mz_find 27 (mz_rows mq_X6_putsAll) = some (27, .return_, 1, 0, 0, 0)) rfl
  · replace h := h.2 c4
    refine mz_Go.steps (n := 2) (k2 := (9, [some (.ref 73), some (.ref b1), some (.int x2), some (.int x3)], [.ref b1, .int x3], M)) (P := []) rfl mz_o0 ?_
    obtain ⟨q2, h⟩ := h
    refine mz_Go.alen (rfl : mz_find 9 (mz_rows mq_X6_putsAll) = some (9, .arraylength, 1, 0, 0, 0)) q2 ?_
    show mq_G mq_X6_putsAll (10, [some (.ref 73), some (.ref b1), some (.int x2), some (.int x3)], [.int (Int32.ofNat 8), .int x3], M) res
    refine mz_Go.steps (n := 1) (k2 := (if (Int32.ofNat 8) ≤ x3 then 27 else 13, [some (.ref 73), some (.ref b1), some (.int x2), some (.int x3)], [], M)) (P := []) rfl mz_o0 ?_
    refine mz_Go.ite (fun c10 => ?_) (fun c10 => ?_)
    · replace h := h.1 c10
      rw [h]
      exact mz_Go.vret (rfl : mz_find 27 (mz_rows mq_X6_putsAll) = some (27, .return_, 1, 0, 0, 0)) rfl
    · replace h := h.2 c10
      refine mz_Go.steps (n := 3) (k2 := (16, [some (.ref 73), some (.ref b1), some (.int x2), some (.int x3)], [.int x3, .ref b1, .ref 73], M)) (P := []) rfl mz_o0 ?_
      obtain ⟨q4, q5, h⟩ := h
      refine mz_Go.iald (rfl : mz_find 16 (mz_rows mq_X6_putsAll) = some (16, .iaload, 1, 0, 0, 0)) q4 q5 ?_
      show mq_G mq_X6_putsAll (17, [some (.ref 73), some (.ref b1), some (.int x2), some (.int x3)], [.int (M.1 b1 x3.toNatClampNeg), .ref 73], M) res
      refine mz_Go.steps (n := 1) (k2 := (18, [some (.ref 73), some (.ref b1), some (.int x2), some (.int x3)], [.long ((M.1 b1 x3.toNatClampNeg).toInt64), .ref 73], M)) (P := []) rfl mz_o0 ?_
      obtain ⟨M6, k6, h⟩ := h
      refine mz_Go.callV (As := [.long ((M.1 b1 x3.toNatClampNeg).toInt64)]) (rest := []) (rfl : mz_find 18 (mz_rows mq_X6_putsAll) = some (18, .invokevirtual 17, 3, 45, 0, 45)) (rfl : mz_nth mq_tab 45 = some mq_X6_puts) rfl rfl rfl rfl (Nat.le_of_ble_eq_true rfl) (Nat.le_of_ble_eq_true rfl) k6 ?_
      show mq_G mq_X6_putsAll (21, [some (.ref 73), some (.ref b1), some (.int x2), some (.int x3)], [], M6) res
      refine mz_Go.steps (n := 2) (k2 := (2, [some (.ref 73), some (.ref b1), some (.int x2), some (.int (x3 + 1))], [], M6)) (P := []) rfl mz_o0 ?_
      exact h
set_option maxRecDepth 100000 in
set_option maxHeartbeats 4000000 in
theorem t_X7_start_0 (b0 : Nat) (x1 : Int32) (M : mz_M) {res : mz_O} (h :
    ∃ d2 : Nat, (mz_nth mq_sk b0 = some (.inr (5, [none, some d2]))) ∧
    (∀ M1 : mz_M, M1 = mz_wr M b0 (upd (M.1 b0) 0 x1) →
    mq_G mq_X7_start (7, [some (.ref b0), some (.int x1), some (.int 0), none], [], M1) res)) :
    mq_G mq_X7_start (0, [some (.ref b0), some (.int x1), none, none], [], M) res := by
  refine mz_Go.steps (n := 2) (k2 := (2, [some (.ref b0), some (.int x1), none, none], [.int x1, .ref b0], M)) (P := []) rfl mz_o0 ?_
  obtain ⟨d2, q2, h⟩ := h
  obtain ⟨M1, e1⟩ : ∃ y, y = mz_wr M b0 (upd (M.1 b0) 0 x1) := ⟨_, rfl⟩
  replace h := h M1 e1
  refine mz_Go.putI (rfl : mz_find 2 (mz_rows mq_X7_start) = some (2, .putfield 16, 3, 320, 0, 46)) q2 rfl rfl ?_
  show mq_G mq_X7_start (5, [some (.ref b0), some (.int x1), none, none], [], (mz_wr M b0 (upd (M.1 b0) 0 x1))) res
  rw [← e1]
  refine mz_Go.steps (n := 2) (k2 := (7, [some (.ref b0), some (.int x1), some (.int 0), none], [], M1)) (P := []) rfl mz_o0 ?_
  exact h
set_option maxRecDepth 100000 in
set_option maxHeartbeats 4000000 in
theorem t_X7_start_7 (b0 : Nat) (o1 : Option Value) (x2 : Int32) (o3 : Option Value) (M : mz_M) {res : mz_O} (h :
    ((4 ≤ x2 →
      res = (none, M)) ∧
    (¬ (4 ≤ x2) →
      mq_G mq_X7_start (14, [some (.ref b0), o1, some (.int x2), some (.int 0)], [], M) res))) :
    mq_G mq_X7_start (7, [some (.ref b0), o1, some (.int x2), o3], [], M) res := by
  refine mz_Go.steps (n := 3) (k2 := (if 4 ≤ x2 then 43 else 12, [some (.ref b0), o1, some (.int x2), o3], [], M)) (P := []) rfl mz_o0 ?_
  refine mz_Go.ite (fun c9 => ?_) (fun c9 => ?_)
  · replace h := h.1 c9
    rw [h]
    exact mz_Go.vret (rfl : mz_find 43 (mz_rows mq_X7_start) = some (43, .return_, 1, 0, 0, 0)) rfl
  · replace h := h.2 c9
    refine mz_Go.steps (n := 2) (k2 := (14, [some (.ref b0), o1, some (.int x2), some (.int 0)], [], M)) (P := []) rfl mz_o0 ?_
    exact h
set_option maxRecDepth 100000 in
set_option maxHeartbeats 4000000 in
theorem t_X7_start_14 (b0 : Nat) (o1 : Option Value) (x2 : Int32) (x3 : Int32) (M : mz_M) {res : mz_O} (h :
    ((8 ≤ x3 →
      mq_G mq_X7_start (7, [some (.ref b0), (mz_nw o1), some (.int (x2 + 1)), some (.int x3)], [], M) res) ∧
    (¬ (8 ≤ x3) →
      ∃ d21 : Nat, (mz_nth mq_sk b0 = some (.inr (5, [none, some d21]))) ∧
      ∃ l25 : List Nat, (mz_nth mq_sk d21 = some (.inl (4, 4, l25))) ∧
      (vp_in x2 4) ∧ (l25.length = 4) ∧
      (mz_nth mq_sk (l25.getD x2.toNatClampNeg 0) = some (.inl (0, 8, []))) ∧
      (vp_in x3 8) ∧
      (∀ M5 : mz_M, M5 = mz_wr M (l25.getD x2.toNatClampNeg 0) (upd (M.1 (l25.getD x2.toNatClampNeg 0)) x3.toNatClampNeg ((1 : Int32) <<< (x3 &&& 31))) →
      mq_G mq_X7_start (14, [some (.ref b0), o1, some (.int x2), some (.int (x3 + 1))], [], M5) res)))) :
    mq_G mq_X7_start (14, [some (.ref b0), o1, some (.int x2), some (.int x3)], [], M) res := by
  refine mz_Go.steps (n := 3) (k2 := (if 8 ≤ x3 then 37 else 20, [some (.ref b0), o1, some (.int x2), some (.int x3)], [], M)) (P := []) rfl mz_o0 ?_
  refine mz_Go.ite (fun c17 => ?_) (fun c17 => ?_)
  · replace h := h.1 c17
    refine mz_Go.steps (n := 2) (k2 := (7, [some (.ref b0), (mz_nw o1), some (.int (x2 + 1)), some (.int x3)], [], M)) (P := []) rfl mz_o0 ?_
    exact h
  · replace h := h.2 c17
    refine mz_Go.steps (n := 1) (k2 := (21, [some (.ref b0), o1, some (.int x2), some (.int x3)], [.ref b0], M)) (P := []) rfl mz_o0 ?_
    obtain ⟨d21, q2, h⟩ := h
    refine mz_Go.getR (rfl : mz_find 21 (mz_rows mq_X7_start) = some (21, .getfield 13, 3, 321, 0, 47)) q2 rfl rfl ?_
    show mq_G mq_X7_start (24, [some (.ref b0), o1, some (.int x2), some (.int x3)], [.ref d21], M) res
    refine mz_Go.steps (n := 1) (k2 := (25, [some (.ref b0), o1, some (.int x2), some (.int x3)], [.int x2, .ref d21], M)) (P := []) rfl mz_o0 ?_
    obtain ⟨l25, q3, q4, q4l, h⟩ := h
    refine mz_Go.aald (rfl : mz_find 25 (mz_rows mq_X7_start) = some (25, .aaload, 1, 0, 0, 0)) q3 q4 q4l ?_
    show mq_G mq_X7_start (26, [some (.ref b0), o1, some (.int x2), some (.int x3)], [.ref (l25.getD x2.toNatClampNeg 0)], M) res
    refine mz_Go.steps (n := 4) (k2 := (30, [some (.ref b0), o1, some (.int x2), some (.int x3)], [.int ((1 : Int32) <<< (x3 &&& 31)), .int x3, .ref (l25.getD x2.toNatClampNeg 0)], M)) (P := []) rfl mz_o0 ?_
    obtain ⟨q6, q7, h⟩ := h
    obtain ⟨M5, e5⟩ : ∃ y, y = mz_wr M (l25.getD x2.toNatClampNeg 0) (upd (M.1 (l25.getD x2.toNatClampNeg 0)) x3.toNatClampNeg ((1 : Int32) <<< (x3 &&& 31))) := ⟨_, rfl⟩
    replace h := h M5 e5
    refine mz_Go.iast (rfl : mz_find 30 (mz_rows mq_X7_start) = some (30, .iastore, 1, 0, 0, 0)) q6 q7 ?_
    show mq_G mq_X7_start (31, [some (.ref b0), o1, some (.int x2), some (.int x3)], [], (mz_wr M (l25.getD x2.toNatClampNeg 0) (upd (M.1 (l25.getD x2.toNatClampNeg 0)) x3.toNatClampNeg ((1 : Int32) <<< (x3 &&& 31))))) res
    rw [← e5]
    refine mz_Go.steps (n := 2) (k2 := (14, [some (.ref b0), o1, some (.int x2), some (.int (x3 + 1))], [], M5)) (P := []) rfl mz_o0 ?_
    exact h
set_option maxRecDepth 100000 in
set_option maxHeartbeats 4000000 in
theorem t_X7_becomes_0 (b0 : Nat) (b1 : Nat) (M : mz_M) {res : mz_O} (h :
    ∃ d2 : Nat, (mz_nth mq_sk b1 = some (.inr (5, [none, some d2]))) ∧
    ∃ d5 : Nat, (mz_nth mq_sk b0 = some (.inr (5, [none, some d5]))) ∧
    (∀ M2 : mz_M, M2 = mz_wr M b0 (upd (M.1 b0) 0 (M.1 b1 0)) →
    mq_G mq_X7_becomes (10, [some (.ref b0), some (.ref b1), some (.int 0)], [], M2) res)) :
    mq_G mq_X7_becomes (0, [some (.ref b0), some (.ref b1), none], [], M) res := by
  refine mz_Go.steps (n := 2) (k2 := (2, [some (.ref b0), some (.ref b1), none], [.ref b1, .ref b0], M)) (P := []) rfl mz_o0 ?_
  obtain ⟨d2, q1, h⟩ := h
  refine mz_Go.getI (rfl : mz_find 2 (mz_rows mq_X7_becomes) = some (2, .getfield 16, 3, 320, 0, 46)) q1 rfl rfl ?_
  show mq_G mq_X7_becomes (5, [some (.ref b0), some (.ref b1), none], [.int (M.1 b1 0), .ref b0], M) res
  obtain ⟨d5, q3, h⟩ := h
  obtain ⟨M2, e2⟩ : ∃ y, y = mz_wr M b0 (upd (M.1 b0) 0 (M.1 b1 0)) := ⟨_, rfl⟩
  replace h := h M2 e2
  refine mz_Go.putI (rfl : mz_find 5 (mz_rows mq_X7_becomes) = some (5, .putfield 16, 3, 320, 0, 46)) q3 rfl rfl ?_
  show mq_G mq_X7_becomes (8, [some (.ref b0), some (.ref b1), none], [], (mz_wr M b0 (upd (M.1 b0) 0 (M.1 b1 0)))) res
  rw [← e2]
  refine mz_Go.steps (n := 2) (k2 := (10, [some (.ref b0), some (.ref b1), some (.int 0)], [], M2)) (P := []) rfl mz_o0 ?_
  exact h
set_option maxRecDepth 100000 in
set_option maxHeartbeats 4000000 in
theorem t_X7_becomes_10 (b0 : Nat) (b1 : Nat) (x2 : Int32) (M : mz_M) {res : mz_O} (h :
    ((4 ≤ x2 →
      res = (none, M)) ∧
    (¬ (4 ≤ x2) →
      ∃ d18 : Nat, (mz_nth mq_sk b1 = some (.inr (5, [none, some d18]))) ∧
      ∃ l22 : List Nat, (mz_nth mq_sk d18 = some (.inl (4, 4, l22))) ∧
      (vp_in x2 4) ∧ (l22.length = 4) ∧
      (∃ d23 : Nat, (mz_nth mq_sk b0 = some (.inr (5, [none, some d23]))) ∧ ∃ (M5 : mz_M), (mq_C mq_X7_setsSlot [.ref b0, .int x2, .ref (l22.getD x2.toNatClampNeg 0)] M (none, M5)) ∧
      mq_G mq_X7_becomes (10, [some (.ref b0), some (.ref b1), some (.int (x2 + 1))], [], M5) res)))) :
    mq_G mq_X7_becomes (10, [some (.ref b0), some (.ref b1), some (.int x2)], [], M) res := by
  refine mz_Go.steps (n := 3) (k2 := (if 4 ≤ x2 then 32 else 15, [some (.ref b0), some (.ref b1), some (.int x2)], [], M)) (P := []) rfl mz_o0 ?_
  refine mz_Go.ite (fun c12 => ?_) (fun c12 => ?_)
  · replace h := h.1 c12
    rw [h]
    exact mz_Go.vret (rfl : mz_find 32 (mz_rows mq_X7_becomes) = some (32, .return_, 1, 0, 0, 0)) rfl
  · replace h := h.2 c12
    refine mz_Go.steps (n := 3) (k2 := (18, [some (.ref b0), some (.ref b1), some (.int x2)], [.ref b1, .int x2, .ref b0], M)) (P := []) rfl mz_o0 ?_
    obtain ⟨d18, q2, h⟩ := h
    refine mz_Go.getR (rfl : mz_find 18 (mz_rows mq_X7_becomes) = some (18, .getfield 13, 3, 321, 0, 47)) q2 rfl rfl ?_
    show mq_G mq_X7_becomes (21, [some (.ref b0), some (.ref b1), some (.int x2)], [.ref d18, .int x2, .ref b0], M) res
    refine mz_Go.steps (n := 1) (k2 := (22, [some (.ref b0), some (.ref b1), some (.int x2)], [.int x2, .ref d18, .int x2, .ref b0], M)) (P := []) rfl mz_o0 ?_
    obtain ⟨l22, q3, q4, q4l, h⟩ := h
    refine mz_Go.aald (rfl : mz_find 22 (mz_rows mq_X7_becomes) = some (22, .aaload, 1, 0, 0, 0)) q3 q4 q4l ?_
    show mq_G mq_X7_becomes (23, [some (.ref b0), some (.ref b1), some (.int x2)], [.ref (l22.getD x2.toNatClampNeg 0), .int x2, .ref b0], M) res
    obtain ⟨d23, q6, M5, k5, h⟩ := h
    refine mz_Go.callV (As := [.int x2, .ref (l22.getD x2.toNatClampNeg 0)]) (rest := []) (rfl : mz_find 23 (mz_rows mq_X7_becomes) = some (23, .invokevirtual 20, 3, 49, 0, 48)) (rfl : mz_nth mq_tab 49 = some mq_X7_setsSlot) q6 rfl rfl rfl (Nat.le_of_ble_eq_true rfl) (Nat.le_of_ble_eq_true rfl) k5 ?_
    show mq_G mq_X7_becomes (26, [some (.ref b0), some (.ref b1), some (.int x2)], [], M5) res
    refine mz_Go.steps (n := 2) (k2 := (10, [some (.ref b0), some (.ref b1), some (.int (x2 + 1))], [], M5)) (P := []) rfl mz_o0 ?_
    exact h
set_option maxRecDepth 100000 in
set_option maxHeartbeats 4000000 in
theorem t_X7_setsSlot_0 (b0 : Nat) (x1 : Int32) (b2 : Nat) (M : mz_M) {res : mz_O} (h :
    ∃ d3 : Nat, (mz_nth mq_sk b0 = some (.inr (5, [none, some d3]))) ∧
    ∃ l7 : List Nat, (mz_nth mq_sk d3 = some (.inl (4, 4, l7))) ∧
    (vp_in x1 4) ∧ (l7.length = 4) ∧
    (mz_nth mq_sk b2 = some (.inl (0, 8, []))) ∧
    (mz_nth mq_sk (l7.getD x1.toNatClampNeg 0) = some (.inl (0, 8, []))) ∧
    (¬ (0 : Int32) < 0) ∧
    (¬ (0 : Int32) < 0) ∧
    (¬ (8 : Int32) < 0) ∧
    ((0 : Int32).toNatClampNeg + (8 : Int32).toNatClampNeg ≤ 8) ∧
    ((0 : Int32).toNatClampNeg + (8 : Int32).toNatClampNeg ≤ 8) ∧
    (∀ M4 : mz_M, M4 = mz_wr M (l7.getD x1.toNatClampNeg 0) (va_cpy (M.1 b2) (M.1 (l7.getD x1.toNatClampNeg 0)) (0 : Int32).toNatClampNeg (0 : Int32).toNatClampNeg (8 : Int32).toNatClampNeg) →
    res = (none, M4))) :
    mq_G mq_X7_setsSlot (0, [some (.ref b0), some (.int x1), some (.ref b2)], [], M) res := by
  refine mz_Go.steps (n := 3) (k2 := (3, [some (.ref b0), some (.int x1), some (.ref b2)], [.ref b0, .int 0, .ref b2], M)) (P := []) rfl mz_o0 ?_
  obtain ⟨d3, q1, h⟩ := h
  refine mz_Go.getR (rfl : mz_find 3 (mz_rows mq_X7_setsSlot) = some (3, .getfield 13, 3, 321, 0, 47)) q1 rfl rfl ?_
  show mq_G mq_X7_setsSlot (6, [some (.ref b0), some (.int x1), some (.ref b2)], [.ref d3, .int 0, .ref b2], M) res
  refine mz_Go.steps (n := 1) (k2 := (7, [some (.ref b0), some (.int x1), some (.ref b2)], [.int x1, .ref d3, .int 0, .ref b2], M)) (P := []) rfl mz_o0 ?_
  obtain ⟨l7, q2, q3, q3l, h⟩ := h
  refine mz_Go.aald (rfl : mz_find 7 (mz_rows mq_X7_setsSlot) = some (7, .aaload, 1, 0, 0, 0)) q2 q3 q3l ?_
  show mq_G mq_X7_setsSlot (8, [some (.ref b0), some (.int x1), some (.ref b2)], [.ref (l7.getD x1.toNatClampNeg 0), .int 0, .ref b2], M) res
  refine mz_Go.steps (n := 2) (k2 := (11, [some (.ref b0), some (.int x1), some (.ref b2)], [.int 8, .int 0, .ref (l7.getD x1.toNatClampNeg 0), .int 0, .ref b2], M)) (P := []) rfl mz_o0 ?_
  obtain ⟨q5, q6, q7, q8, q9, q10, q11, h⟩ := h
  obtain ⟨M4, e4⟩ : ∃ y, y = mz_wr M (l7.getD x1.toNatClampNeg 0) (va_cpy (M.1 b2) (M.1 (l7.getD x1.toNatClampNeg 0)) (0 : Int32).toNatClampNeg (0 : Int32).toNatClampNeg (8 : Int32).toNatClampNeg) := ⟨_, rfl⟩
  replace h := h M4 e4
  refine mz_Go.copy (rfl : mz_find 11 (mz_rows mq_X7_setsSlot) = some (11, .invokestatic 24, 3, 1000, 0, 49)) q5 q6 q7 q8 q9 q10 q11 (Nat.le_of_ble_eq_true rfl) ?_
  show mq_G mq_X7_setsSlot (14, [some (.ref b0), some (.int x1), some (.ref b2)], [], (mz_wr M (l7.getD x1.toNatClampNeg 0) (va_cpy (M.1 b2) (M.1 (l7.getD x1.toNatClampNeg 0)) (0 : Int32).toNatClampNeg (0 : Int32).toNatClampNeg (8 : Int32).toNatClampNeg))) res
  rw [← e4]
  rw [h]
  exact mz_Go.vret (rfl : mz_find 14 (mz_rows mq_X7_setsSlot) = some (14, .return_, 1, 0, 0, 0)) rfl
set_option maxRecDepth 100000 in
set_option maxHeartbeats 4000000 in
theorem t_X7_copiesSlot_0 (b0 : Nat) (x1 : Int32) (b2 : Nat) (M : mz_M) {res : mz_O} (h :
    ∃ d1 : Nat, (mz_nth mq_sk b0 = some (.inr (5, [none, some d1]))) ∧
    ∃ l5 : List Nat, (mz_nth mq_sk d1 = some (.inl (4, 4, l5))) ∧
    (vp_in x1 4) ∧ (l5.length = 4) ∧
    (mz_nth mq_sk (l5.getD x1.toNatClampNeg 0) = some (.inl (0, 8, []))) ∧
    (mz_nth mq_sk b2 = some (.inl (0, 8, []))) ∧
    (¬ (0 : Int32) < 0) ∧
    (¬ (0 : Int32) < 0) ∧
    (¬ (8 : Int32) < 0) ∧
    ((0 : Int32).toNatClampNeg + (8 : Int32).toNatClampNeg ≤ 8) ∧
    ((0 : Int32).toNatClampNeg + (8 : Int32).toNatClampNeg ≤ 8) ∧
    (∀ M4 : mz_M, M4 = mz_wr M b2 (va_cpy (M.1 (l5.getD x1.toNatClampNeg 0)) (M.1 b2) (0 : Int32).toNatClampNeg (0 : Int32).toNatClampNeg (8 : Int32).toNatClampNeg) →
    res = (none, M4))) :
    mq_G mq_X7_copiesSlot (0, [some (.ref b0), some (.int x1), some (.ref b2)], [], M) res := by
  refine mz_Go.steps (n := 1) (k2 := (1, [some (.ref b0), some (.int x1), some (.ref b2)], [.ref b0], M)) (P := []) rfl mz_o0 ?_
  obtain ⟨d1, q1, h⟩ := h
  refine mz_Go.getR (rfl : mz_find 1 (mz_rows mq_X7_copiesSlot) = some (1, .getfield 13, 3, 321, 0, 47)) q1 rfl rfl ?_
  show mq_G mq_X7_copiesSlot (4, [some (.ref b0), some (.int x1), some (.ref b2)], [.ref d1], M) res
  refine mz_Go.steps (n := 1) (k2 := (5, [some (.ref b0), some (.int x1), some (.ref b2)], [.int x1, .ref d1], M)) (P := []) rfl mz_o0 ?_
  obtain ⟨l5, q2, q3, q3l, h⟩ := h
  refine mz_Go.aald (rfl : mz_find 5 (mz_rows mq_X7_copiesSlot) = some (5, .aaload, 1, 0, 0, 0)) q2 q3 q3l ?_
  show mq_G mq_X7_copiesSlot (6, [some (.ref b0), some (.int x1), some (.ref b2)], [.ref (l5.getD x1.toNatClampNeg 0)], M) res
  refine mz_Go.steps (n := 4) (k2 := (11, [some (.ref b0), some (.int x1), some (.ref b2)], [.int 8, .int 0, .ref b2, .int 0, .ref (l5.getD x1.toNatClampNeg 0)], M)) (P := []) rfl mz_o0 ?_
  obtain ⟨q5, q6, q7, q8, q9, q10, q11, h⟩ := h
  obtain ⟨M4, e4⟩ : ∃ y, y = mz_wr M b2 (va_cpy (M.1 (l5.getD x1.toNatClampNeg 0)) (M.1 b2) (0 : Int32).toNatClampNeg (0 : Int32).toNatClampNeg (8 : Int32).toNatClampNeg) := ⟨_, rfl⟩
  replace h := h M4 e4
  refine mz_Go.copy (rfl : mz_find 11 (mz_rows mq_X7_copiesSlot) = some (11, .invokestatic 24, 3, 1000, 0, 49)) q5 q6 q7 q8 q9 q10 q11 (Nat.le_of_ble_eq_true rfl) ?_
  show mq_G mq_X7_copiesSlot (14, [some (.ref b0), some (.int x1), some (.ref b2)], [], (mz_wr M b2 (va_cpy (M.1 (l5.getD x1.toNatClampNeg 0)) (M.1 b2) (0 : Int32).toNatClampNeg (0 : Int32).toNatClampNeg (8 : Int32).toNatClampNeg))) res
  rw [← e4]
  rw [h]
  exact mz_Go.vret (rfl : mz_find 14 (mz_rows mq_X7_copiesSlot) = some (14, .return_, 1, 0, 0, 0)) rfl
set_option maxRecDepth 100000 in
set_option maxHeartbeats 4000000 in
theorem t_X7_isPlain_0 (b0 : Nat) (x1 : Int32) (x2 : Int32) (M : mz_M) {res : mz_O} (h :
    mq_G mq_X7_isPlain (2, [some (.ref b0), some (.int x1), some (.int x2), some (.int 0)], [], M) res) :
    mq_G mq_X7_isPlain (0, [some (.ref b0), some (.int x1), some (.int x2), none], [], M) res := by
  refine mz_Go.steps (n := 2) (k2 := (2, [some (.ref b0), some (.int x1), some (.int x2), some (.int 0)], [], M)) (P := []) rfl mz_o0 ?_
  exact h
set_option maxRecDepth 100000 in
set_option maxHeartbeats 4000000 in
theorem t_X7_isPlain_2 (b0 : Nat) (x1 : Int32) (x2 : Int32) (x3 : Int32) (M : mz_M) {res : mz_O} (h :
    ((x2 ≤ x3 →
      res = (some (.int 1), M)) ∧
    (¬ (x2 ≤ x3) →
      ∃ d8 : Nat, (mz_nth mq_sk b0 = some (.inr (5, [none, some d8]))) ∧
      ∃ l12 : List Nat, (mz_nth mq_sk d8 = some (.inl (4, 4, l12))) ∧
      (vp_in x1 4) ∧ (l12.length = 4) ∧
      (mz_nth mq_sk (l12.getD x1.toNatClampNeg 0) = some (.inl (0, 8, []))) ∧
      (vp_in x3 8) ∧
      (((M.1 (l12.getD x1.toNatClampNeg 0) x3.toNatClampNeg) = ((1 : Int32) <<< (x3 &&& 31)) →
        mq_G mq_X7_isPlain (2, [some (.ref b0), some (.int x1), some (.int x2), some (.int (x3 + 1))], [], M) res) ∧
      (¬ ((M.1 (l12.getD x1.toNatClampNeg 0) x3.toNatClampNeg) = ((1 : Int32) <<< (x3 &&& 31))) →
        res = (some (.int 0), M)))))) :
    mq_G mq_X7_isPlain (2, [some (.ref b0), some (.int x1), some (.int x2), some (.int x3)], [], M) res := by
  refine mz_Go.steps (n := 3) (k2 := (if x2 ≤ x3 then 29 else 7, [some (.ref b0), some (.int x1), some (.int x2), some (.int x3)], [], M)) (P := []) rfl mz_o0 ?_
  refine mz_Go.ite (fun c4 => ?_) (fun c4 => ?_)
  · replace h := h.1 c4
    refine mz_Go.steps (n := 1) (k2 := (30, [some (.ref b0), some (.int x1), some (.int x2), some (.int x3)], [.int 1], M)) (P := []) rfl mz_o0 ?_
    rw [h]
    exact mz_Go.zret (rfl : mz_find 30 (mz_rows mq_X7_isPlain) = some (30, .ireturn, 1, 0, 0, 0)) rfl (Or.inr rfl)
  · replace h := h.2 c4
    refine mz_Go.steps (n := 1) (k2 := (8, [some (.ref b0), some (.int x1), some (.int x2), some (.int x3)], [.ref b0], M)) (P := []) rfl mz_o0 ?_
    obtain ⟨d8, q2, h⟩ := h
    refine mz_Go.getR (rfl : mz_find 8 (mz_rows mq_X7_isPlain) = some (8, .getfield 13, 3, 321, 0, 47)) q2 rfl rfl ?_
    show mq_G mq_X7_isPlain (11, [some (.ref b0), some (.int x1), some (.int x2), some (.int x3)], [.ref d8], M) res
    refine mz_Go.steps (n := 1) (k2 := (12, [some (.ref b0), some (.int x1), some (.int x2), some (.int x3)], [.int x1, .ref d8], M)) (P := []) rfl mz_o0 ?_
    obtain ⟨l12, q3, q4, q4l, h⟩ := h
    refine mz_Go.aald (rfl : mz_find 12 (mz_rows mq_X7_isPlain) = some (12, .aaload, 1, 0, 0, 0)) q3 q4 q4l ?_
    show mq_G mq_X7_isPlain (13, [some (.ref b0), some (.int x1), some (.int x2), some (.int x3)], [.ref (l12.getD x1.toNatClampNeg 0)], M) res
    refine mz_Go.steps (n := 1) (k2 := (14, [some (.ref b0), some (.int x1), some (.int x2), some (.int x3)], [.int x3, .ref (l12.getD x1.toNatClampNeg 0)], M)) (P := []) rfl mz_o0 ?_
    obtain ⟨q5, q6, h⟩ := h
    refine mz_Go.iald (rfl : mz_find 14 (mz_rows mq_X7_isPlain) = some (14, .iaload, 1, 0, 0, 0)) q5 q6 ?_
    show mq_G mq_X7_isPlain (15, [some (.ref b0), some (.int x1), some (.int x2), some (.int x3)], [.int (M.1 (l12.getD x1.toNatClampNeg 0) x3.toNatClampNeg)], M) res
    refine mz_Go.steps (n := 4) (k2 := (if (M.1 (l12.getD x1.toNatClampNeg 0) x3.toNatClampNeg) = ((1 : Int32) <<< (x3 &&& 31)) then 23 else 21, [some (.ref b0), some (.int x1), some (.int x2), some (.int x3)], [], M)) (P := []) rfl mz_o0 ?_
    refine mz_Go.ite (fun c18 => ?_) (fun c18 => ?_)
    · replace h := h.1 c18
      refine mz_Go.steps (n := 2) (k2 := (2, [some (.ref b0), some (.int x1), some (.int x2), some (.int (x3 + 1))], [], M)) (P := []) rfl mz_o0 ?_
      exact h
    · replace h := h.2 c18
      refine mz_Go.steps (n := 1) (k2 := (22, [some (.ref b0), some (.int x1), some (.int x2), some (.int x3)], [.int 0], M)) (P := []) rfl mz_o0 ?_
      rw [h]
      exact mz_Go.zret (rfl : mz_find 22 (mz_rows mq_X7_isPlain) = some (22, .ireturn, 1, 0, 0, 0)) rfl (Or.inl rfl)
set_option maxRecDepth 100000 in
set_option maxHeartbeats 4000000 in
theorem t_X8_takes_0 (x1 : Int32) (M : mz_M) {res : mz_O} (h :
    ((((M.1 70 2) + 4) ≤ 100 →
      mq_G mq_X8_takes (16, [some (.ref 70), some (.int x1), some (.int 24)], [], M) res) ∧
    (¬ (((M.1 70 2) + 4) ≤ 100) →
      res = (some (.int 0), M)))) :
    mq_G mq_X8_takes (0, [some (.ref 70), some (.int x1), none], [], M) res := by
  refine mz_Go.steps (n := 6) (k2 := (if ((M.1 70 2) + 4) ≤ 100 then 13 else 11, [some (.ref 70), some (.int x1), none], [], M)) (P := []) rfl mz_o0 ?_
  refine mz_Go.ite (fun c8 => ?_) (fun c8 => ?_)
  · replace h := h.1 c8
    refine mz_Go.steps (n := 2) (k2 := (16, [some (.ref 70), some (.int x1), some (.int 24)], [], M)) (P := []) rfl mz_o0 ?_
    exact h
  · replace h := h.2 c8
    refine mz_Go.steps (n := 1) (k2 := (12, [some (.ref 70), some (.int x1), none], [.int 0], M)) (P := []) rfl mz_o0 ?_
    rw [h]
    exact mz_Go.zret (rfl : mz_find 12 (mz_rows mq_X8_takes) = some (12, .ireturn, 1, 0, 0, 0)) rfl (Or.inl rfl)
set_option maxRecDepth 100000 in
set_option maxHeartbeats 4000000 in
theorem t_X8_takes_16 (x1 : Int32) (x2 : Int32) (M : mz_M) {res : mz_O} (h :
    ((x2 < 0 →
      res = (some (.int 1), M)) ∧
    (¬ (x2 < 0) →
      (vp_in (M.1 70 2) 100) ∧
      (∀ M2 : mz_M, M2 = mz_wr M 71 (upd (M.1 71) (M.1 70 2).toNatClampNeg ((x1 >>> (x2 &&& 31)) &&& 255)) →
      (∀ M4 : mz_M, M4 = mz_wr M2 70 (upd (M2.1 70) 2 ((M2.1 70 2) + 1)) →
      mq_G mq_X8_takes (16, [some (.ref 70), some (.int x1), some (.int (x2 + (-8)))], [], M4) res))))) :
    mq_G mq_X8_takes (16, [some (.ref 70), some (.int x1), some (.int x2)], [], M) res := by
  refine mz_Go.steps (n := 2) (k2 := (if x2 < 0 then 52 else 20, [some (.ref 70), some (.int x1), some (.int x2)], [], M)) (P := []) rfl mz_o0 ?_
  refine mz_Go.ite (fun c17 => ?_) (fun c17 => ?_)
  · replace h := h.1 c17
    refine mz_Go.steps (n := 1) (k2 := (53, [some (.ref 70), some (.int x1), some (.int x2)], [.int 1], M)) (P := []) rfl mz_o0 ?_
    rw [h]
    exact mz_Go.zret (rfl : mz_find 53 (mz_rows mq_X8_takes) = some (53, .ireturn, 1, 0, 0, 0)) rfl (Or.inr rfl)
  · replace h := h.2 c17
    obtain ⟨q3, h⟩ := h
    obtain ⟨M2, e2⟩ : ∃ y, y = mz_wr M 71 (upd (M.1 71) (M.1 70 2).toNatClampNeg ((x1 >>> (x2 &&& 31)) &&& 255)) := ⟨_, rfl⟩
    replace h := h M2 e2
    refine mz_Go.steps (n := 10) (k2 := (36, [some (.ref 70), some (.int x1), some (.int x2)], [], (mz_wr M 71 (upd (M.1 71) (M.1 70 2).toNatClampNeg ((x1 >>> (x2 &&& 31)) &&& 255))))) (P := [vp_in (M.1 70 2) 100]) rfl (mz_o1 q3) ?_
    rw [← e2]
    obtain ⟨M4, e4⟩ : ∃ y, y = mz_wr M2 70 (upd (M2.1 70) 2 ((M2.1 70 2) + 1)) := ⟨_, rfl⟩
    replace h := h M4 e4
    refine mz_Go.steps (n := 6) (k2 := (46, [some (.ref 70), some (.int x1), some (.int x2)], [], (mz_wr M2 70 (upd (M2.1 70) 2 ((M2.1 70 2) + 1))))) (P := []) rfl mz_o0 ?_
    rw [← e4]
    refine mz_Go.steps (n := 2) (k2 := (16, [some (.ref 70), some (.int x1), some (.int (x2 + (-8)))], [], M4)) (P := []) rfl mz_o0 ?_
    exact h
set_option maxRecDepth 100000 in
set_option maxHeartbeats 4000000 in
theorem t_X8_shortens_0 (x1 : Int32) (M : mz_M) {res : mz_O} (h :
    ((x1 < 0 →
      res = (some (.int 0), M)) ∧
    (¬ (x1 < 0) →
      ((x1 ≤ (M.1 70 2) →
        (∀ M3 : mz_M, M3 = mz_wr M 70 (upd (M.1 70) 2 x1) →
        res = (some (.int 1), M3))) ∧
      (¬ (x1 ≤ (M.1 70 2)) →
        res = (some (.int 0), M)))))) :
    mq_G mq_X8_shortens (0, [some (.ref 70), some (.int x1)], [], M) res := by
  refine mz_Go.steps (n := 2) (k2 := (if x1 < 0 then 12 else 4, [some (.ref 70), some (.int x1)], [], M)) (P := []) rfl mz_o0 ?_
  refine mz_Go.ite (fun c1 => ?_) (fun c1 => ?_)
  · replace h := h.1 c1
    refine mz_Go.steps (n := 1) (k2 := (13, [some (.ref 70), some (.int x1)], [.int 0], M)) (P := []) rfl mz_o0 ?_
    rw [h]
    exact mz_Go.zret (rfl : mz_find 13 (mz_rows mq_X8_shortens) = some (13, .ireturn, 1, 0, 0, 0)) rfl (Or.inl rfl)
  · replace h := h.2 c1
    refine mz_Go.steps (n := 4) (k2 := (if x1 ≤ (M.1 70 2) then 14 else 12, [some (.ref 70), some (.int x1)], [], M)) (P := []) rfl mz_o0 ?_
    refine mz_Go.ite (fun c9 => ?_) (fun c9 => ?_)
    · replace h := h.1 c9
      obtain ⟨M3, e3⟩ : ∃ y, y = mz_wr M 70 (upd (M.1 70) 2 x1) := ⟨_, rfl⟩
      replace h := h M3 e3
      refine mz_Go.steps (n := 3) (k2 := (19, [some (.ref 70), some (.int x1)], [], (mz_wr M 70 (upd (M.1 70) 2 x1)))) (P := []) rfl mz_o0 ?_
      rw [← e3]
      refine mz_Go.steps (n := 1) (k2 := (20, [some (.ref 70), some (.int x1)], [.int 1], M3)) (P := []) rfl mz_o0 ?_
      rw [h]
      exact mz_Go.zret (rfl : mz_find 20 (mz_rows mq_X8_shortens) = some (20, .ireturn, 1, 0, 0, 0)) rfl (Or.inr rfl)
    · replace h := h.2 c9
      refine mz_Go.steps (n := 1) (k2 := (13, [some (.ref 70), some (.int x1)], [.int 0], M)) (P := []) rfl mz_o0 ?_
      rw [h]
      exact mz_Go.zret (rfl : mz_find 13 (mz_rows mq_X8_shortens) = some (13, .ireturn, 1, 0, 0, 0)) rfl (Or.inl rfl)
set_option maxRecDepth 100000 in
set_option maxHeartbeats 4000000 in
theorem t_X8_empties_0 (M : mz_M) {res : mz_O} (h :
    (∀ M1 : mz_M, M1 = mz_wr M 70 (upd (M.1 70) 2 0) →
    res = (none, M1))) :
    mq_G mq_X8_empties (0, [some (.ref 70)], [], M) res := by
  obtain ⟨M1, e1⟩ : ∃ y, y = mz_wr M 70 (upd (M.1 70) 2 0) := ⟨_, rfl⟩
  replace h := h M1 e1
  refine mz_Go.steps (n := 3) (k2 := (5, [some (.ref 70)], [], (mz_wr M 70 (upd (M.1 70) 2 0)))) (P := []) rfl mz_o0 ?_
  rw [← e1]
  rw [h]
  exact mz_Go.vret (rfl : mz_find 5 (mz_rows mq_X8_empties) = some (5, .return_, 1, 0, 0, 0)) rfl
set_option maxRecDepth 100000 in
set_option maxHeartbeats 4000000 in
theorem t_X8_signAt_0 (x1 : Int32) (M : mz_M) {res : mz_O} (h :
    ((x1 < 0 →
      res = (some (.int (-1)), M)) ∧
    (¬ (x1 < 0) →
      (((M.1 70 2) ≤ x1 →
        res = (some (.int (-1)), M)) ∧
      (¬ ((M.1 70 2) ≤ x1) →
        (vp_in x1 100) ∧
        res = (some (.int (M.1 71 x1.toNatClampNeg)), M)))))) :
    mq_G mq_X8_signAt (0, [some (.ref 70), some (.int x1)], [], M) res := by
  refine mz_Go.steps (n := 2) (k2 := (if x1 < 0 then 21 else 4, [some (.ref 70), some (.int x1)], [], M)) (P := []) rfl mz_o0 ?_
  refine mz_Go.ite (fun c1 => ?_) (fun c1 => ?_)
  · replace h := h.1 c1
    refine mz_Go.steps (n := 1) (k2 := (22, [some (.ref 70), some (.int x1)], [.int (-1)], M)) (P := []) rfl mz_o0 ?_
    rw [h]
    exact mz_Go.iret (rfl : mz_find 22 (mz_rows mq_X8_signAt) = some (22, .ireturn, 1, 0, 0, 0)) rfl
  · replace h := h.2 c1
    refine mz_Go.steps (n := 4) (k2 := (if (M.1 70 2) ≤ x1 then 21 else 12, [some (.ref 70), some (.int x1)], [], M)) (P := []) rfl mz_o0 ?_
    refine mz_Go.ite (fun c9 => ?_) (fun c9 => ?_)
    · replace h := h.1 c9
      refine mz_Go.steps (n := 1) (k2 := (22, [some (.ref 70), some (.int x1)], [.int (-1)], M)) (P := []) rfl mz_o0 ?_
      rw [h]
      exact mz_Go.iret (rfl : mz_find 22 (mz_rows mq_X8_signAt) = some (22, .ireturn, 1, 0, 0, 0)) rfl
    · replace h := h.2 c9
      obtain ⟨q3, h⟩ := h
      refine mz_Go.steps (n := 5) (k2 := (22, [some (.ref 70), some (.int x1)], [.int (M.1 71 x1.toNatClampNeg)], M)) (P := [vp_in x1 100]) rfl (mz_o1 q3) ?_
      rw [h]
      exact mz_Go.iret (rfl : mz_find 22 (mz_rows mq_X8_signAt) = some (22, .ireturn, 1, 0, 0, 0)) rfl
set_option maxRecDepth 100000 in
set_option maxHeartbeats 4000000 in
theorem t_X8_polynomialRead_0 (M : mz_M) {res : mz_O} (h :
    (∀ M1 : mz_M, M1 = mz_wr M 70 (upd (M.1 70) 3 0) →
    mq_G mq_X8_polynomialRead (12, [some (.ref 70), some (.int 0), some (.int 9), some (.int 0), none], [], M1) res)) :
    mq_G mq_X8_polynomialRead (0, [some (.ref 70), none, none, none, none], [], M) res := by
  obtain ⟨M1, e1⟩ : ∃ y, y = mz_wr M 70 (upd (M.1 70) 3 0) := ⟨_, rfl⟩
  replace h := h M1 e1
  refine mz_Go.steps (n := 3) (k2 := (5, [some (.ref 70), none, none, none, none], [], (mz_wr M 70 (upd (M.1 70) 3 0)))) (P := []) rfl mz_o0 ?_
  rw [← e1]
  refine mz_Go.steps (n := 6) (k2 := (12, [some (.ref 70), some (.int 0), some (.int 9), some (.int 0), none], [], M1)) (P := []) rfl mz_o0 ?_
  exact h
set_option maxRecDepth 100000 in
set_option maxHeartbeats 4000000 in
theorem t_X8_polynomialRead_12 (x1 : Int32) (x2 : Int32) (x3 : Int32) (o4 : Option Value) (M : mz_M) {res : mz_O} (h :
    ((8 < x3 →
      res = (some (.int ((-21) - (M.1 70 3))), M)) ∧
    (¬ (8 < x3) →
      (∃ (r2 : Int32) (M2 : mz_M), (mq_C mq_X8_powerRead [.ref 70, .int x2] M (some (.int r2), M2)) ∧
      ((¬ r2 = (-1) →
        ((¬ (M2.1 70 3) = (M2.1 70 2) →
          ((r2 = 0 →
            res = (some (.int ((-21) - (M2.1 70 3))), M2)) ∧
          (¬ (r2 = 0) →
            (∃ (r6 : Int32), (mq_C mq_X8_signAt [.ref 70, .int (M2.1 70 3)] M2 (some (.int r6), M2)) ∧
            ((r6 = 43 →
              (∀ M8 : mz_M, M8 = mz_wr M2 70 (upd (M2.1 70) 3 ((M2.1 70 3) + 1)) →
              mq_G mq_X8_polynomialRead (12, [some (.ref 70), some (.int (x1 ||| ((1 : Int32) <<< (r2 &&& 31)))), some (.int r2), some (.int (x3 + 1)), some (.int r2)], [], M8) res)) ∧
            (¬ (r6 = 43) →
              res = (some (.int ((-21) - (M2.1 70 3))), M2))))))) ∧
        (¬ (¬ (M2.1 70 3) = (M2.1 70 2)) →
          res = (some (.int (x1 ||| ((1 : Int32) <<< (r2 &&& 31)))), M2)))) ∧
      (¬ (¬ r2 = (-1)) →
        res = (some (.int ((-21) - (M2.1 70 3))), M2))))))) :
    mq_G mq_X8_polynomialRead (12, [some (.ref 70), some (.int x1), some (.int x2), some (.int x3), o4], [], M) res := by
  refine mz_Go.steps (n := 3) (k2 := (if 8 < x3 then 103 else 18, [some (.ref 70), some (.int x1), some (.int x2), some (.int x3), o4], [], M)) (P := []) rfl mz_o0 ?_
  refine mz_Go.ite (fun c15 => ?_) (fun c15 => ?_)
  · replace h := h.1 c15
    refine mz_Go.steps (n := 4) (k2 := (110, [some (.ref 70), some (.int x1), some (.int x2), some (.int x3), o4], [.int ((-21) - (M.1 70 3))], M)) (P := []) rfl mz_o0 ?_
    rw [h]
    exact mz_Go.iret (rfl : mz_find 110 (mz_rows mq_X8_polynomialRead) = some (110, .ireturn, 1, 0, 0, 0)) rfl
  · replace h := h.2 c15
    refine mz_Go.steps (n := 2) (k2 := (20, [some (.ref 70), some (.int x1), some (.int x2), some (.int x3), o4], [.int x2, .ref 70], M)) (P := []) rfl mz_o0 ?_
    obtain ⟨r2, M2, k2, h⟩ := h
    refine mz_Go.callV (As := [.int x2]) (rest := []) (rfl : mz_find 20 (mz_rows mq_X8_polynomialRead) = some (20, .invokevirtual 25, 3, 57, 0, 53)) (rfl : mz_nth mq_tab 57 = some mq_X8_powerRead) rfl rfl rfl rfl (Nat.le_of_ble_eq_true rfl) (Nat.le_of_ble_eq_true rfl) k2 ?_
    show mq_G mq_X8_polynomialRead (23, [some (.ref 70), some (.int x1), some (.int x2), some (.int x3), o4], [.int r2], M2) res
    refine mz_Go.steps (n := 4) (k2 := (if ¬ r2 = (-1) then 39 else 31, [some (.ref 70), some (.int x1), some (.int x2), some (.int x3), some (.int r2)], [], M2)) (P := []) rfl mz_o0 ?_
    refine mz_Go.ite (fun c28 => ?_) (fun c28 => ?_)
    · replace h := h.1 c28
      refine mz_Go.steps (n := 13) (k2 := (if ¬ (M2.1 70 3) = (M2.1 70 2) then 62 else 60, [some (.ref 70), some (.int (x1 ||| ((1 : Int32) <<< (r2 &&& 31)))), some (.int r2), some (.int x3), some (.int r2)], [], M2)) (P := []) rfl mz_o0 ?_
      refine mz_Go.ite (fun c57 => ?_) (fun c57 => ?_)
      · replace h := h.1 c57
        refine mz_Go.steps (n := 2) (k2 := (if r2 = 0 then 79 else 66, [some (.ref 70), some (.int (x1 ||| ((1 : Int32) <<< (r2 &&& 31)))), some (.int r2), some (.int x3), some (.int r2)], [], M2)) (P := []) rfl mz_o0 ?_
        refine mz_Go.ite (fun c63 => ?_) (fun c63 => ?_)
        · replace h := h.1 c63
          refine mz_Go.steps (n := 4) (k2 := (86, [some (.ref 70), some (.int (x1 ||| ((1 : Int32) <<< (r2 &&& 31)))), some (.int r2), some (.int x3), some (.int r2)], [.int ((-21) - (M2.1 70 3))], M2)) (P := []) rfl mz_o0 ?_
          rw [h]
          exact mz_Go.iret (rfl : mz_find 86 (mz_rows mq_X8_polynomialRead) = some (86, .ireturn, 1, 0, 0, 0)) rfl
        · replace h := h.2 c63
          refine mz_Go.steps (n := 3) (k2 := (71, [some (.ref 70), some (.int (x1 ||| ((1 : Int32) <<< (r2 &&& 31)))), some (.int r2), some (.int x3), some (.int r2)], [.int (M2.1 70 3), .ref 70], M2)) (P := []) rfl mz_o0 ?_
          obtain ⟨r6, k6, h⟩ := h
          refine mz_Go.callV (As := [.int (M2.1 70 3)]) (rest := []) (rfl : mz_find 71 (mz_rows mq_X8_polynomialRead) = some (71, .invokevirtual 29, 3, 55, 0, 54)) (rfl : mz_nth mq_tab 55 = some mq_X8_signAt) rfl rfl rfl rfl (Nat.le_of_ble_eq_true rfl) (Nat.le_of_ble_eq_true rfl) k6 ?_
          show mq_G mq_X8_polynomialRead (74, [some (.ref 70), some (.int (x1 ||| ((1 : Int32) <<< (r2 &&& 31)))), some (.int r2), some (.int x3), some (.int r2)], [.int r6], M2) res
          refine mz_Go.steps (n := 2) (k2 := (if r6 = 43 then 87 else 79, [some (.ref 70), some (.int (x1 ||| ((1 : Int32) <<< (r2 &&& 31)))), some (.int r2), some (.int x3), some (.int r2)], [], M2)) (P := []) rfl mz_o0 ?_
          refine mz_Go.ite (fun c76 => ?_) (fun c76 => ?_)
          · replace h := h.1 c76
            obtain ⟨M8, e8⟩ : ∃ y, y = mz_wr M2 70 (upd (M2.1 70) 3 ((M2.1 70 3) + 1)) := ⟨_, rfl⟩
            replace h := h M8 e8
            refine mz_Go.steps (n := 6) (k2 := (97, [some (.ref 70), some (.int (x1 ||| ((1 : Int32) <<< (r2 &&& 31)))), some (.int r2), some (.int x3), some (.int r2)], [], (mz_wr M2 70 (upd (M2.1 70) 3 ((M2.1 70 3) + 1))))) (P := []) rfl mz_o0 ?_
            rw [← e8]
            refine mz_Go.steps (n := 2) (k2 := (12, [some (.ref 70), some (.int (x1 ||| ((1 : Int32) <<< (r2 &&& 31)))), some (.int r2), some (.int (x3 + 1)), some (.int r2)], [], M8)) (P := []) rfl mz_o0 ?_
            exact h
          · replace h := h.2 c76
            refine mz_Go.steps (n := 4) (k2 := (86, [some (.ref 70), some (.int (x1 ||| ((1 : Int32) <<< (r2 &&& 31)))), some (.int r2), some (.int x3), some (.int r2)], [.int ((-21) - (M2.1 70 3))], M2)) (P := []) rfl mz_o0 ?_
            rw [h]
            exact mz_Go.iret (rfl : mz_find 86 (mz_rows mq_X8_polynomialRead) = some (86, .ireturn, 1, 0, 0, 0)) rfl
      · replace h := h.2 c57
        refine mz_Go.steps (n := 1) (k2 := (61, [some (.ref 70), some (.int (x1 ||| ((1 : Int32) <<< (r2 &&& 31)))), some (.int r2), some (.int x3), some (.int r2)], [.int (x1 ||| ((1 : Int32) <<< (r2 &&& 31)))], M2)) (P := []) rfl mz_o0 ?_
        rw [h]
        exact mz_Go.iret (rfl : mz_find 61 (mz_rows mq_X8_polynomialRead) = some (61, .ireturn, 1, 0, 0, 0)) rfl
    · replace h := h.2 c28
      refine mz_Go.steps (n := 4) (k2 := (38, [some (.ref 70), some (.int x1), some (.int x2), some (.int x3), some (.int r2)], [.int ((-21) - (M2.1 70 3))], M2)) (P := []) rfl mz_o0 ?_
      rw [h]
      exact mz_Go.iret (rfl : mz_find 38 (mz_rows mq_X8_polynomialRead) = some (38, .ireturn, 1, 0, 0, 0)) rfl
set_option maxRecDepth 100000 in
set_option maxHeartbeats 4000000 in
theorem t_X8_powerRead_0 (x1 : Int32) (M : mz_M) {res : mz_O} (h :
    ((x1 ≤ 8 →
      mq_G mq_X8_powerRead (11, [some (.ref 70), some (.int x1), none, none, none], [.int 0], M) res) ∧
    (¬ (x1 ≤ 8) →
      mq_G mq_X8_powerRead (11, [some (.ref 70), some (.int x1), none, none, none], [.int 1], M) res))) :
    mq_G mq_X8_powerRead (0, [some (.ref 70), some (.int x1), none, none, none], [], M) res := by
  refine mz_Go.steps (n := 3) (k2 := (if x1 ≤ 8 then 10 else 6, [some (.ref 70), some (.int x1), none, none, none], [], M)) (P := []) rfl mz_o0 ?_
  refine mz_Go.ite (fun c3 => ?_) (fun c3 => ?_)
  · replace h := h.1 c3
    refine mz_Go.steps (n := 1) (k2 := (11, [some (.ref 70), some (.int x1), none, none, none], [.int 0], M)) (P := []) rfl mz_o0 ?_
    exact h
  · replace h := h.2 c3
    refine mz_Go.steps (n := 2) (k2 := (11, [some (.ref 70), some (.int x1), none, none, none], [.int 1], M)) (P := []) rfl mz_o0 ?_
    exact h
set_option maxRecDepth 100000 in
set_option maxHeartbeats 4000000 in
theorem t_X8_powerRead_11 (x1 : Int32) (o2 : Option Value) (o3 : Option Value) (o4 : Option Value) (s0 : Int32) (M : mz_M) {res : mz_O} (h :
    (∃ (r1 : Int32), (mq_C mq_X8_signAt [.ref 70, .int (M.1 70 3)] M (some (.int r1), M)) ∧
    ((¬ r1 = 49 →
      mq_G mq_X8_powerRead (41, [some (.ref 70), some (.int x1), some (.int s0), o3, o4], [], M) res) ∧
    (¬ (¬ r1 = 49) →
      ((¬ s0 = 0 →
        mq_G mq_X8_powerRead (41, [some (.ref 70), some (.int x1), some (.int s0), o3, o4], [], M) res) ∧
      (¬ (¬ s0 = 0) →
        (∀ M4 : mz_M, M4 = mz_wr M 70 (upd (M.1 70) 3 ((M.1 70 3) + 1)) →
        res = (some (.int 0), M4)))))))) :
    mq_G mq_X8_powerRead (11, [some (.ref 70), some (.int x1), o2, o3, o4], [.int s0], M) res := by
  refine mz_Go.steps (n := 4) (k2 := (17, [some (.ref 70), some (.int x1), some (.int s0), o3, o4], [.int (M.1 70 3), .ref 70], M)) (P := []) rfl mz_o0 ?_
  obtain ⟨r1, k1, h⟩ := h
  refine mz_Go.callV (As := [.int (M.1 70 3)]) (rest := []) (rfl : mz_find 17 (mz_rows mq_X8_powerRead) = some (17, .invokevirtual 29, 3, 55, 0, 54)) (rfl : mz_nth mq_tab 55 = some mq_X8_signAt) rfl rfl rfl rfl (Nat.le_of_ble_eq_true rfl) (Nat.le_of_ble_eq_true rfl) k1 ?_
  show mq_G mq_X8_powerRead (20, [some (.ref 70), some (.int x1), some (.int s0), o3, o4], [.int r1], M) res
  refine mz_Go.steps (n := 2) (k2 := (if ¬ r1 = 49 then 41 else 25, [some (.ref 70), some (.int x1), some (.int s0), o3, o4], [], M)) (P := []) rfl mz_o0 ?_
  refine mz_Go.ite (fun c22 => ?_) (fun c22 => ?_)
  · replace h := h.1 c22
    exact h
  · replace h := h.2 c22
    refine mz_Go.steps (n := 2) (k2 := (if ¬ s0 = 0 then 41 else 29, [some (.ref 70), some (.int x1), some (.int s0), o3, o4], [], M)) (P := []) rfl mz_o0 ?_
    refine mz_Go.ite (fun c26 => ?_) (fun c26 => ?_)
    · replace h := h.1 c26
      exact h
    · replace h := h.2 c26
      obtain ⟨M4, e4⟩ : ∃ y, y = mz_wr M 70 (upd (M.1 70) 3 ((M.1 70 3) + 1)) := ⟨_, rfl⟩
      replace h := h M4 e4
      refine mz_Go.steps (n := 6) (k2 := (39, [some (.ref 70), some (.int x1), some (.int s0), o3, o4], [], (mz_wr M 70 (upd (M.1 70) 3 ((M.1 70 3) + 1))))) (P := []) rfl mz_o0 ?_
      rw [← e4]
      refine mz_Go.steps (n := 1) (k2 := (40, [some (.ref 70), some (.int x1), some (.int s0), o3, o4], [.int 0], M4)) (P := []) rfl mz_o0 ?_
      rw [h]
      exact mz_Go.iret (rfl : mz_find 40 (mz_rows mq_X8_powerRead) = some (40, .ireturn, 1, 0, 0, 0)) rfl
set_option maxRecDepth 100000 in
set_option maxHeartbeats 4000000 in
theorem t_X8_powerRead_41 (x1 : Int32) (x2 : Int32) (o3 : Option Value) (o4 : Option Value) (M : mz_M) {res : mz_O} (h :
    (∃ (r1 : Int32), (mq_C mq_X8_signAt [.ref 70, .int (M.1 70 3)] M (some (.int r1), M)) ∧
    ((¬ r1 = 120 →
      mq_G mq_X8_powerRead (59, [some (.ref 70), some (.int x1), some (.int x2), o3, o4], [], M) res) ∧
    (¬ (¬ r1 = 120) →
      ((2 ≤ x1 →
        (∀ M4 : mz_M, M4 = mz_wr M 70 (upd (M.1 70) 3 ((M.1 70 3) + 1)) →
        (∃ (r5 : Int32), (mq_C mq_X8_signAt [.ref 70, .int (M4.1 70 3)] M4 (some (.int r5), M4)) ∧
        (((r5 - 48) < 2 →
          mq_G mq_X8_powerRead (111, [some (.ref 70), some (.int x1), some (.int x2), some (.int (r5 - 48)), o4], [], M4) res) ∧
        (¬ ((r5 - 48) < 2) →
          ((x1 ≤ (r5 - 48) →
            mq_G mq_X8_powerRead (111, [some (.ref 70), some (.int x1), some (.int x2), some (.int (r5 - 48)), o4], [], M4) res) ∧
          (¬ (x1 ≤ (r5 - 48)) →
            ((8 < (r5 - 48) →
              mq_G mq_X8_powerRead (111, [some (.ref 70), some (.int x1), some (.int x2), some (.int (r5 - 48)), o4], [], M4) res) ∧
            (¬ (8 < (r5 - 48)) →
              (∀ M9 : mz_M, M9 = mz_wr M4 70 (upd (M4.1 70) 3 ((M4.1 70 3) + 1)) →
              res = (some (.int (r5 - 48)), M9))))))))))) ∧
      (¬ (2 ≤ x1) →
        mq_G mq_X8_powerRead (59, [some (.ref 70), some (.int x1), some (.int x2), o3, o4], [], M) res)))))) :
    mq_G mq_X8_powerRead (41, [some (.ref 70), some (.int x1), some (.int x2), o3, o4], [], M) res := by
  refine mz_Go.steps (n := 3) (k2 := (46, [some (.ref 70), some (.int x1), some (.int x2), o3, o4], [.int (M.1 70 3), .ref 70], M)) (P := []) rfl mz_o0 ?_
  obtain ⟨r1, k1, h⟩ := h
  refine mz_Go.callV (As := [.int (M.1 70 3)]) (rest := []) (rfl : mz_find 46 (mz_rows mq_X8_powerRead) = some (46, .invokevirtual 29, 3, 55, 0, 54)) (rfl : mz_nth mq_tab 55 = some mq_X8_signAt) rfl rfl rfl rfl (Nat.le_of_ble_eq_true rfl) (Nat.le_of_ble_eq_true rfl) k1 ?_
  show mq_G mq_X8_powerRead (49, [some (.ref 70), some (.int x1), some (.int x2), o3, o4], [.int r1], M) res
  refine mz_Go.steps (n := 2) (k2 := (if ¬ r1 = 120 then 59 else 54, [some (.ref 70), some (.int x1), some (.int x2), o3, o4], [], M)) (P := []) rfl mz_o0 ?_
  refine mz_Go.ite (fun c51 => ?_) (fun c51 => ?_)
  · replace h := h.1 c51
    exact h
  · replace h := h.2 c51
    refine mz_Go.steps (n := 3) (k2 := (if 2 ≤ x1 then 61 else 59, [some (.ref 70), some (.int x1), some (.int x2), o3, o4], [], M)) (P := []) rfl mz_o0 ?_
    refine mz_Go.ite (fun c56 => ?_) (fun c56 => ?_)
    · replace h := h.1 c56
      obtain ⟨M4, e4⟩ : ∃ y, y = mz_wr M 70 (upd (M.1 70) 3 ((M.1 70 3) + 1)) := ⟨_, rfl⟩
      replace h := h M4 e4
      refine mz_Go.steps (n := 6) (k2 := (71, [some (.ref 70), some (.int x1), some (.int x2), o3, o4], [], (mz_wr M 70 (upd (M.1 70) 3 ((M.1 70 3) + 1))))) (P := []) rfl mz_o0 ?_
      rw [← e4]
      refine mz_Go.steps (n := 3) (k2 := (76, [some (.ref 70), some (.int x1), some (.int x2), o3, o4], [.int (M4.1 70 3), .ref 70], M4)) (P := []) rfl mz_o0 ?_
      obtain ⟨r5, k5, h⟩ := h
      refine mz_Go.callV (As := [.int (M4.1 70 3)]) (rest := []) (rfl : mz_find 76 (mz_rows mq_X8_powerRead) = some (76, .invokevirtual 29, 3, 55, 0, 54)) (rfl : mz_nth mq_tab 55 = some mq_X8_signAt) rfl rfl rfl rfl (Nat.le_of_ble_eq_true rfl) (Nat.le_of_ble_eq_true rfl) k5 ?_
      show mq_G mq_X8_powerRead (79, [some (.ref 70), some (.int x1), some (.int x2), o3, o4], [.int r5], M4) res
      refine mz_Go.steps (n := 6) (k2 := (if (r5 - 48) < 2 then 111 else 88, [some (.ref 70), some (.int x1), some (.int x2), some (.int (r5 - 48)), o4], [], M4)) (P := []) rfl mz_o0 ?_
      refine mz_Go.ite (fun c85 => ?_) (fun c85 => ?_)
      · replace h := h.1 c85
        exact h
      · replace h := h.2 c85
        refine mz_Go.steps (n := 3) (k2 := (if x1 ≤ (r5 - 48) then 111 else 93, [some (.ref 70), some (.int x1), some (.int x2), some (.int (r5 - 48)), o4], [], M4)) (P := []) rfl mz_o0 ?_
        refine mz_Go.ite (fun c90 => ?_) (fun c90 => ?_)
        · replace h := h.1 c90
          exact h
        · replace h := h.2 c90
          refine mz_Go.steps (n := 3) (k2 := (if 8 < (r5 - 48) then 111 else 99, [some (.ref 70), some (.int x1), some (.int x2), some (.int (r5 - 48)), o4], [], M4)) (P := []) rfl mz_o0 ?_
          refine mz_Go.ite (fun c96 => ?_) (fun c96 => ?_)
          · replace h := h.1 c96
            exact h
          · replace h := h.2 c96
            obtain ⟨M9, e9⟩ : ∃ y, y = mz_wr M4 70 (upd (M4.1 70) 3 ((M4.1 70 3) + 1)) := ⟨_, rfl⟩
            replace h := h M9 e9
            refine mz_Go.steps (n := 6) (k2 := (109, [some (.ref 70), some (.int x1), some (.int x2), some (.int (r5 - 48)), o4], [], (mz_wr M4 70 (upd (M4.1 70) 3 ((M4.1 70 3) + 1))))) (P := []) rfl mz_o0 ?_
            rw [← e9]
            refine mz_Go.steps (n := 1) (k2 := (110, [some (.ref 70), some (.int x1), some (.int x2), some (.int (r5 - 48)), o4], [.int (r5 - 48)], M9)) (P := []) rfl mz_o0 ?_
            rw [h]
            exact mz_Go.iret (rfl : mz_find 110 (mz_rows mq_X8_powerRead) = some (110, .ireturn, 1, 0, 0, 0)) rfl
    · replace h := h.2 c56
      exact h
set_option maxRecDepth 100000 in
set_option maxHeartbeats 4000000 in
theorem t_X8_powerRead_59 (o0 : Option Value) (o1 : Option Value) (o2 : Option Value) (o3 : Option Value) (o4 : Option Value) (M : mz_M) {res : mz_O} (h :
    res = (some (.int (-1)), M)) :
    mq_G mq_X8_powerRead (59, [o0, o1, o2, o3, o4], [], M) res := by
  refine mz_Go.steps (n := 1) (k2 := (60, [o0, o1, o2, o3, o4], [.int (-1)], M)) (P := []) rfl mz_o0 ?_
  rw [h]
  exact mz_Go.iret (rfl : mz_find 60 (mz_rows mq_X8_powerRead) = some (60, .ireturn, 1, 0, 0, 0)) rfl
set_option maxRecDepth 100000 in
set_option maxHeartbeats 4000000 in
theorem t_X8_powerRead_111 (o1 : Option Value) (x2 : Int32) (o3 : Option Value) (o4 : Option Value) (M : mz_M) {res : mz_O} (h :
    (((M.1 70 3) = (M.1 70 2) →
      mq_G mq_X8_powerRead (135, [some (.ref 70), o1, some (.int x2), o3, o4], [], M) res) ∧
    (¬ ((M.1 70 3) = (M.1 70 2)) →
      (∃ (r2 : Int32), (mq_C mq_X8_signAt [.ref 70, .int (M.1 70 3)] M (some (.int r2), M)) ∧
      ((¬ r2 = 43 →
        mq_G mq_X8_powerRead (140, [some (.ref 70), o1, some (.int x2), o3, o4], [.int 0], M) res) ∧
      (¬ (¬ r2 = 43) →
        mq_G mq_X8_powerRead (135, [some (.ref 70), o1, some (.int x2), o3, o4], [], M) res)))))) :
    mq_G mq_X8_powerRead (111, [some (.ref 70), o1, some (.int x2), o3, o4], [], M) res := by
  refine mz_Go.steps (n := 5) (k2 := (if (M.1 70 3) = (M.1 70 2) then 135 else 122, [some (.ref 70), o1, some (.int x2), o3, o4], [], M)) (P := []) rfl mz_o0 ?_
  refine mz_Go.ite (fun c119 => ?_) (fun c119 => ?_)
  · replace h := h.1 c119
    exact h
  · replace h := h.2 c119
    refine mz_Go.steps (n := 3) (k2 := (127, [some (.ref 70), o1, some (.int x2), o3, o4], [.int (M.1 70 3), .ref 70], M)) (P := []) rfl mz_o0 ?_
    obtain ⟨r2, k2, h⟩ := h
    refine mz_Go.callV (As := [.int (M.1 70 3)]) (rest := []) (rfl : mz_find 127 (mz_rows mq_X8_powerRead) = some (127, .invokevirtual 29, 3, 55, 0, 54)) (rfl : mz_nth mq_tab 55 = some mq_X8_signAt) rfl rfl rfl rfl (Nat.le_of_ble_eq_true rfl) (Nat.le_of_ble_eq_true rfl) k2 ?_
    show mq_G mq_X8_powerRead (130, [some (.ref 70), o1, some (.int x2), o3, o4], [.int r2], M) res
    refine mz_Go.steps (n := 2) (k2 := (if ¬ r2 = 43 then 139 else 135, [some (.ref 70), o1, some (.int x2), o3, o4], [], M)) (P := []) rfl mz_o0 ?_
    refine mz_Go.ite (fun c132 => ?_) (fun c132 => ?_)
    · replace h := h.1 c132
      refine mz_Go.steps (n := 1) (k2 := (140, [some (.ref 70), o1, some (.int x2), o3, o4], [.int 0], M)) (P := []) rfl mz_o0 ?_
      exact h
    · replace h := h.2 c132
      exact h
set_option maxRecDepth 100000 in
set_option maxHeartbeats 4000000 in
theorem t_X8_powerRead_135 (o0 : Option Value) (o1 : Option Value) (x2 : Int32) (o3 : Option Value) (o4 : Option Value) (M : mz_M) {res : mz_O} (h :
    mq_G mq_X8_powerRead (140, [o0, o1, some (.int x2), o3, o4], [.int 1], M) res) :
    mq_G mq_X8_powerRead (135, [o0, o1, some (.int x2), o3, o4], [], M) res := by
  refine mz_Go.steps (n := 2) (k2 := (140, [o0, o1, some (.int x2), o3, o4], [.int 1], M)) (P := []) rfl mz_o0 ?_
  exact h
set_option maxRecDepth 100000 in
set_option maxHeartbeats 4000000 in
theorem t_X8_powerRead_140 (o0 : Option Value) (o1 : Option Value) (x2 : Int32) (o3 : Option Value) (o4 : Option Value) (s0 : Int32) (M : mz_M) {res : mz_O} (h :
    ((s0 = 0 →
      mq_G mq_X8_powerRead (155, [o0, o1, some (.int x2), (mz_nw o3), some (.int s0)], [], M) res) ∧
    (¬ (s0 = 0) →
      ((¬ x2 = 0 →
        mq_G mq_X8_powerRead (155, [o0, o1, some (.int x2), (mz_nw o3), some (.int s0)], [], M) res) ∧
      (¬ (¬ x2 = 0) →
        mq_G mq_X8_powerRead (156, [o0, o1, some (.int x2), (mz_nw o3), some (.int s0)], [.int 1], M) res))))) :
    mq_G mq_X8_powerRead (140, [o0, o1, some (.int x2), o3, o4], [.int s0], M) res := by
  refine mz_Go.steps (n := 3) (k2 := (if s0 = 0 then 155 else 147, [o0, o1, some (.int x2), (mz_nw o3), some (.int s0)], [], M)) (P := []) rfl mz_o0 ?_
  refine mz_Go.ite (fun c144 => ?_) (fun c144 => ?_)
  · replace h := h.1 c144
    exact h
  · replace h := h.2 c144
    refine mz_Go.steps (n := 2) (k2 := (if ¬ x2 = 0 then 155 else 151, [o0, o1, some (.int x2), (mz_nw o3), some (.int s0)], [], M)) (P := []) rfl mz_o0 ?_
    refine mz_Go.ite (fun c148 => ?_) (fun c148 => ?_)
    · replace h := h.1 c148
      exact h
    · replace h := h.2 c148
      refine mz_Go.steps (n := 2) (k2 := (156, [o0, o1, some (.int x2), (mz_nw o3), some (.int s0)], [.int 1], M)) (P := []) rfl mz_o0 ?_
      exact h
set_option maxRecDepth 100000 in
set_option maxHeartbeats 4000000 in
theorem t_X8_powerRead_155 (o0 : Option Value) (o1 : Option Value) (o2 : Option Value) (o3 : Option Value) (o4 : Option Value) (M : mz_M) {res : mz_O} (h :
    mq_G mq_X8_powerRead (156, [o0, o1, o2, o3, o4], [.int (-1)], M) res) :
    mq_G mq_X8_powerRead (155, [o0, o1, o2, o3, o4], [], M) res := by
  refine mz_Go.steps (n := 1) (k2 := (156, [o0, o1, o2, o3, o4], [.int (-1)], M)) (P := []) rfl mz_o0 ?_
  exact h
set_option maxRecDepth 100000 in
set_option maxHeartbeats 4000000 in
theorem t_X8_powerRead_156 (o0 : Option Value) (o1 : Option Value) (o2 : Option Value) (o3 : Option Value) (o4 : Option Value) (s0 : Int32) (M : mz_M) {res : mz_O} (h :
    res = (some (.int s0), M)) :
    mq_G mq_X8_powerRead (156, [o0, o1, o2, o3, o4], [.int s0], M) res := by
  rw [h]
  exact mz_Go.iret (rfl : mz_find 156 (mz_rows mq_X8_powerRead) = some (156, .ireturn, 1, 0, 0, 0)) rfl
set_option maxRecDepth 100000 in
set_option maxHeartbeats 4000000 in
theorem t_X8_elementsRead_0 (b1 : Nat) (x2 : Int32) (x3 : Int32) (M : mz_M) {res : mz_O} (h :
    (∀ M1 : mz_M, M1 = mz_wr M 70 (upd (M.1 70) 3 0) →
    mq_G mq_X8_elementsRead (8, [some (.ref 70), some (.ref b1), some (.int x2), some (.int x3), some (.int 0), none], [], M1) res)) :
    mq_G mq_X8_elementsRead (0, [some (.ref 70), some (.ref b1), some (.int x2), some (.int x3), none, none], [], M) res := by
  obtain ⟨M1, e1⟩ : ∃ y, y = mz_wr M 70 (upd (M.1 70) 3 0) := ⟨_, rfl⟩
  replace h := h M1 e1
  refine mz_Go.steps (n := 3) (k2 := (5, [some (.ref 70), some (.ref b1), some (.int x2), some (.int x3), none, none], [], (mz_wr M 70 (upd (M.1 70) 3 0)))) (P := []) rfl mz_o0 ?_
  rw [← e1]
  refine mz_Go.steps (n := 2) (k2 := (8, [some (.ref 70), some (.ref b1), some (.int x2), some (.int x3), some (.int 0), none], [], M1)) (P := []) rfl mz_o0 ?_
  exact h
set_option maxRecDepth 100000 in
set_option maxHeartbeats 4000000 in
theorem t_X8_elementsRead_8 (b1 : Nat) (x2 : Int32) (x3 : Int32) (x4 : Int32) (o5 : Option Value) (M : mz_M) {res : mz_O} (h :
    ((x2 ≤ x4 →
      ((¬ (M.1 70 3) = (M.1 70 2) →
        res = (some (.int ((-21) - (M.1 70 3))), M)) ∧
      (¬ (¬ (M.1 70 3) = (M.1 70 2)) →
        res = (some (.int 0), M)))) ∧
    (¬ (x2 ≤ x4) →
      ((x4 ≤ 0 →
        (∃ (r4 : Int32) (M4 : mz_M), (mq_C mq_X8_numberRead [.ref 70] M (some (.int r4), M4)) ∧
        ((¬ r4 = (-1) →
          ((r4 < x3 →
            (mz_nth mq_sk b1 = some (.inl (0, 8, []))) ∧
            (vp_in x4 8) ∧
            (∀ M7 : mz_M, M7 = mz_wr M4 b1 (upd (M4.1 b1) x4.toNatClampNeg r4) →
            mq_G mq_X8_elementsRead (8, [some (.ref 70), some (.ref b1), some (.int x2), some (.int x3), some (.int (x4 + 1)), some (.int r4)], [], M7) res)) ∧
          (¬ (r4 < x3) →
            res = (some (.int ((-21) - ((M4.1 70 3) - 1))), M4)))) ∧
        (¬ (¬ r4 = (-1)) →
          res = (some (.int ((-21) - (M4.1 70 3))), M4))))) ∧
      (¬ (x4 ≤ 0) →
        (∃ (r10 : Int32), (mq_C mq_X8_signAt [.ref 70, .int (M.1 70 3)] M (some (.int r10), M)) ∧
        ((r10 = 44 →
          (∀ M12 : mz_M, M12 = mz_wr M 70 (upd (M.1 70) 3 ((M.1 70 3) + 1)) →
          (∃ (r13 : Int32) (M13 : mz_M), (mq_C mq_X8_numberRead [.ref 70] M12 (some (.int r13), M13)) ∧
          ((¬ r13 = (-1) →
            ((r13 < x3 →
              (mz_nth mq_sk b1 = some (.inl (0, 8, []))) ∧
              (vp_in x4 8) ∧
              (∀ M16 : mz_M, M16 = mz_wr M13 b1 (upd (M13.1 b1) x4.toNatClampNeg r13) →
              mq_G mq_X8_elementsRead (8, [some (.ref 70), some (.ref b1), some (.int x2), some (.int x3), some (.int (x4 + 1)), some (.int r13)], [], M16) res)) ∧
            (¬ (r13 < x3) →
              res = (some (.int ((-21) - ((M13.1 70 3) - 1))), M13)))) ∧
          (¬ (¬ r13 = (-1)) →
            res = (some (.int ((-21) - (M13.1 70 3))), M13)))))) ∧
        (¬ (r10 = 44) →
          res = (some (.int ((-21) - (M.1 70 3))), M))))))))) :
    mq_G mq_X8_elementsRead (8, [some (.ref 70), some (.ref b1), some (.int x2), some (.int x3), some (.int x4), o5], [], M) res := by
  refine mz_Go.steps (n := 3) (k2 := (if x2 ≤ x4 then 98 else 14, [some (.ref 70), some (.ref b1), some (.int x2), some (.int x3), some (.int x4), o5], [], M)) (P := []) rfl mz_o0 ?_
  refine mz_Go.ite (fun c11 => ?_) (fun c11 => ?_)
  · replace h := h.1 c11
    refine mz_Go.steps (n := 5) (k2 := (if ¬ (M.1 70 3) = (M.1 70 2) then 113 else 109, [some (.ref 70), some (.ref b1), some (.int x2), some (.int x3), some (.int x4), o5], [], M)) (P := []) rfl mz_o0 ?_
    refine mz_Go.ite (fun c106 => ?_) (fun c106 => ?_)
    · replace h := h.1 c106
      refine mz_Go.steps (n := 4) (k2 := (120, [some (.ref 70), some (.ref b1), some (.int x2), some (.int x3), some (.int x4), o5], [.int ((-21) - (M.1 70 3))], M)) (P := []) rfl mz_o0 ?_
      rw [h]
      exact mz_Go.iret (rfl : mz_find 120 (mz_rows mq_X8_elementsRead) = some (120, .ireturn, 1, 0, 0, 0)) rfl
    · replace h := h.2 c106
      refine mz_Go.steps (n := 2) (k2 := (120, [some (.ref 70), some (.ref b1), some (.int x2), some (.int x3), some (.int x4), o5], [.int 0], M)) (P := []) rfl mz_o0 ?_
      rw [h]
      exact mz_Go.iret (rfl : mz_find 120 (mz_rows mq_X8_elementsRead) = some (120, .ireturn, 1, 0, 0, 0)) rfl
  · replace h := h.2 c11
    refine mz_Go.steps (n := 2) (k2 := (if x4 ≤ 0 then 50 else 19, [some (.ref 70), some (.ref b1), some (.int x2), some (.int x3), some (.int x4), o5], [], M)) (P := []) rfl mz_o0 ?_
    refine mz_Go.ite (fun c16 => ?_) (fun c16 => ?_)
    · replace h := h.1 c16
      refine mz_Go.steps (n := 1) (k2 := (51, [some (.ref 70), some (.ref b1), some (.int x2), some (.int x3), some (.int x4), o5], [.ref 70], M)) (P := []) rfl mz_o0 ?_
      obtain ⟨r4, M4, k4, h⟩ := h
      refine mz_Go.callV (As := []) (rest := []) (rfl : mz_find 51 (mz_rows mq_X8_elementsRead) = some (51, .invokevirtual 32, 3, 59, 0, 55)) (rfl : mz_nth mq_tab 59 = some mq_X8_numberRead) rfl rfl rfl rfl (Nat.le_of_ble_eq_true rfl) (Nat.le_of_ble_eq_true rfl) k4 ?_
      show mq_G mq_X8_elementsRead (54, [some (.ref 70), some (.ref b1), some (.int x2), some (.int x3), some (.int x4), o5], [.int r4], M4) res
      refine mz_Go.steps (n := 4) (k2 := (if ¬ r4 = (-1) then 70 else 62, [some (.ref 70), some (.ref b1), some (.int x2), some (.int x3), some (.int x4), some (.int r4)], [], M4)) (P := []) rfl mz_o0 ?_
      refine mz_Go.ite (fun c59 => ?_) (fun c59 => ?_)
      · replace h := h.1 c59
        refine mz_Go.steps (n := 3) (k2 := (if r4 < x3 then 86 else 76, [some (.ref 70), some (.ref b1), some (.int x2), some (.int x3), some (.int x4), some (.int r4)], [], M4)) (P := []) rfl mz_o0 ?_
        refine mz_Go.ite (fun c73 => ?_) (fun c73 => ?_)
        · replace h := h.1 c73
          refine mz_Go.steps (n := 3) (k2 := (91, [some (.ref 70), some (.ref b1), some (.int x2), some (.int x3), some (.int x4), some (.int r4)], [.int r4, .int x4, .ref b1], M4)) (P := []) rfl mz_o0 ?_
          obtain ⟨q8, q9, h⟩ := h
          obtain ⟨M7, e7⟩ : ∃ y, y = mz_wr M4 b1 (upd (M4.1 b1) x4.toNatClampNeg r4) := ⟨_, rfl⟩
          replace h := h M7 e7
          refine mz_Go.iast (rfl : mz_find 91 (mz_rows mq_X8_elementsRead) = some (91, .iastore, 1, 0, 0, 0)) q8 q9 ?_
          show mq_G mq_X8_elementsRead (92, [some (.ref 70), some (.ref b1), some (.int x2), some (.int x3), some (.int x4), some (.int r4)], [], (mz_wr M4 b1 (upd (M4.1 b1) x4.toNatClampNeg r4))) res
          rw [← e7]
          refine mz_Go.steps (n := 2) (k2 := (8, [some (.ref 70), some (.ref b1), some (.int x2), some (.int x3), some (.int (x4 + 1)), some (.int r4)], [], M7)) (P := []) rfl mz_o0 ?_
          exact h
        · replace h := h.2 c73
          refine mz_Go.steps (n := 6) (k2 := (85, [some (.ref 70), some (.ref b1), some (.int x2), some (.int x3), some (.int x4), some (.int r4)], [.int ((-21) - ((M4.1 70 3) - 1))], M4)) (P := []) rfl mz_o0 ?_
          rw [h]
          exact mz_Go.iret (rfl : mz_find 85 (mz_rows mq_X8_elementsRead) = some (85, .ireturn, 1, 0, 0, 0)) rfl
      · replace h := h.2 c59
        refine mz_Go.steps (n := 4) (k2 := (69, [some (.ref 70), some (.ref b1), some (.int x2), some (.int x3), some (.int x4), some (.int r4)], [.int ((-21) - (M4.1 70 3))], M4)) (P := []) rfl mz_o0 ?_
        rw [h]
        exact mz_Go.iret (rfl : mz_find 69 (mz_rows mq_X8_elementsRead) = some (69, .ireturn, 1, 0, 0, 0)) rfl
    · replace h := h.2 c16
      refine mz_Go.steps (n := 3) (k2 := (24, [some (.ref 70), some (.ref b1), some (.int x2), some (.int x3), some (.int x4), o5], [.int (M.1 70 3), .ref 70], M)) (P := []) rfl mz_o0 ?_
      obtain ⟨r10, k10, h⟩ := h
      refine mz_Go.callV (As := [.int (M.1 70 3)]) (rest := []) (rfl : mz_find 24 (mz_rows mq_X8_elementsRead) = some (24, .invokevirtual 29, 3, 55, 0, 54)) (rfl : mz_nth mq_tab 55 = some mq_X8_signAt) rfl rfl rfl rfl (Nat.le_of_ble_eq_true rfl) (Nat.le_of_ble_eq_true rfl) k10 ?_
      show mq_G mq_X8_elementsRead (27, [some (.ref 70), some (.ref b1), some (.int x2), some (.int x3), some (.int x4), o5], [.int r10], M) res
      refine mz_Go.steps (n := 2) (k2 := (if r10 = 44 then 40 else 32, [some (.ref 70), some (.ref b1), some (.int x2), some (.int x3), some (.int x4), o5], [], M)) (P := []) rfl mz_o0 ?_
      refine mz_Go.ite (fun c29 => ?_) (fun c29 => ?_)
      · replace h := h.1 c29
        obtain ⟨M12, e12⟩ : ∃ y, y = mz_wr M 70 (upd (M.1 70) 3 ((M.1 70 3) + 1)) := ⟨_, rfl⟩
        replace h := h M12 e12
        refine mz_Go.steps (n := 6) (k2 := (50, [some (.ref 70), some (.ref b1), some (.int x2), some (.int x3), some (.int x4), o5], [], (mz_wr M 70 (upd (M.1 70) 3 ((M.1 70 3) + 1))))) (P := []) rfl mz_o0 ?_
        rw [← e12]
        refine mz_Go.steps (n := 1) (k2 := (51, [some (.ref 70), some (.ref b1), some (.int x2), some (.int x3), some (.int x4), o5], [.ref 70], M12)) (P := []) rfl mz_o0 ?_
        obtain ⟨r13, M13, k13, h⟩ := h
        refine mz_Go.callV (As := []) (rest := []) (rfl : mz_find 51 (mz_rows mq_X8_elementsRead) = some (51, .invokevirtual 32, 3, 59, 0, 55)) (rfl : mz_nth mq_tab 59 = some mq_X8_numberRead) rfl rfl rfl rfl (Nat.le_of_ble_eq_true rfl) (Nat.le_of_ble_eq_true rfl) k13 ?_
        show mq_G mq_X8_elementsRead (54, [some (.ref 70), some (.ref b1), some (.int x2), some (.int x3), some (.int x4), o5], [.int r13], M13) res
        refine mz_Go.steps (n := 4) (k2 := (if ¬ r13 = (-1) then 70 else 62, [some (.ref 70), some (.ref b1), some (.int x2), some (.int x3), some (.int x4), some (.int r13)], [], M13)) (P := []) rfl mz_o0 ?_
        refine mz_Go.ite (fun c59 => ?_) (fun c59 => ?_)
        · replace h := h.1 c59
          refine mz_Go.steps (n := 3) (k2 := (if r13 < x3 then 86 else 76, [some (.ref 70), some (.ref b1), some (.int x2), some (.int x3), some (.int x4), some (.int r13)], [], M13)) (P := []) rfl mz_o0 ?_
          refine mz_Go.ite (fun c73 => ?_) (fun c73 => ?_)
          · replace h := h.1 c73
            refine mz_Go.steps (n := 3) (k2 := (91, [some (.ref 70), some (.ref b1), some (.int x2), some (.int x3), some (.int x4), some (.int r13)], [.int r13, .int x4, .ref b1], M13)) (P := []) rfl mz_o0 ?_
            obtain ⟨q17, q18, h⟩ := h
            obtain ⟨M16, e16⟩ : ∃ y, y = mz_wr M13 b1 (upd (M13.1 b1) x4.toNatClampNeg r13) := ⟨_, rfl⟩
            replace h := h M16 e16
            refine mz_Go.iast (rfl : mz_find 91 (mz_rows mq_X8_elementsRead) = some (91, .iastore, 1, 0, 0, 0)) q17 q18 ?_
            show mq_G mq_X8_elementsRead (92, [some (.ref 70), some (.ref b1), some (.int x2), some (.int x3), some (.int x4), some (.int r13)], [], (mz_wr M13 b1 (upd (M13.1 b1) x4.toNatClampNeg r13))) res
            rw [← e16]
            refine mz_Go.steps (n := 2) (k2 := (8, [some (.ref 70), some (.ref b1), some (.int x2), some (.int x3), some (.int (x4 + 1)), some (.int r13)], [], M16)) (P := []) rfl mz_o0 ?_
            exact h
          · replace h := h.2 c73
            refine mz_Go.steps (n := 6) (k2 := (85, [some (.ref 70), some (.ref b1), some (.int x2), some (.int x3), some (.int x4), some (.int r13)], [.int ((-21) - ((M13.1 70 3) - 1))], M13)) (P := []) rfl mz_o0 ?_
            rw [h]
            exact mz_Go.iret (rfl : mz_find 85 (mz_rows mq_X8_elementsRead) = some (85, .ireturn, 1, 0, 0, 0)) rfl
        · replace h := h.2 c59
          refine mz_Go.steps (n := 4) (k2 := (69, [some (.ref 70), some (.ref b1), some (.int x2), some (.int x3), some (.int x4), some (.int r13)], [.int ((-21) - (M13.1 70 3))], M13)) (P := []) rfl mz_o0 ?_
          rw [h]
          exact mz_Go.iret (rfl : mz_find 69 (mz_rows mq_X8_elementsRead) = some (69, .ireturn, 1, 0, 0, 0)) rfl
      · replace h := h.2 c29
        refine mz_Go.steps (n := 4) (k2 := (39, [some (.ref 70), some (.ref b1), some (.int x2), some (.int x3), some (.int x4), o5], [.int ((-21) - (M.1 70 3))], M)) (P := []) rfl mz_o0 ?_
        rw [h]
        exact mz_Go.iret (rfl : mz_find 39 (mz_rows mq_X8_elementsRead) = some (39, .ireturn, 1, 0, 0, 0)) rfl
set_option maxRecDepth 100000 in
set_option maxHeartbeats 4000000 in
theorem t_X8_numberRead_0 (M : mz_M) {res : mz_O} (h :
    (∃ (r1 : Int32), (mq_C mq_X8_signAt [.ref 70, .int (M.1 70 3)] M (some (.int r1), M)) ∧
    (∃ (r2 : Int32), (mq_C mq_X8_isDigit [.int r1] M (some (.int r2), M)) ∧
    ((¬ r2 = 0 →
      mq_G mq_X8_numberRead (20, [some (.ref 70), some (.int 0), some (.int 0)], [], M) res) ∧
    (¬ (¬ r2 = 0) →
      res = (some (.int (-1)), M)))))) :
    mq_G mq_X8_numberRead (0, [some (.ref 70), none, none], [], M) res := by
  refine mz_Go.steps (n := 3) (k2 := (5, [some (.ref 70), none, none], [.int (M.1 70 3), .ref 70], M)) (P := []) rfl mz_o0 ?_
  obtain ⟨r1, k1, h⟩ := h
  refine mz_Go.callV (As := [.int (M.1 70 3)]) (rest := []) (rfl : mz_find 5 (mz_rows mq_X8_numberRead) = some (5, .invokevirtual 29, 3, 55, 0, 54)) (rfl : mz_nth mq_tab 55 = some mq_X8_signAt) rfl rfl rfl rfl (Nat.le_of_ble_eq_true rfl) (Nat.le_of_ble_eq_true rfl) k1 ?_
  show mq_G mq_X8_numberRead (8, [some (.ref 70), none, none], [.int r1], M) res
  obtain ⟨r2, k2, h⟩ := h
  refine mz_Go.callS (As := [.int r1]) (rest := []) (rfl : mz_find 8 (mz_rows mq_X8_numberRead) = some (8, .invokestatic 36, 3, 60, 0, 56)) (rfl : mz_nth mq_tab 60 = some mq_X8_isDigit) (by decide) rfl rfl rfl (Nat.le_of_ble_eq_true rfl) (Nat.le_of_ble_eq_true rfl) k2 ?_
  show mq_G mq_X8_numberRead (11, [some (.ref 70), none, none], [.int r2], M) res
  refine mz_Go.steps (n := 1) (k2 := (if ¬ r2 = 0 then 16 else 14, [some (.ref 70), none, none], [], M)) (P := []) rfl mz_o0 ?_
  refine mz_Go.ite (fun c11 => ?_) (fun c11 => ?_)
  · replace h := h.1 c11
    refine mz_Go.steps (n := 4) (k2 := (20, [some (.ref 70), some (.int 0), some (.int 0)], [], M)) (P := []) rfl mz_o0 ?_
    exact h
  · replace h := h.2 c11
    refine mz_Go.steps (n := 1) (k2 := (15, [some (.ref 70), none, none], [.int (-1)], M)) (P := []) rfl mz_o0 ?_
    rw [h]
    exact mz_Go.iret (rfl : mz_find 15 (mz_rows mq_X8_numberRead) = some (15, .ireturn, 1, 0, 0, 0)) rfl
set_option maxRecDepth 100000 in
set_option maxHeartbeats 4000000 in
theorem t_X8_numberRead_20 (x1 : Int32) (x2 : Int32) (M : mz_M) {res : mz_O} (h :
    ((3 ≤ x2 →
      res = (some (.int x1), M)) ∧
    (¬ (3 ≤ x2) →
      (∃ (r2 : Int32), (mq_C mq_X8_signAt [.ref 70, .int (M.1 70 3)] M (some (.int r2), M)) ∧
      (∃ (r3 : Int32), (mq_C mq_X8_isDigit [.int r2] M (some (.int r3), M)) ∧
      ((r3 = 0 →
        res = (some (.int x1), M)) ∧
      (¬ (r3 = 0) →
        ((x2 = 0 →
          (∃ (r6 : Int32), (mq_C mq_X8_signAt [.ref 70, .int (M.1 70 3)] M (some (.int r6), M)) ∧
          (∀ M7 : mz_M, M7 = mz_wr M 70 (upd (M.1 70) 3 ((M.1 70 3) + 1)) →
          mq_G mq_X8_numberRead (20, [some (.ref 70), some (.int (((10 * x1) + r6) - 48)), some (.int (x2 + 1))], [], M7) res))) ∧
        (¬ (x2 = 0) →
          ((x1 ≤ 0 →
            res = (some (.int x1), M)) ∧
          (¬ (x1 ≤ 0) →
            (∃ (r9 : Int32), (mq_C mq_X8_signAt [.ref 70, .int (M.1 70 3)] M (some (.int r9), M)) ∧
            (∀ M10 : mz_M, M10 = mz_wr M 70 (upd (M.1 70) 3 ((M.1 70 3) + 1)) →
            mq_G mq_X8_numberRead (20, [some (.ref 70), some (.int (((10 * x1) + r9) - 48)), some (.int (x2 + 1))], [], M10) res))))))))))))) :
    mq_G mq_X8_numberRead (20, [some (.ref 70), some (.int x1), some (.int x2)], [], M) res := by
  refine mz_Go.steps (n := 3) (k2 := (if 3 ≤ x2 then 80 else 25, [some (.ref 70), some (.int x1), some (.int x2)], [], M)) (P := []) rfl mz_o0 ?_
  refine mz_Go.ite (fun c22 => ?_) (fun c22 => ?_)
  · replace h := h.1 c22
    refine mz_Go.steps (n := 1) (k2 := (81, [some (.ref 70), some (.int x1), some (.int x2)], [.int x1], M)) (P := []) rfl mz_o0 ?_
    rw [h]
    exact mz_Go.iret (rfl : mz_find 81 (mz_rows mq_X8_numberRead) = some (81, .ireturn, 1, 0, 0, 0)) rfl
  · replace h := h.2 c22
    refine mz_Go.steps (n := 3) (k2 := (30, [some (.ref 70), some (.int x1), some (.int x2)], [.int (M.1 70 3), .ref 70], M)) (P := []) rfl mz_o0 ?_
    obtain ⟨r2, k2, h⟩ := h
    refine mz_Go.callV (As := [.int (M.1 70 3)]) (rest := []) (rfl : mz_find 30 (mz_rows mq_X8_numberRead) = some (30, .invokevirtual 29, 3, 55, 0, 54)) (rfl : mz_nth mq_tab 55 = some mq_X8_signAt) rfl rfl rfl rfl (Nat.le_of_ble_eq_true rfl) (Nat.le_of_ble_eq_true rfl) k2 ?_
    show mq_G mq_X8_numberRead (33, [some (.ref 70), some (.int x1), some (.int x2)], [.int r2], M) res
    obtain ⟨r3, k3, h⟩ := h
    refine mz_Go.callS (As := [.int r2]) (rest := []) (rfl : mz_find 33 (mz_rows mq_X8_numberRead) = some (33, .invokestatic 36, 3, 60, 0, 56)) (rfl : mz_nth mq_tab 60 = some mq_X8_isDigit) (by decide) rfl rfl rfl (Nat.le_of_ble_eq_true rfl) (Nat.le_of_ble_eq_true rfl) k3 ?_
    show mq_G mq_X8_numberRead (36, [some (.ref 70), some (.int x1), some (.int x2)], [.int r3], M) res
    refine mz_Go.steps (n := 1) (k2 := (if r3 = 0 then 80 else 39, [some (.ref 70), some (.int x1), some (.int x2)], [], M)) (P := []) rfl mz_o0 ?_
    refine mz_Go.ite (fun c36 => ?_) (fun c36 => ?_)
    · replace h := h.1 c36
      refine mz_Go.steps (n := 1) (k2 := (81, [some (.ref 70), some (.int x1), some (.int x2)], [.int x1], M)) (P := []) rfl mz_o0 ?_
      rw [h]
      exact mz_Go.iret (rfl : mz_find 81 (mz_rows mq_X8_numberRead) = some (81, .ireturn, 1, 0, 0, 0)) rfl
    · replace h := h.2 c36
      refine mz_Go.steps (n := 2) (k2 := (if x2 = 0 then 47 else 43, [some (.ref 70), some (.int x1), some (.int x2)], [], M)) (P := []) rfl mz_o0 ?_
      refine mz_Go.ite (fun c40 => ?_) (fun c40 => ?_)
      · replace h := h.1 c40
        refine mz_Go.steps (n := 6) (k2 := (56, [some (.ref 70), some (.int x1), some (.int x2)], [.int (M.1 70 3), .ref 70, .int (10 * x1)], M)) (P := []) rfl mz_o0 ?_
        obtain ⟨r6, k6, h⟩ := h
        refine mz_Go.callV (As := [.int (M.1 70 3)]) (rest := [.int (10 * x1)]) (rfl : mz_find 56 (mz_rows mq_X8_numberRead) = some (56, .invokevirtual 29, 3, 55, 0, 54)) (rfl : mz_nth mq_tab 55 = some mq_X8_signAt) rfl rfl rfl rfl (Nat.le_of_ble_eq_true rfl) (Nat.le_of_ble_eq_true rfl) k6 ?_
        show mq_G mq_X8_numberRead (59, [some (.ref 70), some (.int x1), some (.int x2)], [.int r6, .int (10 * x1)], M) res
        obtain ⟨M7, e7⟩ : ∃ y, y = mz_wr M 70 (upd (M.1 70) 3 ((M.1 70 3) + 1)) := ⟨_, rfl⟩
        replace h := h M7 e7
        refine mz_Go.steps (n := 10) (k2 := (74, [some (.ref 70), some (.int (((10 * x1) + r6) - 48)), some (.int x2)], [], (mz_wr M 70 (upd (M.1 70) 3 ((M.1 70 3) + 1))))) (P := []) rfl mz_o0 ?_
        rw [← e7]
        refine mz_Go.steps (n := 2) (k2 := (20, [some (.ref 70), some (.int (((10 * x1) + r6) - 48)), some (.int (x2 + 1))], [], M7)) (P := []) rfl mz_o0 ?_
        exact h
      · replace h := h.2 c40
        refine mz_Go.steps (n := 2) (k2 := (if x1 ≤ 0 then 80 else 47, [some (.ref 70), some (.int x1), some (.int x2)], [], M)) (P := []) rfl mz_o0 ?_
        refine mz_Go.ite (fun c44 => ?_) (fun c44 => ?_)
        · replace h := h.1 c44
          refine mz_Go.steps (n := 1) (k2 := (81, [some (.ref 70), some (.int x1), some (.int x2)], [.int x1], M)) (P := []) rfl mz_o0 ?_
          rw [h]
          exact mz_Go.iret (rfl : mz_find 81 (mz_rows mq_X8_numberRead) = some (81, .ireturn, 1, 0, 0, 0)) rfl
        · replace h := h.2 c44
          refine mz_Go.steps (n := 6) (k2 := (56, [some (.ref 70), some (.int x1), some (.int x2)], [.int (M.1 70 3), .ref 70, .int (10 * x1)], M)) (P := []) rfl mz_o0 ?_
          obtain ⟨r9, k9, h⟩ := h
          refine mz_Go.callV (As := [.int (M.1 70 3)]) (rest := [.int (10 * x1)]) (rfl : mz_find 56 (mz_rows mq_X8_numberRead) = some (56, .invokevirtual 29, 3, 55, 0, 54)) (rfl : mz_nth mq_tab 55 = some mq_X8_signAt) rfl rfl rfl rfl (Nat.le_of_ble_eq_true rfl) (Nat.le_of_ble_eq_true rfl) k9 ?_
          show mq_G mq_X8_numberRead (59, [some (.ref 70), some (.int x1), some (.int x2)], [.int r9, .int (10 * x1)], M) res
          obtain ⟨M10, e10⟩ : ∃ y, y = mz_wr M 70 (upd (M.1 70) 3 ((M.1 70 3) + 1)) := ⟨_, rfl⟩
          replace h := h M10 e10
          refine mz_Go.steps (n := 10) (k2 := (74, [some (.ref 70), some (.int (((10 * x1) + r9) - 48)), some (.int x2)], [], (mz_wr M 70 (upd (M.1 70) 3 ((M.1 70 3) + 1))))) (P := []) rfl mz_o0 ?_
          rw [← e10]
          refine mz_Go.steps (n := 2) (k2 := (20, [some (.ref 70), some (.int (((10 * x1) + r9) - 48)), some (.int (x2 + 1))], [], M10)) (P := []) rfl mz_o0 ?_
          exact h
set_option maxRecDepth 100000 in
set_option maxHeartbeats 4000000 in
theorem t_X8_isDigit_0 (x0 : Int32) (M : mz_M) {res : mz_O} (h :
    ((x0 < 48 →
      res = (some (.int 0), M)) ∧
    (¬ (x0 < 48) →
      ((57 < x0 →
        res = (some (.int 0), M)) ∧
      (¬ (57 < x0) →
        res = (some (.int 1), M)))))) :
    mq_G mq_X8_isDigit (0, [some (.int x0)], [], M) res := by
  refine mz_Go.steps (n := 3) (k2 := (if x0 < 48 then 16 else 6, [some (.int x0)], [], M)) (P := []) rfl mz_o0 ?_
  refine mz_Go.ite (fun c3 => ?_) (fun c3 => ?_)
  · replace h := h.1 c3
    refine mz_Go.steps (n := 1) (k2 := (17, [some (.int x0)], [.int 0], M)) (P := []) rfl mz_o0 ?_
    rw [h]
    exact mz_Go.zret (rfl : mz_find 17 (mz_rows mq_X8_isDigit) = some (17, .ireturn, 1, 0, 0, 0)) rfl (Or.inl rfl)
  · replace h := h.2 c3
    refine mz_Go.steps (n := 3) (k2 := (if 57 < x0 then 16 else 12, [some (.int x0)], [], M)) (P := []) rfl mz_o0 ?_
    refine mz_Go.ite (fun c9 => ?_) (fun c9 => ?_)
    · replace h := h.1 c9
      refine mz_Go.steps (n := 1) (k2 := (17, [some (.int x0)], [.int 0], M)) (P := []) rfl mz_o0 ?_
      rw [h]
      exact mz_Go.zret (rfl : mz_find 17 (mz_rows mq_X8_isDigit) = some (17, .ireturn, 1, 0, 0, 0)) rfl (Or.inl rfl)
    · replace h := h.2 c9
      refine mz_Go.steps (n := 2) (k2 := (17, [some (.int x0)], [.int 1], M)) (P := []) rfl mz_o0 ?_
      rw [h]
      exact mz_Go.zret (rfl : mz_find 17 (mz_rows mq_X8_isDigit) = some (17, .ireturn, 1, 0, 0, 0)) rfl (Or.inr rfl)
set_option maxRecDepth 100000 in
set_option maxHeartbeats 4000000 in
theorem t_X8_signOf_0 (x1 : Int32) (x2 : Int32) (M : mz_M) {res : mz_O} (h :
    mq_G mq_X8_signOf (6, [some (.ref 70), some (.int x1), some (.int x2), some (.int 0), some (.int 8)], [], M) res) :
    mq_G mq_X8_signOf (0, [some (.ref 70), some (.int x1), some (.int x2), none, none], [], M) res := by
  refine mz_Go.steps (n := 4) (k2 := (6, [some (.ref 70), some (.int x1), some (.int x2), some (.int 0), some (.int 8)], [], M)) (P := []) rfl mz_o0 ?_
  exact h
set_option maxRecDepth 100000 in
set_option maxHeartbeats 4000000 in
theorem t_X8_signOf_6 (x1 : Int32) (x2 : Int32) (x3 : Int32) (x4 : Int32) (M : mz_M) {res : mz_O} (h :
    ((x4 < 0 →
      ((¬ x2 = (-1) →
        ((x2 < 0 →
          mq_G mq_X8_signOf (98, [some (.ref 70), some (.int x1), some (.int x2), some (.int x3), some (.int x4)], [], M) res) ∧
        (¬ (x2 < 0) →
          ((x3 ≤ x2 →
            mq_G mq_X8_signOf (98, [some (.ref 70), some (.int x1), some (.int x2), some (.int x3), some (.int x4)], [], M) res) ∧
          (¬ (x3 ≤ x2) →
            (vp_in x2 32) ∧
            mq_G mq_X8_signOf (99, [some (.ref 70), some (.int x1), some (.int x2), some (.int x3), some (.int x4)], [.int (M.1 72 x2.toNatClampNeg)], M) res))))) ∧
      (¬ (¬ x2 = (-1)) →
        res = (some (.int x3), M)))) ∧
    (¬ (x4 < 0) →
      ((((x1 >>> (x4 &&& 31)) &&& 1) = 0 →
        mq_G mq_X8_signOf (67, [some (.ref 70), some (.int x1), some (.int x2), some (.int x3), some (.int x4)], [], M) res) ∧
      (¬ (((x1 >>> (x4 &&& 31)) &&& 1) = 0) →
        ((x3 ≤ 0 →
          mq_G mq_X8_signOf (32, [some (.ref 70), some (.int x1), some (.int x2), some (.int x3), some (.int x4)], [], M) res) ∧
        (¬ (x3 ≤ 0) →
          (∃ (r8 : Int32) (M8 : mz_M), (mq_C mq_X8_puts [.ref 70, .int x3, .int 43] M (some (.int r8), M8)) ∧
          mq_G mq_X8_signOf (32, [some (.ref 70), some (.int x1), some (.int x2), some (.int r8), some (.int x4)], [], M8) res)))))))) :
    mq_G mq_X8_signOf (6, [some (.ref 70), some (.int x1), some (.int x2), some (.int x3), some (.int x4)], [], M) res := by
  refine mz_Go.steps (n := 2) (k2 := (if x4 < 0 then 73 else 11, [some (.ref 70), some (.int x1), some (.int x2), some (.int x3), some (.int x4)], [], M)) (P := []) rfl mz_o0 ?_
  refine mz_Go.ite (fun c8 => ?_) (fun c8 => ?_)
  · replace h := h.1 c8
    refine mz_Go.steps (n := 3) (k2 := (if ¬ x2 = (-1) then 80 else 78, [some (.ref 70), some (.int x1), some (.int x2), some (.int x3), some (.int x4)], [], M)) (P := []) rfl mz_o0 ?_
    refine mz_Go.ite (fun c75 => ?_) (fun c75 => ?_)
    · replace h := h.1 c75
      refine mz_Go.steps (n := 2) (k2 := (if x2 < 0 then 98 else 84, [some (.ref 70), some (.int x1), some (.int x2), some (.int x3), some (.int x4)], [], M)) (P := []) rfl mz_o0 ?_
      refine mz_Go.ite (fun c81 => ?_) (fun c81 => ?_)
      · replace h := h.1 c81
        exact h
      · replace h := h.2 c81
        refine mz_Go.steps (n := 3) (k2 := (if x3 ≤ x2 then 98 else 89, [some (.ref 70), some (.int x1), some (.int x2), some (.int x3), some (.int x4)], [], M)) (P := []) rfl mz_o0 ?_
        refine mz_Go.ite (fun c86 => ?_) (fun c86 => ?_)
        · replace h := h.1 c86
          exact h
        · replace h := h.2 c86
          obtain ⟨q5, h⟩ := h
          refine mz_Go.steps (n := 5) (k2 := (99, [some (.ref 70), some (.int x1), some (.int x2), some (.int x3), some (.int x4)], [.int (M.1 72 x2.toNatClampNeg)], M)) (P := [vp_in x2 32]) rfl (mz_o1 q5) ?_
          exact h
    · replace h := h.2 c75
      refine mz_Go.steps (n := 1) (k2 := (79, [some (.ref 70), some (.int x1), some (.int x2), some (.int x3), some (.int x4)], [.int x3], M)) (P := []) rfl mz_o0 ?_
      rw [h]
      exact mz_Go.iret (rfl : mz_find 79 (mz_rows mq_X8_signOf) = some (79, .ireturn, 1, 0, 0, 0)) rfl
  · replace h := h.2 c8
    refine mz_Go.steps (n := 6) (k2 := (if ((x1 >>> (x4 &&& 31)) &&& 1) = 0 then 67 else 20, [some (.ref 70), some (.int x1), some (.int x2), some (.int x3), some (.int x4)], [], M)) (P := []) rfl mz_o0 ?_
    refine mz_Go.ite (fun c17 => ?_) (fun c17 => ?_)
    · replace h := h.1 c17
      exact h
    · replace h := h.2 c17
      refine mz_Go.steps (n := 2) (k2 := (if x3 ≤ 0 then 32 else 24, [some (.ref 70), some (.int x1), some (.int x2), some (.int x3), some (.int x4)], [], M)) (P := []) rfl mz_o0 ?_
      refine mz_Go.ite (fun c21 => ?_) (fun c21 => ?_)
      · replace h := h.1 c21
        exact h
      · replace h := h.2 c21
        refine mz_Go.steps (n := 3) (k2 := (28, [some (.ref 70), some (.int x1), some (.int x2), some (.int x3), some (.int x4)], [.int 43, .int x3, .ref 70], M)) (P := []) rfl mz_o0 ?_
        obtain ⟨r8, M8, k8, h⟩ := h
        refine mz_Go.callV (As := [.int x3, .int 43]) (rest := []) (rfl : mz_find 28 (mz_rows mq_X8_signOf) = some (28, .invokevirtual 40, 3, 62, 0, 57)) (rfl : mz_nth mq_tab 62 = some mq_X8_puts) rfl rfl rfl rfl (Nat.le_of_ble_eq_true rfl) (Nat.le_of_ble_eq_true rfl) k8 ?_
        show mq_G mq_X8_signOf (31, [some (.ref 70), some (.int x1), some (.int x2), some (.int x3), some (.int x4)], [.int r8], M8) res
        refine mz_Go.steps (n := 1) (k2 := (32, [some (.ref 70), some (.int x1), some (.int x2), some (.int r8), some (.int x4)], [], M8)) (P := []) rfl mz_o0 ?_
        exact h
set_option maxRecDepth 100000 in
set_option maxHeartbeats 4000000 in
theorem t_X8_signOf_32 (x1 : Int32) (x2 : Int32) (x3 : Int32) (x4 : Int32) (M : mz_M) {res : mz_O} (h :
    ((¬ x4 = 0 →
      mq_G mq_X8_signOf (46, [some (.ref 70), some (.int x1), some (.int x2), some (.int x3), some (.int x4)], [.int 120, .int x3, .ref 70], M) res) ∧
    (¬ (¬ x4 = 0) →
      mq_G mq_X8_signOf (46, [some (.ref 70), some (.int x1), some (.int x2), some (.int x3), some (.int x4)], [.int 49, .int x3, .ref 70], M) res))) :
    mq_G mq_X8_signOf (32, [some (.ref 70), some (.int x1), some (.int x2), some (.int x3), some (.int x4)], [], M) res := by
  refine mz_Go.steps (n := 4) (k2 := (if ¬ x4 = 0 then 44 else 39, [some (.ref 70), some (.int x1), some (.int x2), some (.int x3), some (.int x4)], [.int x3, .ref 70], M)) (P := []) rfl mz_o0 ?_
  refine mz_Go.ite (fun c36 => ?_) (fun c36 => ?_)
  · replace h := h.1 c36
    refine mz_Go.steps (n := 1) (k2 := (46, [some (.ref 70), some (.int x1), some (.int x2), some (.int x3), some (.int x4)], [.int 120, .int x3, .ref 70], M)) (P := []) rfl mz_o0 ?_
    exact h
  · replace h := h.2 c36
    refine mz_Go.steps (n := 2) (k2 := (46, [some (.ref 70), some (.int x1), some (.int x2), some (.int x3), some (.int x4)], [.int 49, .int x3, .ref 70], M)) (P := []) rfl mz_o0 ?_
    exact h
set_option maxRecDepth 100000 in
set_option maxHeartbeats 4000000 in
theorem t_X8_signOf_46 (x1 : Int32) (x2 : Int32) (o3 : Option Value) (x4 : Int32) (s1 : Int32) (s2 : Int32) (M : mz_M) {res : mz_O} (h :
    (∃ (r1 : Int32) (M1 : mz_M), (mq_C mq_X8_puts [.ref 70, .int s1, .int s2] M (some (.int r1), M1)) ∧
    ((x4 ≤ 1 →
      mq_G mq_X8_signOf (67, [some (.ref 70), some (.int x1), some (.int x2), some (.int r1), some (.int x4)], [], M1) res) ∧
    (¬ (x4 ≤ 1) →
      (∃ (r3 : Int32) (M3 : mz_M), (mq_C mq_X8_puts [.ref 70, .int r1, .int (48 + x4)] M1 (some (.int r3), M3)) ∧
      mq_G mq_X8_signOf (67, [some (.ref 70), some (.int x1), some (.int x2), some (.int r3), some (.int x4)], [], M3) res))))) :
    mq_G mq_X8_signOf (46, [some (.ref 70), some (.int x1), some (.int x2), o3, some (.int x4)], [.int s2, .int s1, .ref 70], M) res := by
  obtain ⟨r1, M1, k1, h⟩ := h
  refine mz_Go.callV (As := [.int s1, .int s2]) (rest := []) (rfl : mz_find 46 (mz_rows mq_X8_signOf) = some (46, .invokevirtual 40, 3, 62, 0, 57)) (rfl : mz_nth mq_tab 62 = some mq_X8_puts) rfl rfl rfl rfl (Nat.le_of_ble_eq_true rfl) (Nat.le_of_ble_eq_true rfl) k1 ?_
  show mq_G mq_X8_signOf (49, [some (.ref 70), some (.int x1), some (.int x2), o3, some (.int x4)], [.int r1], M1) res
  refine mz_Go.steps (n := 4) (k2 := (if x4 ≤ 1 then 67 else 56, [some (.ref 70), some (.int x1), some (.int x2), some (.int r1), some (.int x4)], [], M1)) (P := []) rfl mz_o0 ?_
  refine mz_Go.ite (fun c53 => ?_) (fun c53 => ?_)
  · replace h := h.1 c53
    exact h
  · replace h := h.2 c53
    refine mz_Go.steps (n := 5) (k2 := (63, [some (.ref 70), some (.int x1), some (.int x2), some (.int r1), some (.int x4)], [.int (48 + x4), .int r1, .ref 70], M1)) (P := []) rfl mz_o0 ?_
    obtain ⟨r3, M3, k3, h⟩ := h
    refine mz_Go.callV (As := [.int r1, .int (48 + x4)]) (rest := []) (rfl : mz_find 63 (mz_rows mq_X8_signOf) = some (63, .invokevirtual 40, 3, 62, 0, 57)) (rfl : mz_nth mq_tab 62 = some mq_X8_puts) rfl rfl rfl rfl (Nat.le_of_ble_eq_true rfl) (Nat.le_of_ble_eq_true rfl) k3 ?_
    show mq_G mq_X8_signOf (66, [some (.ref 70), some (.int x1), some (.int x2), some (.int r1), some (.int x4)], [.int r3], M3) res
    refine mz_Go.steps (n := 1) (k2 := (67, [some (.ref 70), some (.int x1), some (.int x2), some (.int r3), some (.int x4)], [], M3)) (P := []) rfl mz_o0 ?_
    exact h
set_option maxRecDepth 100000 in
set_option maxHeartbeats 4000000 in
theorem t_X8_signOf_67 (x1 : Int32) (x2 : Int32) (x3 : Int32) (x4 : Int32) (M : mz_M) {res : mz_O} (h :
    mq_G mq_X8_signOf (6, [some (.ref 70), some (.int x1), some (.int x2), some (.int x3), some (.int (x4 + (-1)))], [], M) res) :
    mq_G mq_X8_signOf (67, [some (.ref 70), some (.int x1), some (.int x2), some (.int x3), some (.int x4)], [], M) res := by
  refine mz_Go.steps (n := 2) (k2 := (6, [some (.ref 70), some (.int x1), some (.int x2), some (.int x3), some (.int (x4 + (-1)))], [], M)) (P := []) rfl mz_o0 ?_
  exact h
set_option maxRecDepth 100000 in
set_option maxHeartbeats 4000000 in
theorem t_X8_signOf_98 (o0 : Option Value) (o1 : Option Value) (o2 : Option Value) (o3 : Option Value) (o4 : Option Value) (M : mz_M) {res : mz_O} (h :
    mq_G mq_X8_signOf (99, [o0, o1, o2, o3, o4], [.int (-1)], M) res) :
    mq_G mq_X8_signOf (98, [o0, o1, o2, o3, o4], [], M) res := by
  refine mz_Go.steps (n := 1) (k2 := (99, [o0, o1, o2, o3, o4], [.int (-1)], M)) (P := []) rfl mz_o0 ?_
  exact h
set_option maxRecDepth 100000 in
set_option maxHeartbeats 4000000 in
theorem t_X8_signOf_99 (o0 : Option Value) (o1 : Option Value) (o2 : Option Value) (o3 : Option Value) (o4 : Option Value) (s0 : Int32) (M : mz_M) {res : mz_O} (h :
    res = (some (.int s0), M)) :
    mq_G mq_X8_signOf (99, [o0, o1, o2, o3, o4], [.int s0], M) res := by
  rw [h]
  exact mz_Go.iret (rfl : mz_find 99 (mz_rows mq_X8_signOf) = some (99, .ireturn, 1, 0, 0, 0)) rfl
set_option maxRecDepth 100000 in
set_option maxHeartbeats 4000000 in
theorem t_X8_puts_0 (x1 : Int32) (x2 : Int32) (M : mz_M) {res : mz_O} (h :
    ((x1 < 0 →
      res = (some (.int x1), M)) ∧
    (¬ (x1 < 0) →
      ((x1 < (Int32.ofNat 32) →
        (vp_in x1 32) ∧
        (∀ M3 : mz_M, M3 = mz_wr M 72 (upd (M.1 72) x1.toNatClampNeg x2) →
        res = (some (.int (x1 + 1)), M3))) ∧
      (¬ (x1 < (Int32.ofNat 32)) →
        res = (some (.int x1), M)))))) :
    mq_G mq_X8_puts (0, [some (.ref 70), some (.int x1), some (.int x2)], [], M) res := by
  refine mz_Go.steps (n := 2) (k2 := (if x1 < 0 then 13 else 4, [some (.ref 70), some (.int x1), some (.int x2)], [], M)) (P := []) rfl mz_o0 ?_
  refine mz_Go.ite (fun c1 => ?_) (fun c1 => ?_)
  · replace h := h.1 c1
    refine mz_Go.steps (n := 1) (k2 := (14, [some (.ref 70), some (.int x1), some (.int x2)], [.int x1], M)) (P := []) rfl mz_o0 ?_
    rw [h]
    exact mz_Go.iret (rfl : mz_find 14 (mz_rows mq_X8_puts) = some (14, .ireturn, 1, 0, 0, 0)) rfl
  · replace h := h.2 c1
    refine mz_Go.steps (n := 5) (k2 := (if x1 < (Int32.ofNat 32) then 15 else 13, [some (.ref 70), some (.int x1), some (.int x2)], [], M)) (P := []) rfl mz_o0 ?_
    refine mz_Go.ite (fun c10 => ?_) (fun c10 => ?_)
    · replace h := h.1 c10
      obtain ⟨q4, h⟩ := h
      obtain ⟨M3, e3⟩ : ∃ y, y = mz_wr M 72 (upd (M.1 72) x1.toNatClampNeg x2) := ⟨_, rfl⟩
      replace h := h M3 e3
      refine mz_Go.steps (n := 5) (k2 := (22, [some (.ref 70), some (.int x1), some (.int x2)], [], (mz_wr M 72 (upd (M.1 72) x1.toNatClampNeg x2)))) (P := [vp_in x1 32]) rfl (mz_o1 q4) ?_
      rw [← e3]
      refine mz_Go.steps (n := 3) (k2 := (25, [some (.ref 70), some (.int x1), some (.int x2)], [.int (x1 + 1)], M3)) (P := []) rfl mz_o0 ?_
      rw [h]
      exact mz_Go.iret (rfl : mz_find 25 (mz_rows mq_X8_puts) = some (25, .ireturn, 1, 0, 0, 0)) rfl
    · replace h := h.2 c10
      refine mz_Go.steps (n := 1) (k2 := (14, [some (.ref 70), some (.int x1), some (.int x2)], [.int x1], M)) (P := []) rfl mz_o0 ?_
      rw [h]
      exact mz_Go.iret (rfl : mz_find 14 (mz_rows mq_X8_puts) = some (14, .ireturn, 1, 0, 0, 0)) rfl
set_option maxRecDepth 100000 in
set_option maxHeartbeats 4000000 in
theorem t_X9_sign_0 (x1 : Int32) (M : mz_M) {res : mz_O} (h :
    (∃ (r1 : Int32) (M1 : mz_M), (mq_C mq_X8_takes [.ref 70, .int x1] M (some (.int r1), M1)) ∧
    ((r1 = 0 →
      res = (some (.int (-1)), M1)) ∧
    (¬ (r1 = 0) →
      res = (some (.int (M1.1 70 2)), M1))))) :
    mq_G mq_X9_sign (0, [some (.ref 0), some (.int x1)], [], M) res := by
  refine mz_Go.steps (n := 3) (k2 := (5, [some (.ref 0), some (.int x1)], [.int x1, .ref 70], M)) (P := []) rfl mz_o0 ?_
  obtain ⟨r1, M1, k1, h⟩ := h
  refine mz_Go.callV (As := [.int x1]) (rest := []) (rfl : mz_find 5 (mz_rows mq_X9_sign) = some (5, .invokevirtual 73, 3, 52, 0, 60)) (rfl : mz_nth mq_tab 52 = some mq_X8_takes) rfl rfl rfl rfl (Nat.le_of_ble_eq_true rfl) (Nat.le_of_ble_eq_true rfl) k1 ?_
  show mq_G mq_X9_sign (8, [some (.ref 0), some (.int x1)], [.int r1], M1) res
  refine mz_Go.steps (n := 1) (k2 := (if r1 = 0 then 21 else 11, [some (.ref 0), some (.int x1)], [], M1)) (P := []) rfl mz_o0 ?_
  refine mz_Go.ite (fun c8 => ?_) (fun c8 => ?_)
  · replace h := h.1 c8
    refine mz_Go.steps (n := 1) (k2 := (22, [some (.ref 0), some (.int x1)], [.int (-1)], M1)) (P := []) rfl mz_o0 ?_
    rw [h]
    exact mz_Go.iret (rfl : mz_find 22 (mz_rows mq_X9_sign) = some (22, .ireturn, 1, 0, 0, 0)) rfl
  · replace h := h.2 c8
    refine mz_Go.steps (n := 4) (k2 := (22, [some (.ref 0), some (.int x1)], [.int (M1.1 70 2)], M1)) (P := []) rfl mz_o0 ?_
    rw [h]
    exact mz_Go.iret (rfl : mz_find 22 (mz_rows mq_X9_sign) = some (22, .ireturn, 1, 0, 0, 0)) rfl
