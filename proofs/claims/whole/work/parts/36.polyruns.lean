/-! runs: degrees, remainders, products of polynomials, on both sides -/
theorem s_X10_degree_4 (M : mz_M) : ∀ (n : Nat), n < 2 ^ 31 → ∀ (o : Option Value) (d : Int32), mq_G mq_X10_degree (4, [o, some (.int d), some (.int (nI n))], [], M) (some (.int (d + nI (zb n))), M) := by
  intro n
  induction n using Nat.strongRecOn with
  | _ n ih =>
    intro hn o d
    refine t_X10_degree_4 _ _ _ _ ⟨fun c => ?_, fun c => ?_⟩
    · rw [zn_le0 hn] at c
      subst c
      rw [zb_0, nI_0, Int32.add_zero]
    · rw [zn_le0 hn] at c
      rw [show (1 &&& 31 : Int32) = (nI 1 &&& 31) from rfl, zn_shr hn (by decide), Nat.pow_one]
      have h := ih (n / 2) (by omega) (by omega) (mz_nw o) (d + 1)
      rw [show d + 1 + nI (zb (n / 2)) = d + nI (zb n) by
        rw [Int32.add_assoc, show (1 : Int32) = nI 1 from rfl, nI_add, Nat.add_comm, zb_half (by omega)]] at h
      exact h
theorem s_X10_degree (M : mz_M) (x : Int32) : mq_C mq_X10_degree [.int x] M (some (.int (zdeg x)), M) := by
  refine t_X10_degree_0 _ _ ?_
  unfold zdeg
  by_cases h : x ≤ 0
  · rw [if_pos h]
    exact t_X10_degree_4 _ _ _ _ ⟨fun _ => rfl, fun c => absurd h c⟩
  · rw [if_neg h]
    obtain ⟨n, hn, rfl⟩ := zn_of (Int32.le_of_lt (Int32.not_le.mp h))
    rw [zn_cl hn]
    exact s_X10_degree_4 M n hn _ _
theorem zdeg_pos {n : Nat} (h : 0 < n) (hn : n < 2 ^ 31) : zdeg (nI n) = nI (zb n - 1) := by
  unfold zdeg
  rw [if_neg (by rw [zn_le0 hn]; omega), zn_cl hn]
  have : 1 ≤ zb n := by unfold zb; split <;> omega
  obtain ⟨k, hk⟩ : ∃ k, zb n = k + 1 := ⟨zb n - 1, by omega⟩
  rw [hk, Int32.add_comm, zn_m1]
  rfl
theorem zdeg_0 : zdeg (nI 0) = -1 := rfl
theorem zdeg_of {n d : Nat} (h1 : 2 ^ d ≤ n) (h2 : n < 2 ^ (d + 1)) (hd : d ≤ 30) : zdeg (nI n) = nI d := by
  have h3 : n < 2 ^ 31 := Nat.lt_of_lt_of_le h2 (Nat.pow_le_pow_right (by decide) (by omega))
  have h4 : 0 < n := Nat.lt_of_lt_of_le (Nat.two_pow_pos d) h1
  rw [zdeg_pos h4 h3]
  have h5 : zb n = d + 1 := by
    apply Nat.le_antisymm (zb_le.mpr h2)
    have h6 : ¬ zb n ≤ d := fun q => by have := zb_le.mp q; omega
    omega
  rw [h5]
  rfl
/-- the class's remainder: from bit d + k - 1 down, k steps -/
theorem s_X4_remainder_13 (M : mz_M) {P d : Nat} (hd : d ≤ 15) (hP : P < 2 ^ (d + 1)) (o : Option Value) : ∀ (k r : Nat), d + k ≤ 30 → k ≤ 15 → r < 2 ^ 31 → mq_G mq_X4_remainder (13, [o, some (.int (nI P)), some (.int (nI d)), some (.int (nI r)), some (.int (nI (d + k) + (-1)))], [], M) (some (.int (nI (zmd P d k r))), M)
  | 0, r, hk, hk2, hr => by
    refine t_X4_remainder_13 _ _ _ _ _ _ ⟨fun _ => rfl, fun c => ?_⟩
    refine absurd ?_ c
    cases d with
    | zero => decide +kernel
    | succ d =>
      rw [Nat.add_zero, zn_m1, zn_lt (by omega) (by omega)]
      omega
  | k + 1, r, hk, hk2, hr => by
    have hP31 : P < 2 ^ 16 := Nat.lt_of_lt_of_le hP (Nat.pow_le_pow_right (by decide) (by omega))
    have hdk : d + k < 31 := by omega
    refine t_X4_remainder_13 _ _ _ _ _ _ ⟨fun c => ?_, fun _ => ⟨fun c => ?_, fun _ => ?_⟩⟩
    · rw [← Nat.add_assoc, zn_m1, zn_lt (by omega) (by omega)] at c
      omega
    · exact absurd c (nI_pos (by omega))
    · rw [← Nat.add_assoc, zn_m1]
      have ih := fun r hr => s_X4_remainder_13 M hd hP o k r (by omega) (by omega) hr
      refine ⟨fun c => ?_, fun c => ?_⟩
      · rw [zn_bit0 hr (by omega)] at c
        have e : r.testBit (d + k) = false := by rw [Nat.testBit_eq_decide_div_mod_eq, c]; rfl
        simp only [zmd, e]
        exact ih r hr
      · rw [zn_bit0 hr (by omega)] at c
        have e : r.testBit (d + k) = true := by rw [Nat.testBit_eq_decide_div_mod_eq, decide_eq_true_eq]; omega
        simp only [zmd, e, if_true]
        have hsh : P * 2 ^ k < 2 ^ 31 := by
          have h1 : P * 2 ^ k < 2 ^ (d + 1) * 2 ^ k := Nat.mul_lt_mul_of_pos_right hP (Nat.two_pow_pos k)
          rw [← Nat.pow_add] at h1
          exact Nat.lt_of_lt_of_le h1 (Nat.pow_le_pow_right (by decide) (by omega))
        rw [zn_sub (by omega), show d + k - d = k by omega, zn_shl (by omega) (by omega), zn_xor, ← Nat.shiftLeft_eq]
        refine ih _ (Nat.xor_lt_two_pow hr (by rw [Nat.shiftLeft_eq]; exact hsh))
theorem zb_ge {n k : Nat} (h : 2 ^ k ≤ n) : k + 1 ≤ zb n := by
  have h6 : ¬ zb n ≤ k := fun q => by have := zb_le.mp q; omega
  omega
theorem s_X4_remainder (M : mz_M) {P d : Nat} (hd : d ≤ 15) (h1 : 2 ^ d ≤ P) (hP : P < 2 ^ (d + 1)) {r n : Nat} (hr : r < 2 ^ (d + n)) (hn : n ≤ 15) : mq_C mq_X4_remainder [.int (nI r), .int (nI P)] M (some (.int (nI (zmd P d n r))), M) := by
  have hr31 : r < 2 ^ 31 := Nat.lt_of_lt_of_le hr (Nat.pow_le_pow_right (by decide) (by omega))
  refine t_X4_remainder_0 _ _ _ ⟨_, s_X4_degreeOf M _, _, s_X4_degreeOf M _, ?_⟩
  rw [zdeg_of h1 hP (by omega)]
  by_cases hlow : r < 2 ^ d
  · rw [zmd_id n r hlow]
    refine t_X4_remainder_13 _ _ _ _ _ _ ⟨fun _ => rfl, fun c => ?_⟩
    refine absurd ?_ c
    by_cases hz : r = 0
    · subst hz
      rw [zdeg_0]
      exact Int32.lt_of_lt_of_le (by decide) (nI_pos' (by omega))
    · rw [zdeg_pos (by omega) hr31]
      have := zb_le.mpr hlow
      have h9 : 1 ≤ zb r := by unfold zb; split <;> omega
      rw [zn_lt (by omega) (by omega)]
      omega
  · have hb := zb_ge (Nat.not_lt.mp hlow)
    have hb2 := zb_le.mpr hr
    obtain ⟨k, hk⟩ : ∃ k, zb r = d + (k + 1) := ⟨zb r - d - 1, by omega⟩
    have hlt : r < 2 ^ (d + (k + 1)) := zb_le.mp (by omega)
    have h := s_X4_remainder_13 M hd hP (some (.int (nI r))) (k + 1) r (by omega) (by omega) hr31
    rw [zdeg_pos (by have := Nat.two_pow_pos d; omega) hr31, hk]
    obtain ⟨z, hz⟩ : ∃ z, n = (k + 1) + z := ⟨n - (k + 1), by omega⟩
    rw [hz, zmd_more (k + 1) z r hlt]
    rw [← Nat.add_assoc, zn_m1] at h
    exact h
