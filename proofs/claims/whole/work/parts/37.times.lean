/-! runs: products -/
theorem zbit_t {n k : Nat} (h : n / 2 ^ k % 2 = 1) : n.testBit k = true := by rw [Nat.testBit_eq_decide_div_mod_eq, h]; rfl
theorem zbit_f {n k : Nat} (h : ¬ n / 2 ^ k % 2 = 1) : n.testBit k = false := by rw [Nat.testBit_eq_decide_div_mod_eq]; simpa using h
theorem zlt_bit {n d : Nat} (h : n < 2 ^ (d + 1)) (hb : n.testBit d = false) : n < 2 ^ d :=
  Nat.lt_pow_two_of_testBit _ fun i hi => by
    by_cases e : i = d
    · rw [e]; exact hb
    · exact Nat.testBit_lt_two_pow (Nat.lt_of_lt_of_le h (Nat.pow_le_pow_right (by decide) (by omega)))
theorem zsub_bit {n d P k : Nat} (h1 : 2 ^ d ≤ P) (h2 : P < 2 ^ (d + 1)) (h : n < 2 ^ (d + k + 1)) (hb : n.testBit (d + k) = true) : n ^^^ (P <<< k) < 2 ^ (d + k) := by
  have hs : (P <<< k).testBit (d + k) = true := by
    rw [Nat.testBit_shiftLeft]
    simp
    exact Nat.testBit_of_two_pow_le_and_two_pow_add_one_gt h1 h2
  have hs2 : P <<< k < 2 ^ (d + k + 1) := by
    rw [Nat.shiftLeft_eq, show d + k + 1 = (d + 1) + k by omega, Nat.pow_add 2 (d + 1) k]
    exact Nat.mul_lt_mul_of_pos_right h2 (Nat.two_pow_pos k)
  apply zlt_bit (Nat.xor_lt_two_pow h hs2)
  rw [Nat.testBit_xor, hb, hs]
  rfl
theorem s_X10_modulo_13 (M : mz_M) {P d : Nat} (hd : d ≤ 15) (h1 : 2 ^ d ≤ P) (hP : P < 2 ^ (d + 1)) (o : Option Value) : ∀ (n r : Nat), n ≤ 15 → r < 2 ^ (d + n) → mq_G mq_X10_modulo (13, [o, some (.int (nI P)), some (.int (nI r)), some (.int (nI d)), some (.int (zdeg (nI r)))], [], M) (some (.int (nI (zmd P d n r))), M)
  | 0, r, hn, hr => by
    refine t_X10_modulo_13 _ _ _ _ _ _ ⟨fun _ => rfl, fun c => absurd ?_ c⟩
    by_cases hz : r = 0
    · subst hz
      exact Int32.lt_of_lt_of_le (by decide +kernel) (nI_pos' (by omega))
    · have hr31 : r < 2 ^ 31 := Nat.lt_of_lt_of_le hr (Nat.pow_le_pow_right (by decide) (by omega))
      rw [zdeg_pos (by omega) hr31]
      have h3 := zb_le.mpr hr
      have h4 : 1 ≤ zb r := by unfold zb; split <;> omega
      rw [zn_lt (by omega) (by omega)]
      omega
  | n + 1, r, hn, hr => by
    have ih := s_X10_modulo_13 M hd h1 hP o n
    by_cases hb : r.testBit (d + n) = true
    · have hge : 2 ^ (d + n) ≤ r := Nat.ge_two_pow_of_testBit hb
      have hdeg : zdeg (nI r) = nI (d + n) := zdeg_of hge hr (by omega)
      have hsh : P * 2 ^ n < 2 ^ 31 := by
        have h5 : P * 2 ^ n < 2 ^ (d + 1) * 2 ^ n := Nat.mul_lt_mul_of_pos_right hP (Nat.two_pow_pos n)
        rw [← Nat.pow_add] at h5
        exact Nat.lt_of_lt_of_le h5 (Nat.pow_le_pow_right (by decide) (by omega))
      simp only [zmd, hb, if_true]
      refine t_X10_modulo_13 _ _ _ _ _ _ ⟨fun c => ?_, fun _ => ⟨_, s_X10_degree M _, ?_⟩⟩
      · rw [hdeg, zn_lt (by omega) (by omega)] at c
        omega
      · rw [hdeg, zn_sub (by omega), show d + n - d = n by omega, zn_shl (by omega) (by omega), zn_xor, ← Nat.shiftLeft_eq]
        exact ih _ (by omega) (zsub_bit h1 hP (by rw [Nat.add_assoc]; exact hr) hb)
    · have hb2 : r.testBit (d + n) = false := by simpa using hb
      simp only [zmd, hb2]
      exact ih r (by omega) (zlt_bit (by rw [Nat.add_assoc]; exact hr) hb2)
theorem s_X10_modulo (M : mz_M) {P d : Nat} (hd : d ≤ 15) (h1 : 2 ^ d ≤ P) (hP : P < 2 ^ (d + 1)) {r n : Nat} (hr : r < 2 ^ (d + n)) (hn : n ≤ 15) : mq_C mq_X10_modulo [.int (nI r), .int (nI P)] M (some (.int (nI (zmd P d n r))), M) := by
  refine t_X10_modulo_0 _ _ _ ⟨_, s_X10_degree M _, _, s_X10_degree M _, ?_⟩
  rw [zdeg_of h1 hP (by omega)]
  exact s_X10_modulo_13 M hd h1 hP _ n r hn hr
theorem zmul_step {a b k : Nat} (ha : a < 2 ^ 8) (hk : k < 16) (hb : b < 2 ^ 31) : nI (zmul a b k) ^^^ (nI a <<< (nI k &&& 31)) = nI (zmul a b k ^^^ a <<< k) := by
  have h2 : a * 2 ^ k < 2 ^ 24 := by
    have h3 : a * 2 ^ k < 2 ^ 8 * 2 ^ k := Nat.mul_lt_mul_of_pos_right ha (Nat.two_pow_pos k)
    rw [← Nat.pow_add] at h3
    exact Nat.lt_of_lt_of_le h3 (Nat.pow_le_pow_right (by decide) (by omega))
  rw [zn_shl (by omega) (by omega), zn_xor, ← Nat.shiftLeft_eq]
theorem s_X10_timesPoly_4 (M : mz_M) {a b : Nat} (ha : a < 2 ^ 8) (hb : b < 2 ^ 31) : ∀ (n k : Nat), k + n = 16 → mq_G mq_X10_timesPoly (4, [some (.int (nI a)), some (.int (nI b)), some (.int (nI (zmul a b k))), some (.int (nI k))], [], M) (some (.int (nI (zmul a b 16))), M)
  | 0, k, hk => by
    obtain rfl : k = 16 := by omega
    exact t_X10_timesPoly_4 _ _ _ _ _ ⟨fun _ => rfl, fun c => absurd (by decide +kernel) c⟩
  | n + 1, k, hk => by
    have ih := s_X10_timesPoly_4 M ha hb n (k + 1) (by omega)
    refine t_X10_timesPoly_4 _ _ _ _ _ ⟨fun c => ?_, fun _ => ⟨fun c => ?_, fun c => ?_⟩⟩
    · rw [show (16 : Int32) = nI 16 from rfl, zn_le (by decide) (by omega)] at c
      omega
    · rw [zn_bit1 hb (by omega)] at c
      have e := zbit_f c
      have e2 : zmul a b (k + 1) = zmul a b k := by simp [zmul, e]
      rw [e2] at ih
      rw [show nI (zmul a b k) ^^^ 0 = nI (zmul a b k) by rw [show (0 : Int32) = nI 0 from rfl, zn_xor, Nat.xor_zero], nI_1]
      exact ih
    · rw [zn_bit1 hb (by omega)] at c
      have e := zbit_t (Decidable.not_not.mp c)
      have e2 : zmul a b (k + 1) = zmul a b k ^^^ a <<< k := by simp [zmul, e]
      rw [e2] at ih
      rw [zmul_step ha (by omega) hb, nI_1]
      exact ih
theorem s_X10_timesPoly (M : mz_M) {a b : Nat} (ha : a < 2 ^ 8) (hb : b < 2 ^ 8) : mq_C mq_X10_timesPoly [.int (nI a), .int (nI b)] M (some (.int (nI (zmul a b 8))), M) := by
  have h := s_X10_timesPoly_4 M ha (b := b) (Nat.lt_of_lt_of_le hb (by decide)) 16 0 rfl
  rw [show zmul a b 16 = zmul a b 8 from zmul_more hb 8] at h
  exact t_X10_timesPoly_0 _ _ _ h
theorem s_X10_times (M : mz_M) {P m a b : Nat} (hg : fgood P m) (hM : M.1 78 0 = nI P) (ha : a < 2 ^ m) (hb : b < 2 ^ m) : mq_C mq_X10_times [.ref 77, .int (nI a), .int (nI b)] M (some (.int (nI (fm P m a b))), M) := by
  obtain ⟨h1, h2, h3, h4, -⟩ := fgood_iff hg
  refine t_X10_times_0 _ _ _ ⟨_, s_X10_timesPoly M (z256 h2 ha) (z256 h2 hb), zn_in (a := 0) (by decide) (by decide), _, ?_, rfl⟩
  show mq_C mq_X10_modulo [.int (nI (zmul a b 8)), .int (M.1 78 0)] M _
  rw [hM]
  exact s_X10_modulo M (by omega) h3 h4 (zmul_lt b ha 8) (by decide)
theorem s_X0_multiplied_5 (M : mz_M) {P m a b : Nat} (hg : fgood P m) (hM : M.1 2 0 = nI P) (ha : a < 2 ^ m) (hb : b < 2 ^ m) : ∀ (n k : Nat), k + n = 8 → mq_G mq_X0_multiplied (5, [some (.ref 2), some (.int (nI a)), some (.int (nI b)), some (.int (nI (zmul a b k))), some (.int (nI k))], [], M) (some (.int (nI (fm P m a b))), M)
  | 0, k, hk => by
    obtain rfl : k = 8 := by omega
    obtain ⟨h1, h2, h3, h4, -⟩ := fgood_iff hg
    refine t_X0_multiplied_5 _ _ _ _ _ ⟨fun _ => ⟨_, ?_, rfl⟩, fun c => absurd (by decide +kernel) c⟩
    rw [hM]
    exact s_X4_remainder M (by omega) h3 h4 (zmul_lt b ha 8) (by decide)
  | n + 1, k, hk => by
    have h2 := (fgood_iff hg).2.1
    have hb31 : b < 2 ^ 31 := Nat.lt_of_lt_of_le (z256 h2 hb) (by decide)
    have ih := s_X0_multiplied_5 M hg hM ha hb n (k + 1) (by omega)
    refine t_X0_multiplied_5 _ _ _ _ _ ⟨fun c => ?_, fun _ => ⟨fun c => ?_, fun c => ?_⟩⟩
    · rw [show (8 : Int32) = nI 8 from rfl, zn_le (by decide) (by omega)] at c
      omega
    · rw [zn_bit0 hb31 (by omega)] at c
      have e := zbit_f (n := b) (k := k) (by omega)
      have e2 : zmul a b (k + 1) = zmul a b k := by simp [zmul, e]
      rw [e2] at ih
      rw [nI_1]
      exact ih
    · rw [zn_bit0 hb31 (by omega)] at c
      have e := zbit_t (n := b) (k := k) (by omega)
      have e2 : zmul a b (k + 1) = zmul a b k ^^^ a <<< k := by simp [zmul, e]
      rw [e2] at ih
      rw [zmul_step (z256 h2 ha) (by omega) hb31, nI_1]
      exact ih
theorem s_X0_multiplied (M : mz_M) {P m a b : Nat} (hg : fgood P m) (hM : M.1 2 0 = nI P) (ha : a < 2 ^ m) (hb : b < 2 ^ m) : mq_C mq_X0_multiplied [.ref 2, .int (nI a), .int (nI b)] M (some (.int (nI (fm P m a b))), M) :=
  t_X0_multiplied_0 _ _ _ (s_X0_multiplied_5 M hg hM ha hb 8 0 rfl)
