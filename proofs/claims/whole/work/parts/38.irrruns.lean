/-! runs: irreducible or not -/
theorem zlog_lo {n : Nat} (h : n ≠ 0) : 2 ^ n.log2 ≤ n := Nat.log2_self_le h
theorem zlog_hi (n : Nat) : n < 2 ^ (n.log2 + 1) := Nat.lt_log2_self
theorem zlog_deg {n : Nat} (h : n ≠ 0) (h2 : n < 2 ^ 31) : zdeg (nI n) = nI n.log2 := by
  refine zdeg_of (zlog_lo h) (zlog_hi n) ?_
  have := (Nat.log2_lt h).mpr h2
  omega
theorem zlog_1024 {n : Nat} (h : n ≠ 0) (h2 : n < 1024) : n.log2 ≤ 9 := by
  have := (Nat.log2_lt h).mpr (show n < 2 ^ 10 from h2)
  omega
theorem zremk_eq (p f : Nat) : zremk p f = zmd f (Nat.log2 f) 11 p := zmdk_eq _ _ _ _
theorem zremk_lt {p f : Nat} (hf : f ≠ 0) (hf2 : f < 1024) (hp : p < 1024) : zremk p f < 2 ^ 31 := by
  rw [zremk_eq]
  have h := zmd_lt (zlog_lo hf) (zlog_hi f) 11 p (Nat.lt_of_lt_of_le hp (by rw [Nat.pow_add]; exact Nat.le_trans (show 1024 ≤ 1 * 2 ^ 11 by decide) (Nat.mul_le_mul_right _ (Nat.two_pow_pos _))))
  exact Nat.lt_of_lt_of_le h (Nat.pow_le_pow_right (by decide) (by have := zlog_1024 hf hf2; omega))
theorem s_X10_modk (M : mz_M) {p f : Nat} (hf : f ≠ 0) (hf2 : f < 1024) (hp : p < 1024) : mq_C mq_X10_modulo [.int (nI p), .int (nI f)] M (some (.int (nI (zremk p f))), M) := by
  rw [zremk_eq]
  exact s_X10_modulo M (by have := zlog_1024 hf hf2; omega) (zlog_lo hf) (zlog_hi f) (Nat.lt_of_lt_of_le hp (by rw [Nat.pow_add]; exact Nat.le_trans (show 1024 ≤ 1 * 2 ^ 11 by decide) (Nat.mul_le_mul_right _ (Nat.two_pow_pos _)))) (by decide)
theorem s_X4_modk (M : mz_M) {p f : Nat} (hf : f ≠ 0) (hf2 : f < 1024) (hp : p < 1024) : mq_C mq_X4_remainder [.int (nI p), .int (nI f)] M (some (.int (nI (zremk p f))), M) := by
  rw [zremk_eq]
  exact s_X4_remainder M (by have := zlog_1024 hf hf2; omega) (zlog_lo hf) (zlog_hi f) (Nat.lt_of_lt_of_le hp (by rw [Nat.pow_add]; exact Nat.le_trans (show 1024 ≤ 1 * 2 ^ 11 by decide) (Nat.mul_le_mul_right _ (Nat.two_pow_pos _)))) (by decide)
theorem zn_eq0 {n : Nat} (h : n < 2 ^ 31) : nI n = 0 ↔ n = 0 := zn_eq (b := 0) h (by decide)
theorem s_X10_leastFactor_2 (M : mz_M) {p : Nat} (hp : p < 1024) : ∀ (n f : Nat), 2 ≤ f → f ≤ 1024 → p ≤ f + n → mq_G mq_X10_leastFactor (2, [some (.int (nI p)), some (.int (nI f))], [], M) (some (.int (nI (zlf p n f))), M)
  | 0, f, hf, hf2, hn => by
    refine t_X10_leastFactor_2 _ _ _ ⟨fun _ => rfl, fun c => absurd ?_ c⟩
    rw [zn_le (by omega) (by omega)]
    omega
  | n + 1, f, hf, hf2, hn => by
    by_cases hlt : f < p
    · have e : Nat.blt f p = true := by rw [Nat.blt_eq]; exact hlt
      have hr := zremk_lt (p := p) (f := f) (by omega) (by omega) hp
      refine t_X10_leastFactor_2 _ _ _ ⟨fun c => ?_, fun _ => ⟨_, s_X10_modk M (by omega) (by omega) hp, fun c => ?_, fun c => ?_⟩⟩
      · rw [zn_le (by omega) (by omega)] at c
        omega
      · rw [zn_eq0 hr] at c
        have e2 : Nat.beq (zremk p f) 0 = false := by
          cases h : Nat.beq (zremk p f) 0
          · rfl
          · exact absurd (Nat.eq_of_beq_eq_true h) c
        simp only [zlf, e, e2, frc_eq]
        rw [nI_1]
        exact s_X10_leastFactor_2 M hp n (f + 1) (by omega) (by omega) (by omega)
      · rw [zn_eq0 hr] at c
        have c := Decidable.not_not.mp c
        simp only [zlf, e, c]
    · have e : Nat.blt f p = false := by
        cases h : Nat.blt f p
        · rfl
        · rw [Nat.blt_eq] at h; exact absurd h hlt
      simp only [zlf, e]
      refine t_X10_leastFactor_2 _ _ _ ⟨fun _ => rfl, fun c => absurd ?_ c⟩
      rw [zn_le (by omega) (by omega)]
      omega
theorem s_X10_leastFactor (M : mz_M) {p : Nat} (hp : p < 1024) : mq_C mq_X10_leastFactor [.int (nI p)] M (some (.int (nI (zlf p 1024 2))), M) :=
  t_X10_leastFactor_0 _ _ (s_X10_leastFactor_2 M hp 1024 2 (by decide) (by decide) (by omega))
theorem zlf_le (p : Nat) : ∀ (n f : Nat), zlf p n f ≤ p
  | 0, f => Nat.le_refl _
  | n + 1, f => by
    unfold zlf
    split
    · next h =>
      rw [Nat.blt_eq] at h
      split
      · omega
      · rw [frc_eq]; exact zlf_le p n (f + 1)
    · exact Nat.le_refl _
/-- 1 or 0 -/
def zB (b : Bool) : Int32 := if b = true then 1 else 0
theorem s_X10_isIrreducible (M : mz_M) {p : Nat} (hp : p < 1024) : mq_C mq_X10_isIrreducible [.int (nI p)] M (some (.int (zB (zirr p))), M) := by
  have hle := zlf_le p 1024 2
  refine t_X10_isIrreducible_0 _ _ ⟨fun c => ?_, fun c => ⟨_, s_X10_leastFactor M hp, fun c2 => ?_, fun c2 => ?_⟩⟩
  · rw [show (1 : Int32) = nI 1 from rfl, zn_le (by omega) (by decide)] at c
    have e : Nat.blt 1 p = false := by
      cases h : Nat.blt 1 p
      · rfl
      · rw [Nat.blt_eq] at h; omega
    simp [zirr, e, zB]
  · rw [zn_eq (by omega) (by omega)] at c2
    have e : Nat.beq (zlf p 1024 2) p = false := by
      cases h : Nat.beq (zlf p 1024 2) p
      · rfl
      · exact absurd (Nat.eq_of_beq_eq_true h) c2
    simp [zirr, e, zB]
  · rw [zn_eq (by omega) (by omega)] at c2
    rw [show (1 : Int32) = nI 1 from rfl, zn_le (by omega) (by decide)] at c
    have c2 := Decidable.not_not.mp c2
    have e : Nat.blt 1 p = true := by rw [Nat.blt_eq]; omega
    simp [zirr, e, c2, zB]
theorem s_X4_isIrreducible_20 (M : mz_M) {p d : Nat} (hp : p < 1024) (hd : d ≤ 9) : ∀ (n q : Nat), 2 ≤ q → q + n = 34 → mq_G mq_X4_isIrreducible (20, [some (.int (nI p)), some (.int (nI d)), some (.int (nI q))], [], M) (some (.int (zB (zic p d n q))), M)
  | 0, q, hq, hn => by
    refine t_X4_isIrreducible_20 _ _ _ _ ⟨fun _ => rfl, fun c => absurd ?_ c⟩
    rw [show (32 : Int32) = nI 32 from rfl, zn_le (by decide) (by omega)]
    omega
  | n + 1, q, hq, hn => by
    by_cases h32 : q < 32
    · have e1 : Nat.blt q 32 = true := by rw [Nat.blt_eq]; exact h32
      have hl : q.log2 < 5 := (Nat.log2_lt (by omega)).mpr h32
      refine t_X4_isIrreducible_20 _ _ _ _ ⟨fun c => ?_, fun _ => ⟨_, s_X4_degreeOf M _, fun c => ?_, fun c => ?_⟩⟩
      · rw [show (32 : Int32) = nI 32 from rfl, zn_le (by decide) (by omega)] at c
        omega
      · rw [zlog_deg (by omega) (by omega), show (2 : Int32) = nI 2 from rfl, pk_mul, zn_lt (by omega) (by omega)] at c
        have e2 : Nat.ble (2 * q.log2) d = false := by
          cases h : Nat.ble (2 * q.log2) d
          · rfl
          · rw [Nat.ble_eq] at h; omega
        simp [zic, e1, e2, zB]
      · rw [zlog_deg (by omega) (by omega), show (2 : Int32) = nI 2 from rfl, pk_mul, zn_lt (by omega) (by omega)] at c
        have e2 : Nat.ble (2 * q.log2) d = true := by rw [Nat.ble_eq]; omega
        have hr := zremk_lt (p := p) (f := q) (by omega) (by omega) hp
        refine ⟨_, s_X4_modk M (by omega) (by omega) hp, fun c2 => ?_, fun c2 => ?_⟩
        · rw [zn_eq0 hr] at c2
          have e3 : Nat.beq (zremk p q) 0 = false := by
            cases h : Nat.beq (zremk p q) 0
            · rfl
            · exact absurd (Nat.eq_of_beq_eq_true h) c2
          simp only [zic, e1, e2, e3, frc_eq, Bool.and_self]
          rw [nI_1]
          exact s_X4_isIrreducible_20 M hp hd n (q + 1) (by omega) (by omega)
        · rw [zn_eq0 hr] at c2
          have c2 := Decidable.not_not.mp c2
          simp [zic, e1, e2, c2, zB]
    · have e1 : Nat.blt q 32 = false := by
        cases h : Nat.blt q 32
        · rfl
        · rw [Nat.blt_eq] at h; exact absurd h h32
      refine t_X4_isIrreducible_20 _ _ _ _ ⟨fun _ => by simp [zic, e1, zB], fun c => absurd ?_ c⟩
      rw [show (32 : Int32) = nI 32 from rfl, zn_le (by decide) (by omega)]
      omega
theorem s_X4_isIrreducible (M : mz_M) {p : Nat} (h2 : 2 ≤ p) (hp : p < 1024) : mq_C mq_X4_isIrreducible [.int (nI p)] M (some (.int (zB (zirr p))), M) := by
  have hl := zlog_1024 (n := p) (by omega) hp
  have hl1 : ¬ p.log2 < 1 := fun q => by
    have := (Nat.log2_lt (by omega)).mp q
    omega
  rw [← zirc_eq h2 hp]
  refine t_X4_isIrreducible_0 _ _ ⟨_, s_X4_degreeOf M _, fun c => ?_, fun _ => ⟨fun _ => ?_, fun c => ?_⟩⟩
  · rw [zlog_deg (by omega) (by omega), show (1 : Int32) = nI 1 from rfl, zn_lt (by omega) (by decide)] at c
    omega
  · rw [zlog_deg (by omega) (by omega)]
    exact s_X4_isIrreducible_20 M hp hl 32 2 (by decide) (by decide)
  · rw [zlog_deg (by omega) (by omega), show (9 : Int32) = nI 9 from rfl, zn_le (by omega) (by decide)] at c
    omega
