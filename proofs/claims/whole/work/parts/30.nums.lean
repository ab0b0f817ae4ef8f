/-! numbers: ints that are nI of small ones -/
theorem zn_tn {n : Nat} (h : n < 2 ^ 32) : (nI n).toBitVec.toNat = n := pk_tn h
theorem zn_inj {x y : Int32} (h : x.toBitVec.toNat = y.toBitVec.toNat) : x = y := Int32.toBitVec_inj.mp (BitVec.eq_of_toNat_eq h)
theorem zn_mod (n : Nat) : nI n = nI (n % 2 ^ 32) := zn_inj (by simp [nI])
theorem zn_c31 : ∀ k, k < 32 → ((nI k &&& 31).toBitVec.smod 32).toNat = k := by decide +kernel
theorem zn_shr {n k : Nat} (hn : n < 2 ^ 31) (hk : k < 32) : nI n >>> (nI k &&& 31) = nI (n / 2 ^ k) := pk_shrN hn _ k (zn_c31 k hk)
theorem zn_shl {n k : Nat} (hk : k < 32) (h : n * 2 ^ k < 2 ^ 32) : nI n <<< (nI k &&& 31) = nI (n * 2 ^ k) := pk_shlN _ k (zn_c31 k hk) h
theorem zn_xor (a b : Nat) : nI a ^^^ nI b = nI (a ^^^ b) := by
  apply zn_inj
  simp [nI, Nat.xor_mod_two_pow]
theorem zn_and (a b : Nat) : nI a &&& nI b = nI (a &&& b) := by
  apply zn_inj
  simp [nI, Nat.and_mod_two_pow]
theorem zn_or (a b : Nat) : nI a ||| nI b = nI (a ||| b) := by
  apply zn_inj
  simp [nI, Nat.or_mod_two_pow]
theorem zn_and1 (n : Nat) : nI n &&& 1 = nI (n % 2) := by
  show nI n &&& nI 1 = _
  rw [zn_and, Nat.and_one_is_mod]
theorem zn_bit {n k : Nat} (hn : n < 2 ^ 31) (hk : k < 32) : ((nI n >>> (nI k &&& 31)) &&& 1) = nI (n / 2 ^ k % 2) := by rw [zn_shr hn hk, zn_and1]
theorem zn_bit0 {n k : Nat} (hn : n < 2 ^ 31) (hk : k < 32) : ((nI n >>> (nI k &&& 31)) &&& 1) = 0 ↔ n / 2 ^ k % 2 = 0 := by
  rw [zn_bit hn hk]
  exact nI_eq (b := 0) (by omega) (by decide)
theorem zn_bit1 {n k : Nat} (hn : n < 2 ^ 31) (hk : k < 32) : ((nI n >>> (nI k &&& 31)) &&& 1) = 1 ↔ n / 2 ^ k % 2 = 1 := by
  rw [zn_bit hn hk]
  exact nI_eq (b := 1) (by omega) (by decide)
theorem zn_le {a b : Nat} (ha : a < 2 ^ 31) (hb : b < 2 ^ 31) : nI a ≤ nI b ↔ a ≤ b := nI_leI ha hb
theorem zn_lt {a b : Nat} (ha : a < 2 ^ 31) (hb : b < 2 ^ 31) : nI a < nI b ↔ a < b := nI_ltI ha hb
theorem zn_eq {a b : Nat} (ha : a < 2 ^ 31) (hb : b < 2 ^ 31) : nI a = nI b ↔ a = b := nI_eq ha hb
theorem zn_le0 {a : Nat} (ha : a < 2 ^ 31) : nI a ≤ 0 ↔ a = 0 := by
  rw [show (0 : Int32) = nI 0 from rfl, zn_le ha (by decide)]
  omega
theorem zn_ge0 {a : Nat} (ha : a < 2 ^ 31) : (0 : Int32) ≤ nI a := nI_pos' ha
theorem zn_m1 (n : Nat) : nI (n + 1) + (-1) = nI n := pk_m1 n
theorem zn_in {a n : Nat} (h : a < n) (hn : n < 2 ^ 31) : vp_in (nI a) n := vp_in_nI h hn
theorem zn_sub {a b : Nat} (h : b ≤ a) : nI a - nI b = nI (a - b) := pk_sub h
theorem zn_cl {n : Nat} (h : n < 2 ^ 31) : (nI n).toNatClampNeg = n := nI_clamp h
/-- an int is small and not below 0, or it is below 0 -/
theorem zn_of {x : Int32} (h : 0 ≤ x) : ∃ n, n < 2 ^ 31 ∧ x = nI n := nI_of (x := x) (by
  rw [Int32.not_lt]; exact h)
/-! how many bits -/
def zb (n : Nat) : Nat := if n = 0 then 0 else n.log2 + 1
theorem zb_0 : zb 0 = 0 := rfl
theorem zb_le {n k : Nat} : zb n ≤ k ↔ n < 2 ^ k := by
  unfold zb
  by_cases h : n = 0
  · subst h; simp; exact Nat.two_pow_pos k
  · rw [if_neg h, Nat.succ_le_iff]
    exact Nat.log2_lt h
theorem zb_half {n : Nat} (h : 0 < n) : zb (n / 2) + 1 = zb n := by
  apply Nat.le_antisymm
  · have h1 : ¬ zb n ≤ zb (n / 2) := by
      intro q
      have h2 := zb_le.mp q
      have h3 : n / 2 < 2 ^ (zb (n / 2)) := zb_le.mp (Nat.le_refl _)
      by_cases hz : n / 2 = 0
      · rw [hz, zb_0] at h2
        omega
      · have h4 : zb (n / 2) = (n / 2).log2 + 1 := by unfold zb; rw [if_neg hz]
        have h5 : 2 ^ (n / 2).log2 ≤ n / 2 := Nat.log2_self_le hz
        rw [h4, Nat.pow_succ] at h2
        omega
    omega
  · apply zb_le.mpr
    have h3 : n / 2 < 2 ^ (zb (n / 2)) := zb_le.mp (Nat.le_refl _)
    rw [Nat.pow_succ]
    omega
/-! degreeOf, degree -/
theorem s_X4_degreeOf_4 (M : mz_M) {n : Nat} (hn : n < 2 ^ 31) : ∀ (f k : Nat), k + f = 31 → k ≤ zb n → mq_G mq_X4_degreeOf (4, [some (.int (nI n)), some (.int (-1 + nI k)), some (.int (nI k))], [], M) (some (.int (-1 + nI (zb n))), M)
  | 0, k, hk, hz => by
    have h31 : zb n ≤ 31 := zb_le.mpr hn
    have e : zb n = 31 := by omega
    obtain rfl : k = 31 := by omega
    rw [e]
    exact t_X4_degreeOf_4 _ _ _ _ ⟨fun _ => rfl, fun c => absurd (by decide) c⟩
  | f + 1, k, hk, hz => by
    have h0 := Nat.div_eq_zero_iff_lt (Nat.two_pow_pos k) (x := n)
    have hd : n / 2 ^ k < 2 ^ 31 := Nat.lt_of_le_of_lt (Nat.div_le_self _ _) hn
    refine t_X4_degreeOf_4 _ _ _ _ ⟨fun c => ?_, fun _ => ?_⟩
    · rw [show (31 : Int32) = nI 31 from rfl, zn_le (by decide) (by omega)] at c
      omega
    · rw [zn_shr hn (by omega), zn_le0 hd, h0, ← zb_le]
      refine ⟨fun c => ?_, fun c => ?_⟩
      · rw [show zb n = k by omega]
      · have ih := s_X4_degreeOf_4 M hn f (k + 1) (by omega) (by omega)
        rw [Int32.add_comm (-1) (nI (k + 1)), zn_m1] at ih
        rw [nI_1]
        exact ih
def zdeg (x : Int32) : Int32 := if x ≤ 0 then -1 else -1 + nI (zb x.toNatClampNeg)
theorem s_X4_degreeOf (M : mz_M) (x : Int32) : mq_C mq_X4_degreeOf [.int x] M (some (.int (zdeg x)), M) := by
  refine t_X4_degreeOf_0 _ _ ?_
  unfold zdeg
  by_cases h : x ≤ 0
  · rw [if_pos h]
    have e : x >>> ((0 : Int32) &&& 31) = x := by
      rw [show (0 : Int32) &&& 31 = 0 by decide]
      simp
    exact t_X4_degreeOf_4 _ _ _ _ ⟨fun _ => rfl, fun _ => ⟨fun _ => rfl, fun c => absurd (by rw [e]; exact h) c⟩⟩
  · rw [if_neg h]
    obtain ⟨n, hn, rfl⟩ := zn_of (Int32.le_of_lt (Int32.not_le.mp h))
    rw [zn_cl hn]
    exact s_X4_degreeOf_4 M hn 31 0 rfl (Nat.zero_le _)
