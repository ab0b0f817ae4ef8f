/-! powers and conjugates -/
def cj (P m a : Nat) : Nat → Nat
  | 0 => a
  | k + 1 => fm P m (cj P m a k) (cj P m a k)
section PW
variable {P m : Nat}
theorem fpw_lt (h : fgood P m) {a : Nat} (ha : a < 2 ^ m) : ∀ n, fpw P m a n < 2 ^ m
  | 0 => f1_lt h
  | n + 1 => fm_lt h (fpw_lt h ha n)
theorem fpw_1 (h : fgood P m) {a : Nat} (ha : a < 2 ^ m) : fpw P m a 1 = a := by
  show fm P m 1 a = a
  exact fm_one h ha
theorem fpw_add (h : fgood P m) {a : Nat} (ha : a < 2 ^ m) (i : Nat) : ∀ j, fpw P m a (i + j) = fm P m (fpw P m a i) (fpw P m a j)
  | 0 => (fm_one_r h (fpw_lt h ha i)).symm
  | j + 1 => by
    show fm P m (fpw P m a (i + j)) a = fm P m (fpw P m a i) (fm P m (fpw P m a j) a)
    rw [fpw_add h ha i j, fm_assoc h (fpw_lt h ha i) (fpw_lt h ha j) ha]
theorem fpw_mul (h : fgood P m) {a : Nat} (ha : a < 2 ^ m) (i : Nat) : ∀ j, fpw P m (fpw P m a i) j = fpw P m a (i * j)
  | 0 => rfl
  | j + 1 => by
    show fm P m (fpw P m (fpw P m a i) j) (fpw P m a i) = _
    rw [fpw_mul h ha i j, Nat.mul_succ, fpw_add h ha]
theorem fpw_one (h : fgood P m) : ∀ n, fpw P m 1 n = 1
  | 0 => rfl
  | n + 1 => by
    show fm P m (fpw P m 1 n) 1 = 1
    rw [fpw_one h n, fm_one h (f1_lt h)]
theorem fpw_zero (n : Nat) : fpw P m 0 (n + 1) = 0 := fm_zero_r P m _
theorem fpw_cyc (h : fgood P m) {g : Nat} (hc : fcy P m g) {a : Nat} (h0 : 0 < a) (ha : a < 2 ^ m) : fpw P m a (2 ^ m - 1) = 1 := by
  obtain ⟨h1, h2, h3, h4, h5, h6⟩ := hc
  obtain ⟨k, hk, rfl⟩ := h6 a h0 ha
  rw [fpw_mul h h2, Nat.mul_comm, ← fpw_mul h h2, h3, fpw_one h]
theorem fpw_q (h : fgood P m) {g : Nat} (hc : fcy P m g) {a : Nat} (ha : a < 2 ^ m) : fpw P m a (2 ^ m) = a := by
  have hq := Nat.two_pow_pos m
  obtain ⟨n, hn⟩ : ∃ n, 2 ^ m = n + 1 := ⟨2 ^ m - 1, by omega⟩
  by_cases h0 : a = 0
  · subst h0
    rw [hn, fpw_zero]
  · have h2 := fpw_cyc h hc (by omega) ha
    rw [hn] at h2 ⊢
    show fm P m (fpw P m a n) a = a
    rw [show n + 1 - 1 = n from rfl] at h2
    rw [h2, fm_one h ha]
theorem fpw_pos (h : fgood P m) {g : Nat} (hc : fcy P m g) {a : Nat} (h0 : 0 < a) (ha : a < 2 ^ m) (n : Nat) : 0 < fpw P m a n := by
  apply Nat.pos_of_ne_zero
  intro e
  have h1 := fpw_cyc h hc h0 ha
  have h2 : fpw P m a (n * (2 ^ m - 1)) = 1 := by rw [Nat.mul_comm, ← fpw_mul h ha, h1, fpw_one h]
  have hq := f1_lt h
  obtain ⟨k, hk⟩ : ∃ k, 2 ^ m - 1 = k + 1 := ⟨2 ^ m - 2, by omega⟩
  rw [hk, ← fpw_mul h ha, e, fpw_zero] at h2
  cases h2
theorem cj_lt (h : fgood P m) {a : Nat} (ha : a < 2 ^ m) : ∀ k, cj P m a k < 2 ^ m
  | 0 => ha
  | k + 1 => fm_lt h (cj_lt h ha k)
theorem cj_pw (h : fgood P m) {a : Nat} (ha : a < 2 ^ m) : ∀ k, cj P m a k = fpw P m a (2 ^ k)
  | 0 => (fpw_1 h ha).symm
  | k + 1 => by
    show fm P m (cj P m a k) (cj P m a k) = _
    rw [cj_pw h ha k, ← fpw_add h ha, Nat.pow_succ, Nat.mul_two]
theorem cj_add (P m a i : Nat) : ∀ j, cj P m (cj P m a i) j = cj P m a (i + j)
  | 0 => rfl
  | j + 1 => by
    show fm P m (cj P m (cj P m a i) j) (cj P m (cj P m a i) j) = fm P m (cj P m a (i + j)) (cj P m a (i + j))
    rw [cj_add P m a i j]
theorem cj_m (h : fgood P m) {g : Nat} (hc : fcy P m g) {a : Nat} (ha : a < 2 ^ m) : cj P m a m = a := by rw [cj_pw h ha, fpw_q h hc ha]
theorem fm_sqx (h : fgood P m) {a b : Nat} (ha : a < 2 ^ m) (hb : b < 2 ^ m) : fm P m (a ^^^ b) (a ^^^ b) = fm P m a a ^^^ fm P m b b := by
  rw [fm_xl, fm_xr, fm_xr, fm_comm h hb ha, zx4, Nat.xor_comm (fm P m a b), ← zx4, Nat.xor_self, Nat.xor_zero]
theorem cj_x (h : fgood P m) {a b : Nat} (ha : a < 2 ^ m) (hb : b < 2 ^ m) : ∀ k, cj P m (a ^^^ b) k = cj P m a k ^^^ cj P m b k
  | 0 => rfl
  | k + 1 => by
    show fm P m (cj P m (a ^^^ b) k) (cj P m (a ^^^ b) k) = _
    rw [cj_x h ha hb k, fm_sqx h (cj_lt h ha k) (cj_lt h hb k)]
    rfl
/-- v times by to the power of n, by halves -/
theorem fpw_half (h : fgood P m) {v b : Nat} (hv : v < 2 ^ m) (hb : b < 2 ^ m) (n : Nat) (hn : 0 < n) : fm P m v (fpw P m b n) = fm P m (if n % 2 = 1 then fm P m v b else v) (fpw P m (fm P m b b) (n / 2)) := by
  have e2 : fm P m b b = fpw P m b 2 := by
    show fm P m b b = fm P m (fpw P m b 1) b
    rw [fpw_1 h hb]
  rw [e2, fpw_mul h hb]
  split
  · next hodd =>
    rw [fm_assoc h hv hb (fpw_lt h hb _)]
    congr 1
    rw [show n = 1 + 2 * (n / 2) by omega, fpw_add h hb, fpw_1 h hb, show (1 + 2 * (n / 2)) / 2 = n / 2 by omega]
  · next hev =>
    rw [show 2 * (n / 2) = n by omega]
end PW
