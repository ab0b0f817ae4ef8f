/-! polynomials over two elements, as numbers -/
def zmul (a b : Nat) : Nat → Nat
  | 0 => 0
  | n + 1 => zmul a b n ^^^ (if b.testBit n = true then a <<< n else 0)
def zmd (P d : Nat) : Nat → Nat → Nat
  | 0, r => r
  | n + 1, r => zmd P d n (if r.testBit (d + n) = true then r ^^^ (P <<< n) else r)
theorem zx4 (a b c d : Nat) : (a ^^^ b) ^^^ (c ^^^ d) = (a ^^^ c) ^^^ (b ^^^ d) := by ac_rfl
theorem zmul_xr (a b c : Nat) : ∀ n, zmul a (b ^^^ c) n = zmul a b n ^^^ zmul a c n
  | 0 => by simp [zmul]
  | n + 1 => by
    simp only [zmul, zmul_xr a b c n, Nat.testBit_xor]
    rw [zx4]
    congr 1
    cases b.testBit n <;> cases c.testBit n <;> simp
theorem zmul_xl (a b c : Nat) : ∀ n, zmul (a ^^^ b) c n = zmul a c n ^^^ zmul b c n
  | 0 => by simp [zmul]
  | n + 1 => by
    simp only [zmul, zmul_xl a b c n]
    rw [zx4]
    congr 1
    cases c.testBit n <;> simp [Nat.shiftLeft_xor_distrib]
theorem zmd_x (P d : Nat) : ∀ (n a b : Nat), zmd P d n (a ^^^ b) = zmd P d n a ^^^ zmd P d n b
  | 0, a, b => rfl
  | n + 1, a, b => by
    simp only [zmd, ← zmd_x P d n]
    congr 1
    rw [Nat.testBit_xor]
    cases a.testBit (d + n) <;> cases b.testBit (d + n) <;> simp
    · ac_rfl
    · ac_rfl
    · rw [zx4, Nat.xor_self, Nat.xor_zero]
theorem zmd_lt {P d : Nat} (h1 : 2 ^ d ≤ P) (h2 : P < 2 ^ (d + 1)) : ∀ (n r : Nat), r < 2 ^ (d + n) → zmd P d n r < 2 ^ d
  | 0, r, h => h
  | n + 1, r, h => by
    refine zmd_lt h1 h2 n _ ?_
    have hb : (P <<< n).testBit (d + n) = true := by
      rw [Nat.testBit_shiftLeft]
      simp
      exact Nat.testBit_of_two_pow_le_and_two_pow_add_one_gt h1 h2
    have hs : P <<< n < 2 ^ (d + (n + 1)) := by
      rw [Nat.shiftLeft_eq, show d + (n + 1) = (d + 1) + n by omega, Nat.pow_add 2 (d + 1) n]
      exact Nat.mul_lt_mul_of_pos_right h2 (Nat.two_pow_pos n)
    split
    · next hr =>
      apply Nat.lt_pow_two_of_testBit
      intro i hi
      rw [Nat.testBit_xor]
      by_cases e : i = d + n
      · rw [e, hr, hb]; rfl
      · have hi2 : 2 ^ (d + (n + 1)) ≤ 2 ^ i := Nat.pow_le_pow_right (by decide) (by omega)
        rw [Nat.testBit_lt_two_pow (Nat.lt_of_lt_of_le h hi2), Nat.testBit_lt_two_pow (Nat.lt_of_lt_of_le hs hi2)]
        rfl
    · next hr =>
      apply Nat.lt_pow_two_of_testBit
      intro i hi
      by_cases e : i = d + n
      · rw [e]; simpa using hr
      · exact Nat.testBit_lt_two_pow (Nat.lt_of_lt_of_le h (Nat.pow_le_pow_right (by decide) (by omega)))
theorem zmd_id {P d : Nat} : ∀ (n r : Nat), r < 2 ^ d → zmd P d n r = r
  | 0, r, h => rfl
  | n + 1, r, h => by
    have e : r.testBit (d + n) = false := Nat.testBit_lt_two_pow (Nat.lt_of_lt_of_le h (Nat.pow_le_pow_right (by decide) (by omega)))
    simp only [zmd, e]
    exact zmd_id n r h
/-- bits that aren't there need no step -/
theorem zmd_more {P d : Nat} (n : Nat) : ∀ (k r : Nat), r < 2 ^ (d + n) → zmd P d (n + k) r = zmd P d n r
  | 0, r, h => rfl
  | k + 1, r, h => by
    have e : r.testBit (d + (n + k)) = false := Nat.testBit_lt_two_pow (Nat.lt_of_lt_of_le h (Nat.pow_le_pow_right (by decide) (by omega)))
    show zmd P d ((n + k) + 1) r = _
    simp only [zmd, e]
    exact zmd_more n k r h
theorem zmul_lt {a i : Nat} (b : Nat) (h : a < 2 ^ i) : ∀ n, zmul a b n < 2 ^ (i + n)
  | 0 => Nat.two_pow_pos _
  | n + 1 => by
    refine Nat.xor_lt_two_pow (Nat.lt_of_lt_of_le (zmul_lt b h n) (Nat.pow_le_pow_right (by decide) (by omega))) ?_
    split
    · rw [Nat.shiftLeft_eq]
      have h2 : a * 2 ^ n < 2 ^ (i + n) := by
        rw [Nat.pow_add]
        exact Nat.mul_lt_mul_of_pos_right h (Nat.two_pow_pos n)
      exact Nat.lt_of_lt_of_le h2 (Nat.pow_le_pow_right (by decide) (by omega))
    · exact Nat.two_pow_pos _
theorem zmul_more {a b n : Nat} (h : b < 2 ^ n) : ∀ k, zmul a b (n + k) = zmul a b n
  | 0 => rfl
  | k + 1 => by
    have e : b.testBit (n + k) = false := Nat.testBit_lt_two_pow (Nat.lt_of_lt_of_le h (Nat.pow_le_pow_right (by decide) (by omega)))
    show zmul a b ((n + k) + 1) = _
    simp only [zmul, e, zmul_more h k]
    simp
theorem zext0 {f : Nat → Nat} (hf : ∀ a b, f (a ^^^ b) = f a ^^^ f b) : f 0 = 0 := by
  have h := hf 0 0
  rw [Nat.xor_self] at h
  rw [h, Nat.xor_self]
/-- additive maps that agree on 1, 2, 4, .. agree -/
theorem zext {f g : Nat → Nat} (hf : ∀ a b, f (a ^^^ b) = f a ^^^ f b) (hg : ∀ a b, g (a ^^^ b) = g a ^^^ g b) : ∀ {n : Nat}, (∀ i, i < n → f (2 ^ i) = g (2 ^ i)) → ∀ a, a < 2 ^ n → f a = g a
  | 0, _, a, ha => by
    have : a = 0 := by simpa using ha
    rw [this, zext0 hf, zext0 hg]
  | n + 1, h, a, ha => by
    have ih := zext hf hg (n := n) (fun i hi => h i (by omega))
    by_cases hb : a.testBit n = true
    · have h1 : a ^^^ 2 ^ n < 2 ^ n := by
        apply Nat.lt_pow_two_of_testBit
        intro i hi
        rw [Nat.testBit_xor, Nat.testBit_two_pow]
        by_cases e : n = i
        · rw [← e, hb]; simp
        · rw [Nat.testBit_lt_two_pow (Nat.lt_of_lt_of_le ha (Nat.pow_le_pow_right (by decide) (by omega : n + 1 ≤ i)))]
          simp [e]
      have h2 : a = (a ^^^ 2 ^ n) ^^^ 2 ^ n := by rw [Nat.xor_assoc, Nat.xor_self, Nat.xor_zero]
      rw [h2, hf, hg, ih _ h1, h n (by omega)]
    · refine ih a (Nat.lt_pow_two_of_testBit a fun i hi => ?_)
      by_cases e : i = n
      · rw [e]; simpa using hb
      · exact Nat.testBit_lt_two_pow (Nat.lt_of_lt_of_le ha (Nat.pow_le_pow_right (by decide) (by omega)))
/-- the product in the field by P of degree m (2 .. 8) -/
def fm (P m a b : Nat) : Nat := zmd P m 8 (zmul a b 8)
theorem fm_xl (P m a b c : Nat) : fm P m (a ^^^ b) c = fm P m a c ^^^ fm P m b c := by unfold fm; rw [zmul_xl, zmd_x]
theorem fm_xr (P m a b c : Nat) : fm P m a (b ^^^ c) = fm P m a b ^^^ fm P m a c := by unfold fm; rw [zmul_xr, zmd_x]
theorem zmul_comm8 : ∀ a, a < 2 ^ 8 → ∀ b, b < 2 ^ 8 → zmul a b 8 = zmul b a 8 := by
  intro a ha b hb
  refine zext (f := fun a => zmul a b 8) (g := fun a => zmul b a 8) (fun x y => zmul_xl x y b 8) (fun x y => zmul_xr b x y 8) (fun i hi => ?_) a ha
  refine zext (f := fun b => zmul (2 ^ i) b 8) (g := fun b => zmul b (2 ^ i) 8) (fun x y => zmul_xr _ x y 8) (fun x y => zmul_xl x y _ 8) (fun j hj => ?_) b hb
  have h : ∀ i, i < 8 → ∀ j, j < 8 → zmul (2 ^ i) (2 ^ j) 8 = zmul (2 ^ j) (2 ^ i) 8 := by decide +kernel
  exact h i hi j hj
theorem zmul_one8 : ∀ a, a < 2 ^ 8 → zmul 1 a 8 = a := by
  refine zext (f := fun a => zmul 1 a 8) (g := fun a => a) (fun x y => zmul_xr 1 x y 8) (fun _ _ => rfl) ?_
  decide +kernel
theorem zmul_zero (b : Nat) : ∀ n, zmul 0 b n = 0
  | 0 => rfl
  | n + 1 => by simp [zmul, zmul_zero b n]
/-- a field, as far as its products go -/
def fgood (P m : Nat) : Prop := 2 ≤ m ∧ m ≤ 8 ∧ 2 ^ m ≤ P ∧ P < 2 ^ (m + 1) ∧ ∀ i, i < m → ∀ j, j < m → ∀ k, k < m → fm P m (fm P m (2 ^ i) (2 ^ j)) (2 ^ k) = fm P m (2 ^ i) (fm P m (2 ^ j) (2 ^ k))
theorem fgood_iff {P m : Nat} (h : fgood P m) : 2 ≤ m ∧ m ≤ 8 ∧ 2 ^ m ≤ P ∧ P < 2 ^ (m + 1) ∧ ∀ i, i < m → ∀ j, j < m → ∀ k, k < m → fm P m (fm P m (2 ^ i) (2 ^ j)) (2 ^ k) = fm P m (2 ^ i) (fm P m (2 ^ j) (2 ^ k)) := h
theorem z256 {m a : Nat} (hm : m ≤ 8) (h : a < 2 ^ m) : a < 2 ^ 8 := Nat.lt_of_lt_of_le h (Nat.pow_le_pow_right (by decide) hm)
section FG
variable {P m : Nat}
theorem fm_lt (h : fgood P m) {a b : Nat} (ha : a < 2 ^ m) : fm P m a b < 2 ^ m := zmd_lt (fgood_iff h).2.2.1 (fgood_iff h).2.2.2.1 8 _ (zmul_lt b ha 8)
theorem fm_comm (h : fgood P m) {a b : Nat} (ha : a < 2 ^ m) (hb : b < 2 ^ m) : fm P m a b = fm P m b a := by
  unfold fm
  rw [zmul_comm8 a (z256 (fgood_iff h).2.1 ha) b (z256 (fgood_iff h).2.1 hb)]
theorem fm_one (h : fgood P m) {a : Nat} (ha : a < 2 ^ m) : fm P m 1 a = a := by
  unfold fm
  rw [zmul_one8 a (z256 (fgood_iff h).2.1 ha), zmd_id 8 a ha]
theorem f1_lt (h : fgood P m) : 1 < 2 ^ m := Nat.one_lt_two_pow (by have := (fgood_iff h).1; omega)
theorem fm_one_r (h : fgood P m) {a : Nat} (ha : a < 2 ^ m) : fm P m a 1 = a := by rw [fm_comm h ha (f1_lt h), fm_one h ha]
theorem fm_zero (P m b : Nat) : fm P m 0 b = 0 := by
  unfold fm
  rw [zmul_zero, zmd_id 8 0 (Nat.two_pow_pos m)]
theorem fm_zero_r (P m a : Nat) : fm P m a 0 = 0 := zext0 (f := fun b => fm P m a b) (fun x y => fm_xr P m a x y)
theorem fm_assoc (h : fgood P m) {a b c : Nat} (ha : a < 2 ^ m) (hb : b < 2 ^ m) (hc : c < 2 ^ m) : fm P m (fm P m a b) c = fm P m a (fm P m b c) := by
  have hk := (fgood_iff h).2.2.2.2
  refine zext (f := fun a => fm P m (fm P m a b) c) (g := fun a => fm P m a (fm P m b c)) (fun x y => by rw [fm_xl, fm_xl]) (fun x y => by rw [fm_xl]) (fun i hi => ?_) a ha
  refine zext (f := fun b => fm P m (fm P m (2 ^ i) b) c) (g := fun b => fm P m (2 ^ i) (fm P m b c)) (fun x y => by rw [fm_xr, fm_xl]) (fun x y => by rw [fm_xl, fm_xr]) (fun j hj => ?_) b hb
  exact zext (f := fun c => fm P m (fm P m (2 ^ i) (2 ^ j)) c) (g := fun c => fm P m (2 ^ i) (fm P m (2 ^ j) c)) (fun x y => by rw [fm_xr]) (fun x y => by rw [fm_xr, fm_xr]) (fun k hk' => hk i hi j hj k hk') c hc
end FG
