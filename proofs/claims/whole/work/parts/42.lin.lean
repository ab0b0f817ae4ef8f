/-! sums of some of a row of numbers: spans, independence, ranks -/
def zcb (v : Nat → Nat) : Nat → Nat → Nat
  | 0, _ => 0
  | n + 1, c => zcb v n c ^^^ (if c.testBit n = true then v n else 0)
def sp (v : Nat → Nat) : Nat → Nat → Prop
  | 0, e => e = 0
  | n + 1, e => sp v n e ∨ sp v n (e ^^^ v n)
theorem zxx (a b : Nat) : (a ^^^ b) ^^^ b = a := by rw [Nat.xor_assoc, Nat.xor_self, Nat.xor_zero]
theorem sp_0 (v : Nat → Nat) : ∀ n, sp v n 0
  | 0 => rfl
  | n + 1 => Or.inl (sp_0 v n)
theorem sp_x {v : Nat → Nat} : ∀ {n a b : Nat}, sp v n a → sp v n b → sp v n (a ^^^ b)
  | 0, a, b, ha, hb => by
    show a ^^^ b = 0
    rw [show a = 0 from ha, show b = 0 from hb, Nat.xor_self]
  | n + 1, a, b, ha, hb => by
    rcases ha with ha | ha <;> rcases hb with hb | hb
    · exact Or.inl (sp_x ha hb)
    · refine Or.inr ?_
      rw [Nat.xor_assoc]
      exact sp_x ha hb
    · refine Or.inr ?_
      rw [show (a ^^^ b) ^^^ v n = (a ^^^ v n) ^^^ b by ac_rfl]
      exact sp_x ha hb
    · refine Or.inl ?_
      have h := sp_x ha hb
      rw [show (a ^^^ v n) ^^^ (b ^^^ v n) = (a ^^^ b) ^^^ (v n ^^^ v n) by ac_rfl, Nat.xor_self, Nat.xor_zero] at h
      exact h
theorem sp_le {v : Nat → Nat} {n e : Nat} (h : sp v n e) : ∀ k, sp v (n + k) e
  | 0 => h
  | k + 1 => Or.inl (sp_le h k)
theorem sp_mem (v : Nat → Nat) {i n : Nat} (h : i < n) : sp v n (v i) := by
  obtain ⟨k, rfl⟩ : ∃ k, n = (i + 1) + k := ⟨n - (i + 1), by omega⟩
  have h1 : sp v (i + 1) (v i) := by
    refine Or.inr ?_
    rw [Nat.xor_self]
    exact sp_0 v i
  exact sp_le h1 k
theorem sp_ext {v w : Nat → Nat} : ∀ {n e : Nat}, (∀ i, i < n → v i = w i) → sp v n e → sp w n e
  | 0, e, h, he => he
  | n + 1, e, h, he => by
    rcases he with he | he
    · exact Or.inl (sp_ext (fun i hi => h i (by omega)) he)
    · rw [h n (by omega)] at he
      exact Or.inr (sp_ext (fun i hi => h i (by omega)) he)
/-- a span within another -/
theorem sp_sub {v w : Nat → Nat} {k : Nat} : ∀ {n e : Nat}, (∀ i, i < n → sp w k (v i)) → sp v n e → sp w k e
  | 0, e, h, he => by rw [show e = 0 from he]; exact sp_0 w k
  | n + 1, e, h, he => by
    rcases he with he | he
    · exact sp_sub (fun i hi => h i (by omega)) he
    · have h2 := sp_x (sp_sub (fun i hi => h i (by omega)) he) (h n (by omega))
      rw [zxx] at h2
      exact h2
theorem sp_lt {v : Nat → Nat} {m : Nat} : ∀ {n e : Nat}, (∀ i, i < n → v i < 2 ^ m) → sp v n e → e < 2 ^ m
  | 0, e, h, he => by rw [show e = 0 from he]; exact Nat.two_pow_pos m
  | n + 1, e, h, he => by
    rcases he with he | he
    · exact sp_lt (fun i hi => h i (by omega)) he
    · have h2 := Nat.xor_lt_two_pow (sp_lt (fun i hi => h i (by omega)) he) (h n (by omega))
      rw [zxx] at h2
      exact h2
theorem zcb_x (v : Nat → Nat) (c d : Nat) : ∀ n, zcb v n (c ^^^ d) = zcb v n c ^^^ zcb v n d
  | 0 => by simp [zcb]
  | n + 1 => by
    simp only [zcb, zcb_x v c d n, Nat.testBit_xor]
    rw [zx4]
    congr 1
    cases c.testBit n <;> cases d.testBit n <;> simp
theorem zcb_lo (v : Nat → Nat) {c : Nat} : ∀ {n k : Nat}, c < 2 ^ n → zcb v (n + k) c = zcb v n c
  | n, 0, h => rfl
  | n, k + 1, h => by
    have e : c.testBit (n + k) = false := Nat.testBit_lt_two_pow (Nat.lt_of_lt_of_le h (Nat.pow_le_pow_right (by decide) (by omega)))
    show zcb v ((n + k) + 1) c = _
    simp only [zcb, e, zcb_lo v h]
    simp
theorem zcb_bit (v : Nat → Nat) (n : Nat) : zcb v (n + 1) (2 ^ n) = v n := by
  have h : ∀ k, k ≤ n → zcb v k (2 ^ n) = 0 := by
    intro k
    induction k with
    | zero => intro _; rfl
    | succ k ih =>
      intro hk
      have e : (2 ^ n).testBit k = false := Nat.testBit_two_pow_of_ne (by omega)
      simp only [zcb, e, ih (by omega)]
      simp
  simp only [zcb, h n (Nat.le_refl n), Nat.testBit_two_pow_self]
  simp
theorem sp_iff {v : Nat → Nat} : ∀ {n e : Nat}, sp v n e ↔ ∃ c, c < 2 ^ n ∧ zcb v n c = e
  | 0, e => ⟨fun h => ⟨0, by decide, by rw [show e = 0 from h]; rfl⟩, fun ⟨c, _, h⟩ => h.symm⟩
  | n + 1, e => by
    constructor
    · rintro (h | h)
      · obtain ⟨c, hc, e1⟩ := sp_iff.mp h
        exact ⟨c, Nat.lt_of_lt_of_le hc (Nat.pow_le_pow_right (by decide) (by omega)), by rw [zcb_lo v (k := 1) hc]; exact e1⟩
      · obtain ⟨c, hc, e1⟩ := sp_iff.mp h
        refine ⟨c ^^^ 2 ^ n, Nat.xor_lt_two_pow (Nat.lt_of_lt_of_le hc (Nat.pow_le_pow_right (by decide) (by omega))) (Nat.pow_lt_pow_right (by decide) (by omega)), ?_⟩
        rw [zcb_x, zcb_lo v (k := 1) hc, e1, zcb_bit, zxx]
    · rintro ⟨c, hc, e1⟩
      by_cases hb : c.testBit n = true
      · refine Or.inr (sp_iff.mpr ⟨c ^^^ 2 ^ n, ?_, ?_⟩)
        · apply zlt_bit (Nat.xor_lt_two_pow hc (Nat.pow_lt_pow_right (by decide) (by omega)))
          rw [Nat.testBit_xor, hb, Nat.testBit_two_pow_self]
          rfl
        · have h2 := zcb_x v c (2 ^ n) (n + 1)
          have h3 : c ^^^ 2 ^ n < 2 ^ n := by
            apply zlt_bit (Nat.xor_lt_two_pow hc (Nat.pow_lt_pow_right (by decide) (by omega)))
            rw [Nat.testBit_xor, hb, Nat.testBit_two_pow_self]
            rfl
          rw [zcb_lo v (k := 1) h3, e1, zcb_bit] at h2
          exact h2
      · have hb2 : c.testBit n = false := by simpa using hb
        have h3 := zlt_bit hc hb2
        refine Or.inl (sp_iff.mpr ⟨c, h3, ?_⟩)
        rw [zcb_lo v (k := 1) h3] at e1
        exact e1
/-- INDEPENDENT: none is a sum of some ahead of it -/
def ind (v : Nat → Nat) (n : Nat) : Prop := ∀ i, i < n → ¬ sp v i (v i)
theorem ind_zero {v : Nat → Nat} : ∀ {n c : Nat}, ind v n → c < 2 ^ n → zcb v n c = 0 → c = 0
  | 0, c, _, hc, _ => by simpa using hc
  | n + 1, c, h, hc, e => by
    by_cases hb : c.testBit n = true
    · exfalso
      refine h n (by omega) (sp_iff.mpr ⟨c ^^^ 2 ^ n, ?_, ?_⟩)
      · apply zlt_bit (Nat.xor_lt_two_pow hc (Nat.pow_lt_pow_right (by decide) (by omega)))
        rw [Nat.testBit_xor, hb, Nat.testBit_two_pow_self]
        rfl
      · have h3 : c ^^^ 2 ^ n < 2 ^ n := by
          apply zlt_bit (Nat.xor_lt_two_pow hc (Nat.pow_lt_pow_right (by decide) (by omega)))
          rw [Nat.testBit_xor, hb, Nat.testBit_two_pow_self]
          rfl
        have h2 := zcb_x v c (2 ^ n) (n + 1)
        rw [zcb_lo v (k := 1) h3, e, zcb_bit, Nat.zero_xor] at h2
        exact h2
    · have hb2 : c.testBit n = false := by simpa using hb
      have h3 := zlt_bit hc hb2
      rw [zcb_lo v (k := 1) h3] at e
      exact ind_zero (fun i hi => h i (by omega)) h3 e
theorem zx_eq {a b : Nat} (h : a ^^^ b = 0) : a = b := by
  have h2 := zxx a b
  rw [h, Nat.zero_xor] at h2
  exact h2.symm
theorem ind_inj {v : Nat → Nat} {n c d : Nat} (h : ind v n) (hc : c < 2 ^ n) (hd : d < 2 ^ n) (e : zcb v n c = zcb v n d) : c = d := by
  apply zx_eq
  refine ind_zero h (Nat.xor_lt_two_pow hc hd) ?_
  rw [zcb_x, e, Nat.xor_self]
theorem zcb_sp (v : Nat → Nat) (n c : Nat) : sp v n (zcb v n c) := by
  induction n with
  | zero => rfl
  | succ n ih =>
    simp only [zcb]
    split
    · refine Or.inr ?_
      rw [zxx]
      exact ih
    · rw [Nat.xor_zero]
      exact Or.inl ih
theorem zcb_lt {v : Nat → Nat} {m n : Nat} (hv : ∀ i, i < n → v i < 2 ^ m) (c : Nat) : zcb v n c < 2 ^ m := sp_lt hv (zcb_sp v n c)
/-- m INDEPENDENT elements below 2^m have every one as a sum -/
theorem ind_all {v : Nat → Nat} {m : Nat} (h : ind v m) (hv : ∀ i, i < m → v i < 2 ^ m) {e : Nat} (he : e < 2 ^ m) : ∃ c, c < 2 ^ m ∧ zcb v m c = e := by
  have h1 := zsurj (n := 2 ^ m) (l := (List.range (2 ^ m)).map (zcb v m)) (by
    refine List.pairwise_map.mpr (List.Pairwise.imp_of_mem (S := fun a b => zcb v m a ≠ zcb v m b) ?_ List.nodup_range)
    intro x y hx hy hxy e
    exact hxy (ind_inj h (List.mem_range.mp hx) (List.mem_range.mp hy) e)) (fun x hx => by
    obtain ⟨y, -, rfl⟩ := List.mem_map.mp hx
    exact zcb_lt hv y) (by simp) e he
  obtain ⟨c, hc, rfl⟩ := List.mem_map.mp h1
  exact ⟨c, List.mem_range.mp hc, rfl⟩
/-- how many of the first n are no sums of those ahead -/
noncomputable def rk (v : Nat → Nat) : Nat → Nat
  | 0 => 0
  | n + 1 => rk v n + @ite Nat (sp v n (v n)) (Classical.propDecidable _) 0 1
theorem rk_in {v : Nat → Nat} {n : Nat} (h : sp v n (v n)) : rk v (n + 1) = rk v n := by
  show rk v n + @ite Nat (sp v n (v n)) (Classical.propDecidable _) 0 1 = _
  rw [if_pos h]
  rfl
theorem rk_out {v : Nat → Nat} {n : Nat} (h : ¬ sp v n (v n)) : rk v (n + 1) = rk v n + 1 := by
  show rk v n + @ite Nat (sp v n (v n)) (Classical.propDecidable _) 0 1 = _
  rw [if_neg h]
theorem rk_le (v : Nat → Nat) : ∀ n, rk v n ≤ n
  | 0 => Nat.le_refl _
  | n + 1 => by
    have := rk_le v n
    by_cases h : sp v n (v n)
    · rw [rk_in h]; omega
    · rw [rk_out h]; omega
theorem rk_ind {v : Nat → Nat} : ∀ {n : Nat}, rk v n = n ↔ ind v n
  | 0 => ⟨fun _ i hi => absurd hi (by omega), fun _ => rfl⟩
  | n + 1 => by
    have hle := rk_le v n
    constructor
    · intro h i hi
      by_cases hs : sp v n (v n)
      · rw [rk_in hs] at h; omega
      · rw [rk_out hs] at h
        have h2 := rk_ind.mp (show rk v n = n by omega)
        by_cases e : i = n
        · rw [e]; exact hs
        · exact h2 i (by omega)
    · intro h
      rw [rk_out (h n (by omega)), rk_ind.mpr (fun i hi => h i (by omega))]
/-- an echelon: each has a bit of its own that none behind it has -/
def ech (s l : Nat → Nat) (r : Nat) : Prop := (∀ k, k < r → (s k).testBit (l k) = true) ∧ ∀ k j, k < j → j < r → (s j).testBit (l k) = false
theorem ech_zero {s l : Nat → Nat} : ∀ {r e : Nat}, ech s l r → sp s r e → (∀ k, k < r → e.testBit (l k) = false) → e = 0
  | 0, e, _, he, _ => he
  | r + 1, e, h, he, hz => by
    have h' : ech s l r := ⟨fun k hk => h.1 k (by omega), fun k j hkj hj => h.2 k j hkj (by omega)⟩
    rcases he with he | he
    · exact ech_zero h' he (fun k hk => hz k (by omega))
    · have h2 := ech_zero h' he (fun k hk => by
        rw [Nat.testBit_xor, hz k (by omega), h.2 k r hk (by omega)]
        rfl)
      have h3 := zx_eq h2
      have h4 := hz r (by omega)
      rw [h3, h.1 r (by omega)] at h4
      cases h4
