/-! runs of the reference: elements, powers, conjugates -/
/-- the field that the reference holds -/
def zF (P m : Nat) (M : mz_M) : Prop := fgood P m ∧ M.1 78 0 = nI P ∧ M.1 77 11 = nI m ∧ M.1 77 12 = nI (2 ^ m)
theorem z31 {m a : Nat} (hm : m ≤ 8) (h : a < 2 ^ m) : a < 2 ^ 31 := Nat.lt_of_lt_of_le (z256 hm h) (by decide)
theorem zq256 {m : Nat} (hm : m ≤ 8) : 2 ^ m ≤ 256 := Nat.pow_le_pow_right (n := 2) (by decide) hm
theorem zfa_lt (a b : Int32) : a.toInt64 < b.toInt64 ↔ a < b := by rw [Int64.lt_iff_toInt_lt, Int32.lt_iff_toInt_lt, Int32.toInt_toInt64, Int32.toInt_toInt64]
theorem zfa_eq (a b : Int32) : a.toInt64 = b.toInt64 ↔ a = b := by rw [← Int64.toInt_inj, ← Int32.toInt_inj, Int32.toInt_toInt64, Int32.toInt_toInt64]
theorem zcmp_lt (a b : Int32) : lg_cmp a.toInt64 b.toInt64 < 0 ↔ a < b := by
  unfold lg_cmp
  by_cases h1 : a.toInt64 > b.toInt64
  · rw [if_pos h1]
    have h2 := (zfa_lt b a).mp h1
    constructor
    · intro q; exact absurd q (by decide +kernel)
    · intro q; exact (Int32.lt_irrefl (Int32.lt_trans q h2)).elim
  · rw [if_neg h1]
    by_cases h2 : a.toInt64 = b.toInt64
    · rw [if_pos h2]
      have h3 := (zfa_eq a b).mp h2
      subst h3
      constructor
      · intro q; exact absurd q (by decide +kernel)
      · intro q; exact (Int32.lt_irrefl q).elim
    · rw [if_neg h2]
      have h3 : ¬ b < a := fun q => h1 ((zfa_lt b a).mpr q)
      have h4 : ¬ a = b := fun q => h2 ((zfa_eq a b).mpr q)
      constructor
      · intro _
        rcases Int32.lt_or_eq_of_le (Int32.not_lt.mp h3) with q | q
        · exact q
        · exact absurd q h4
      · intro _; decide +kernel
theorem zcmp_gt (a b : Int32) : 0 < lg_cmp a.toInt64 b.toInt64 ↔ b < a := by
  unfold lg_cmp
  by_cases h1 : a.toInt64 > b.toInt64
  · rw [if_pos h1]
    exact ⟨fun _ => (zfa_lt b a).mp h1, fun _ => by decide +kernel⟩
  · rw [if_neg h1]
    constructor
    · intro q
      split at q
      · exact absurd q (by decide +kernel)
      · exact absurd q (by decide +kernel)
    · intro q; exact absurd ((zfa_lt b a).mpr q) h1
theorem s_X10_in (M : mz_M) (x a b : Int32) : mq_C mq_X10_in [.long x.toInt64, .long a.toInt64, .long b.toInt64] M (some (.int (zB (decide (a ≤ x ∧ x ≤ b)))), M) := by
  refine t_X10_in_0 _ _ _ _ ⟨fun c => ?_, fun c => ⟨fun c2 => ?_, fun c2 => ?_⟩⟩
  · rw [zcmp_lt] at c
    have : ¬ (a ≤ x ∧ x ≤ b) := fun q => absurd c (Int32.not_lt.mpr q.1)
    simp [this, zB]
  · rw [zcmp_gt] at c2
    have : ¬ (a ≤ x ∧ x ≤ b) := fun q => absurd c2 (Int32.not_lt.mpr q.2)
    simp [this, zB]
  · rw [zcmp_lt] at c
    rw [zcmp_gt] at c2
    have : a ≤ x ∧ x ≤ b := ⟨Int32.not_lt.mp c, Int32.not_lt.mp c2⟩
    simp [this, zB]
/-- x is a number below n -/
def zel (n : Nat) (x : Int32) : Bool := decide (0 ≤ x ∧ x < nI n)
theorem zel_iff {n : Nat} (hn : n < 2 ^ 31) {x : Int32} : zel n x = true ↔ ∃ a, a < n ∧ x = nI a := by
  unfold zel
  rw [decide_eq_true_eq]
  constructor
  · rintro ⟨h1, h2⟩
    obtain ⟨a, ha, rfl⟩ := zn_of h1
    exact ⟨a, (zn_lt ha hn).mp h2, rfl⟩
  · rintro ⟨a, ha, rfl⟩
    exact ⟨zn_ge0 (by omega), (zn_lt (by omega) hn).mpr ha⟩
theorem zel_sub1 {n : Nat} (h0 : 0 < n) (hn : n < 2 ^ 31) (x : Int32) : decide (0 ≤ x ∧ x ≤ nI n - 1) = zel n x := by
  unfold zel
  rw [show nI n - 1 = nI (n - 1) from zn_sub (b := 1) h0, decide_eq_decide]
  constructor
  · rintro ⟨h1, h2⟩
    obtain ⟨a, ha, rfl⟩ := zn_of h1
    rw [zn_le ha (by omega)] at h2
    exact ⟨h1, (zn_lt ha hn).mpr (by omega)⟩
  · rintro ⟨h1, h2⟩
    obtain ⟨a, ha, rfl⟩ := zn_of h1
    rw [zn_lt ha hn] at h2
    exact ⟨h1, (zn_le ha (by omega)).mpr (by omega)⟩
theorem zB_01 (b : Bool) : zB b = 0 ∨ zB b = 1 := by cases b <;> simp [zB]
theorem s_X10_isElement {M : mz_M} {P m : Nat} (h : zF P m M) (x : Int32) : mq_C mq_X10_isElement [.ref 77, .int x] M (some (.int (zB (zel (2 ^ m) x))), M) := by
  obtain ⟨hg, h1, h2, h3⟩ := h
  refine t_X10_isElement_0 _ _ ⟨_, s_X10_in M x 0 ((M.1 77 12) - 1), zB_01 _, ?_⟩
  rw [h3, zel_sub1 (Nat.two_pow_pos m) (by have := zq256 hg.2.1; omega)]
theorem s_X10_isPlace {M : mz_M} {P m : Nat} (h : zF P m M) (x : Int32) : mq_C mq_X10_isPlace [.ref 77, .int x] M (some (.int (zB (zel m x))), M) := by
  obtain ⟨hg, h1, h2, h3⟩ := h
  refine t_X10_isPlace_0 _ _ ⟨_, s_X10_in M x 0 ((M.1 77 11) - 1), zB_01 _, ?_⟩
  rw [h2, zel_sub1 (by have := hg.1; omega) (by have := hg.2.1; omega)]
theorem s_X10_isSlot (M : mz_M) (x : Int32) : mq_C mq_X10_isSlot [.int x] M (some (.int (zB (zel 4 x))), M) := by
  refine t_X10_isSlot_0 _ _ ⟨_, s_X10_in M x 0 3, zB_01 _, ?_⟩
  rw [← zel_sub1 (n := 4) (by decide) (by decide)]
  rfl
/-- d divides m -/
def zpt (m : Nat) (x : Int32) : Bool := decide (∃ d : Nat, d < m + 1 ∧ 0 < d ∧ m % d = 0 ∧ x = nI d)
theorem zpt_pos {m d : Nat} (h0 : 0 < d) (hd : d ≤ m) (h : m % d = 0) : zpt m (nI d) = true := decide_eq_true ⟨d, by omega, h0, h, rfl⟩
theorem zpt_iff {m : Nat} {x : Int32} : zpt m x = true ↔ ∃ d : Nat, d < m + 1 ∧ 0 < d ∧ m % d = 0 ∧ x = nI d := decide_eq_true_iff
theorem zpt_neg {m : Nat} {x : Int32} (h : ¬ ∃ d : Nat, d < m + 1 ∧ 0 < d ∧ m % d = 0 ∧ x = nI d) : zpt m x = false := decide_eq_false h
theorem s_X10_isPart {M : mz_M} {P m : Nat} (h : zF P m M) (x : Int32) : mq_C mq_X10_isPart [.ref 77, .int x] M (some (.int (zB (zpt m x))), M) := by
  obtain ⟨hg, h1, h2, h3⟩ := h
  have hm := hg.2.1
  refine t_X10_isPart_0 _ _ ?_
  rw [h2]
  refine ⟨fun c => ?_, fun c => ⟨fun c2 => ?_, fun c2 => ?_⟩⟩
  · rw [zpt_neg]
    · rfl
    · rintro ⟨d, h4, h5, h6, rfl⟩
      rw [zn_le0 (by omega)] at c
      omega
  · rw [zpt_neg]
    · rfl
    · rintro ⟨d, h4, h5, h6, rfl⟩
      rw [zn_lt (by omega) (by omega)] at c2
      omega
  · obtain ⟨d, hd, rfl⟩ := zn_of (Int32.le_of_lt (Int32.not_le.mp c))
    rw [zn_le0 hd] at c
    rw [zn_lt (by omega) hd] at c2
    refine ⟨fun q => c ((zn_eq0 hd).mp q), ?_⟩
    rw [pk_rem (by omega) (by omega) hd, zn_eq0 (by have := Nat.mod_lt m (show 0 < d by omega); omega)]
    refine ⟨fun c3 => ?_, fun c3 => ?_⟩
    · rw [zpt_neg]
      · rfl
      · rintro ⟨d2, h4, h5, h6, e⟩
        have e := (zn_eq hd (by omega)).mp e
        subst e
        exact c3 h6
    · rw [zpt_pos (by omega) (by omega) (Decidable.not_not.mp c3)]
      rfl
theorem s_X10_conj_5 {M : mz_M} {P m a : Nat} (h : zF P m M) (ha : a < 2 ^ m) (o : Option Value) {k : Nat} (hk : k < 2 ^ 31) : ∀ (n i : Nat), i + n = k → mq_G mq_X10_conj (5, [some (.ref 77), o, some (.int (nI k)), some (.int (nI (cj P m a i))), some (.int (nI i))], [], M) (some (.int (nI (cj P m a k))), M)
  | 0, i, hi => by
    obtain rfl : i = k := by omega
    exact t_X10_conj_5 _ _ _ _ _ ⟨fun _ => rfl, fun c => absurd ((zn_le hk hk).mpr (Nat.le_refl _)) c⟩
  | n + 1, i, hi => by
    have hc := cj_lt h.1 ha i
    refine t_X10_conj_5 _ _ _ _ _ ⟨fun c => ?_, fun _ => ⟨_, s_X10_times M h.1 h.2.1 hc hc, ?_⟩⟩
    · rw [zn_le hk (by omega)] at c
      omega
    · rw [nI_1]
      exact s_X10_conj_5 h ha o hk n (i + 1) (by omega)
theorem s_X10_conj {M : mz_M} {P m a k : Nat} (h : zF P m M) (ha : a < 2 ^ m) (hk : k < 2 ^ 31) : mq_C mq_X10_conj [.ref 77, .int (nI a), .int (nI k)] M (some (.int (nI (cj P m a k))), M) :=
  t_X10_conj_0 _ _ _ (s_X10_conj_5 h ha _ hk k 0 (by omega))
theorem s_X10_powered_8 {M : mz_M} {P m : Nat} (h : zF P m M) (o1 : Option Value) : ∀ (n : Nat), n < 2 ^ 31 → ∀ (o2 : Option Value) (v b : Nat), v < 2 ^ m → b < 2 ^ m → mq_G mq_X10_powered (8, [some (.ref 77), o1, o2, some (.int (nI v)), some (.int (nI b)), some (.int (nI n))], [], M) (some (.int (nI (fm P m v (fpw P m b n)))), M) := by
  intro n
  induction n using Nat.strongRecOn with
  | _ n ih =>
    intro hn o2 v b hv hb
    refine t_X10_powered_8 _ _ _ _ _ _ ⟨fun c => ?_, fun c => ?_⟩
    · rw [zn_le0 hn] at c
      subst c
      rw [show fpw P m b 0 = 1 from rfl, fm_one_r h.1 hv]
    · rw [zn_le0 hn] at c
      have hs := fpw_half h.1 hv hb n (by omega)
      have hbb := fm_lt h.1 (b := b) hb
      have ih2 := ih (n / 2) (by omega) (by omega) (mz_nw o2)
      rw [show (1 &&& 31 : Int32) = (nI 1 &&& 31) from rfl, zn_shr hn (by decide), Nat.pow_one, zn_and1, show (1 : Int32) = nI 1 from rfl, zn_eq (by omega) (by decide)]
      refine ⟨fun c2 => ⟨_, s_X10_times M h.1 h.2.1 hb hb, ?_⟩, fun c2 => ⟨_, s_X10_times M h.1 h.2.1 hv hb, _, s_X10_times M h.1 h.2.1 hb hb, ?_⟩⟩
      · rw [hs, if_neg c2]
        exact ih2 _ _ hv hbb
      · rw [hs, if_pos (Decidable.not_not.mp c2)]
        exact ih2 _ _ (fm_lt h.1 hv) hbb
theorem s_X10_powered {M : mz_M} {P m a n : Nat} (h : zF P m M) (ha : a < 2 ^ m) (hn : n < 2 ^ 31) : mq_C mq_X10_powered [.ref 77, .int (nI a), .int (nI n)] M (some (.int (nI (fpw P m a n))), M) := by
  have h2 := s_X10_powered_8 h (some (.int (nI a))) n hn (some (.int (nI n))) 1 a (f1_lt h.1) ha
  rw [fm_one h.1 (fpw_lt h.1 ha n)] at h2
  exact t_X10_powered_0 _ _ _ h2
theorem s_X10_inverseOf {M : mz_M} {P m a : Nat} (h : zF P m M) (ha : a < 2 ^ m) : mq_C mq_X10_inverseOf [.ref 77, .int (nI a)] M (some (.int (nI (fpw P m a (2 ^ m - 2)))), M) := by
  have h2 := zq256 h.1.2.1
  have h3 := f1_lt h.1
  refine t_X10_inverseOf_0 _ _ ⟨_, ?_, rfl⟩
  rw [h.2.2.2, show (2 : Int32) = nI 2 from rfl, zn_sub (by omega)]
  exact s_X10_powered h ha (by omega)
