/-! runs of the reference: sizes, orders, traces, norms, values, bits -/
/-- the least k from k0 on by which CONJUGATE k is a, but m at most -/
def zsz (P m a : Nat) : Nat → Nat → Nat
  | 0, k => k
  | n + 1, k => if cj P m a k = a then k else zsz P m a n (k + 1)
theorem zsz_le (P m a : Nat) : ∀ n k, zsz P m a n k ≤ k + n
  | 0, k => Nat.le_refl _
  | n + 1, k => by
    unfold zsz
    split
    · omega
    · have := zsz_le P m a n (k + 1)
      omega
theorem s_X10_sizeOf_2 {M : mz_M} {P m a g : Nat} (h : zF P m M) (hc : fcy P m g) (ha : a < 2 ^ m) : ∀ (n k : Nat), k + n = m → mq_G mq_X10_sizeOf (2, [some (.ref 77), some (.int (nI a)), some (.int (nI k))], [], M) (some (.int (nI (zsz P m a n k))), M)
  | 0, k, hk => by
    obtain rfl : k = m := by omega
    have h8 := h.1.2.1
    refine t_X10_sizeOf_2 _ _ _ ⟨_, s_X10_conj h ha (by omega), fun _ => rfl, fun c => absurd ?_ c⟩
    rw [cj_m h.1 hc ha]
  | n + 1, k, hk => by
    have h8 := h.1.2.1
    have hl := cj_lt h.1 ha k
    refine t_X10_sizeOf_2 _ _ _ ⟨_, s_X10_conj h ha (by omega), fun c => ?_, fun c => ?_⟩
    · rw [zn_eq (z31 h8 hl) (z31 h8 ha)] at c
      simp only [zsz, c, if_true]
    · rw [zn_eq (z31 h8 hl) (z31 h8 ha)] at c
      simp only [zsz, c, if_false]
      rw [nI_1]
      exact s_X10_sizeOf_2 h hc ha n (k + 1) (by omega)
theorem s_X10_sizeOf {M : mz_M} {P m a g : Nat} (h : zF P m M) (hc : fcy P m g) (ha : a < 2 ^ m) : mq_C mq_X10_sizeOf [.ref 77, .int (nI a)] M (some (.int (nI (zsz P m a (m - 1) 1))), M) :=
  t_X10_sizeOf_0 _ _ (s_X10_sizeOf_2 h hc ha (m - 1) 1 (by have := h.1.1; omega))
/-- the least n from n0 on by which a to the power of n is 1, but 2^m - 1 at most -/
def zor (P m a : Nat) : Nat → Nat → Nat
  | 0, n => n
  | f + 1, n => if fpw P m a n = 1 then n else zor P m a f (n + 1)
theorem zor_le (P m a : Nat) : ∀ f n, zor P m a f n ≤ n + f
  | 0, n => Nat.le_refl _
  | f + 1, n => by
    unfold zor
    split
    · omega
    · have := zor_le P m a f (n + 1)
      omega
theorem s_X10_orderOf_4 {M : mz_M} {P m a g : Nat} (h : zF P m M) (hc : fcy P m g) (h0 : 0 < a) (ha : a < 2 ^ m) : ∀ (f n : Nat), n + f = 2 ^ m - 1 → mq_G mq_X10_orderOf (4, [some (.ref 77), some (.int (nI a)), some (.int (nI n)), some (.int (nI (fpw P m a n)))], [], M) (some (.int (nI (zor P m a f n))), M)
  | 0, n, hn => by
    obtain rfl : n = 2 ^ m - 1 := by omega
    refine t_X10_orderOf_4 _ _ _ _ ⟨fun _ => rfl, fun c => absurd ?_ c⟩
    rw [fpw_cyc h.1 hc h0 ha]
    rfl
  | f + 1, n, hn => by
    have h8 := h.1.2.1
    have hl := fpw_lt h.1 ha n
    refine t_X10_orderOf_4 _ _ _ _ ⟨fun c => ?_, fun c => ⟨_, s_X10_times M h.1 h.2.1 hl ha, ?_⟩⟩
    · rw [show (1 : Int32) = nI 1 from rfl, zn_eq (z31 h8 hl) (by decide)] at c
      simp only [zor, c, if_true]
    · rw [show (1 : Int32) = nI 1 from rfl, zn_eq (z31 h8 hl) (by decide)] at c
      simp only [zor, c, if_false]
      rw [nI_1]
      exact s_X10_orderOf_4 h hc h0 ha f (n + 1) (by omega)
theorem s_X10_orderOf {M : mz_M} {P m a g : Nat} (h : zF P m M) (hc : fcy P m g) (h0 : 0 < a) (ha : a < 2 ^ m) : mq_C mq_X10_orderOf [.ref 77, .int (nI a)] M (some (.int (nI (zor P m a (2 ^ m - 2) 1))), M) := by
  have h1 := f1_lt h.1
  have h2 := s_X10_orderOf_4 h hc h0 ha (2 ^ m - 2) 1 (by omega)
  rw [fpw_1 h.1 ha] at h2
  exact t_X10_orderOf_0 _ _ h2
/-- is it a generator -/
def zgen (P m a : Nat) : Bool := decide (0 < a ∧ zor P m a (2 ^ m - 2) 1 = 2 ^ m - 1)
theorem s_X10_isGenerator {M : mz_M} {P m a g : Nat} (h : zF P m M) (hc : fcy P m g) (ha : a < 2 ^ m) : mq_C mq_X10_isGenerator [.ref 77, .int (nI a)] M (some (.int (zB (zgen P m a))), M) := by
  have h8 := h.1.2.1
  have hq := zq256 h8
  have h1 := f1_lt h.1
  refine t_X10_isGenerator_0 _ _ ⟨fun c => ?_, fun c => ?_⟩
  · rw [zn_le0 (z31 h8 ha)] at c
    simp [zgen, c, zB]
  · rw [zn_le0 (z31 h8 ha)] at c
    have hz := zor_le P m a (2 ^ m - 2) 1
    refine ⟨_, s_X10_orderOf h hc (by omega) ha, ?_⟩
    rw [h.2.2.2, show (1 : Int32) = nI 1 from rfl, zn_sub (by omega), zn_eq (by omega) (by omega)]
    refine ⟨fun c2 => ?_, fun c2 => ?_⟩
    · simp [zgen, c2, zB]
    · simp [zgen, Decidable.not_not.mp c2, zB, show 0 < a by omega]
      rfl
/-- TRACE to d -/
def ztr (P m a d : Nat) : Nat → Nat → Nat → Nat
  | 0, _, v => v
  | f + 1, k, v => if m ≤ k then v else ztr P m a d f (k + d) (v ^^^ cj P m a k)
def znm (P m a d : Nat) : Nat → Nat → Nat → Nat
  | 0, _, v => v
  | f + 1, k, v => if m ≤ k then v else znm P m a d f (k + d) (fm P m v (cj P m a k))
theorem s_X10_traceTo_5 {M : mz_M} {P m a d : Nat} (h : zF P m M) (ha : a < 2 ^ m) (hd0 : 0 < d) (hd : d ≤ 8) : ∀ (f k v : Nat), k < 2 ^ 20 → m ≤ k + f → mq_G mq_X10_traceTo (5, [some (.ref 77), some (.int (nI a)), some (.int (nI d)), some (.int (nI v)), some (.int (nI k))], [], M) (some (.int (nI (ztr P m a d f k v))), M)
  | 0, k, v, hk, hf => by
    have h8 := h.1.2.1
    refine t_X10_traceTo_5 _ _ _ _ _ ⟨fun _ => rfl, fun c => absurd ?_ c⟩
    rw [h.2.2.1, zn_le (by omega) (by omega)]
    omega
  | f + 1, k, v, hk, hf => by
    have h8 := h.1.2.1
    refine t_X10_traceTo_5 _ _ _ _ _ ?_
    rw [h.2.2.1, zn_le (by omega) (by omega)]
    refine ⟨fun c => ?_, fun c => ⟨_, s_X10_conj h ha (by omega), ?_⟩⟩
    · simp only [ztr, c, if_true]
    · simp only [ztr, c, if_false]
      rw [zn_xor, nI_add]
      exact s_X10_traceTo_5 h ha hd0 hd f (k + d) _ (by omega) (by omega)
theorem s_X10_traceTo {M : mz_M} {P m a d : Nat} (h : zF P m M) (ha : a < 2 ^ m) (hd0 : 0 < d) (hd : d ≤ 8) : mq_C mq_X10_traceTo [.ref 77, .int (nI a), .int (nI d)] M (some (.int (nI (ztr P m a d 8 0 0))), M) :=
  t_X10_traceTo_0 _ _ _ (s_X10_traceTo_5 h ha hd0 hd 8 0 0 (by decide) (by have := h.1.2.1; omega))
theorem s_X10_normTo_5 {M : mz_M} {P m a d : Nat} (h : zF P m M) (ha : a < 2 ^ m) (hd0 : 0 < d) (hd : d ≤ 8) : ∀ (f k v : Nat), v < 2 ^ m → k < 2 ^ 20 → m ≤ k + f → mq_G mq_X10_normTo (5, [some (.ref 77), some (.int (nI a)), some (.int (nI d)), some (.int (nI v)), some (.int (nI k))], [], M) (some (.int (nI (znm P m a d f k v))), M)
  | 0, k, v, hv, hk, hf => by
    have h8 := h.1.2.1
    refine t_X10_normTo_5 _ _ _ _ _ ⟨fun _ => rfl, fun c => absurd ?_ c⟩
    rw [h.2.2.1, zn_le (by omega) (by omega)]
    omega
  | f + 1, k, v, hv, hk, hf => by
    have h8 := h.1.2.1
    refine t_X10_normTo_5 _ _ _ _ _ ?_
    rw [h.2.2.1, zn_le (by omega) (by omega)]
    refine ⟨fun c => ?_, fun c => ⟨_, s_X10_conj h ha (by omega), _, s_X10_times M h.1 h.2.1 hv (cj_lt h.1 ha k), ?_⟩⟩
    · simp only [znm, c, if_true]
    · simp only [znm, c, if_false]
      rw [nI_add]
      exact s_X10_normTo_5 h ha hd0 hd f (k + d) _ (fm_lt h.1 hv) (by omega) (by omega)
theorem s_X10_normTo {M : mz_M} {P m a d : Nat} (h : zF P m M) (ha : a < 2 ^ m) (hd0 : 0 < d) (hd : d ≤ 8) : mq_C mq_X10_normTo [.ref 77, .int (nI a), .int (nI d)] M (some (.int (nI (znm P m a d 8 0 1))), M) :=
  t_X10_normTo_0 _ _ _ (s_X10_normTo_5 h ha hd0 hd 8 0 1 (f1_lt h.1) (by decide) (by have := h.1.2.1; omega))
/-- a polynomial at an element: from bit n - 1 down -/
def zev (P m a p : Nat) : Nat → Nat → Nat
  | 0, v => v
  | n + 1, v => zev P m a p n (fm P m v a ^^^ p / 2 ^ n % 2)
theorem zev_lt {P m a p : Nat} (h : fgood P m) : ∀ n v, v < 2 ^ m → zev P m a p n v < 2 ^ m
  | 0, v, hv => hv
  | n + 1, v, hv => zev_lt h n _ (Nat.xor_lt_two_pow (fm_lt h hv) (Nat.lt_of_lt_of_le (Nat.mod_lt _ (by decide)) (f1_lt h)))
theorem s_X10_rooted_8 {M : mz_M} {P m a p : Nat} (h : zF P m M) (ha : a < 2 ^ m) (hp : p < 2 ^ 31) : ∀ (n v : Nat), n ≤ 31 → v < 2 ^ m → mq_G mq_X10_rooted (8, [some (.ref 77), some (.int (nI p)), some (.int (nI a)), some (.int (nI v)), some (.int (nI n + (-1)))], [], M) (some (.int (nI (zev P m a p n v))), M)
  | 0, v, hn, hv => t_X10_rooted_8 _ _ _ _ _ ⟨fun _ => rfl, fun c => absurd (by decide +kernel) c⟩
  | n + 1, v, hn, hv => by
    rw [zn_m1]
    refine t_X10_rooted_8 _ _ _ _ _ ⟨fun c => absurd c (nI_pos (by omega)), fun _ => ⟨_, s_X10_times M h.1 h.2.1 hv ha, ?_⟩⟩
    rw [zn_bit hp (by omega), zn_xor]
    exact s_X10_rooted_8 h ha hp n _ (by omega) (Nat.xor_lt_two_pow (fm_lt h.1 hv) (Nat.lt_of_lt_of_le (Nat.mod_lt _ (by decide)) (f1_lt h.1)))
theorem zdeg_zb {n : Nat} (hn : n < 2 ^ 31) : zdeg (nI n) = nI (zb n) + (-1) := by
  by_cases h : n = 0
  · subst h; decide +kernel
  · rw [zdeg_pos (by omega) hn]
    have h4 : 1 ≤ zb n := by unfold zb; split <;> omega
    obtain ⟨k, hk⟩ : ∃ k, zb n = k + 1 := ⟨zb n - 1, by omega⟩
    rw [hk, zn_m1]
    rfl
theorem s_X10_rooted {M : mz_M} {P m a p : Nat} (h : zF P m M) (ha : a < 2 ^ m) (hp : p < 2 ^ 31) : mq_C mq_X10_rooted [.ref 77, .int (nI p), .int (nI a)] M (some (.int (nI (zev P m a p (zb p) 0))), M) := by
  refine t_X10_rooted_0 _ _ _ ⟨_, s_X10_degree M _, ?_⟩
  rw [zdeg_zb hp]
  exact s_X10_rooted_8 h ha hp _ _ (zb_le.mpr hp) (Nat.two_pow_pos m)
/-- how many bits are set -/
def zpop : Nat → Nat → Nat
  | 0, _ => 0
  | f + 1, n => n % 2 + zpop f (n / 2)
theorem zpop_low : zall (fun n => Nat.beq (zpop 10 (Nat.land n (n - 1)) + (if Nat.beq n 0 = true then 0 else 1)) (zpop 10 n)) 1024 = true := by decide +kernel
theorem s_X10_bits_4 (M : mz_M) : ∀ (n : Nat), n < 1024 → ∀ (o : Option Value) (k : Nat), mq_G mq_X10_bits (4, [o, some (.int (nI k)), some (.int (nI n))], [], M) (some (.int (nI (k + zpop 10 n))), M) := by
  intro n
  induction n using Nat.strongRecOn with
  | _ n ih =>
    intro hn o k
    refine t_X10_bits_4 _ _ _ _ ⟨fun c => ?_, fun c => ?_⟩
    · rw [zn_eq0 (by omega)] at c
      subst c
      rfl
    · rw [zn_eq0 (by omega)] at c
      have h1 := Nat.eq_of_beq_eq_true (zall_iff zpop_low n hn)
      rw [if_neg (by intro q; exact c (Nat.eq_of_beq_eq_true q))] at h1
      have h2 : n &&& (n - 1) ≤ n - 1 := Nat.and_le_right
      rw [show (1 : Int32) = nI 1 from rfl, zn_sub (by omega), zn_and, nI_add]
      have h3 := ih (n &&& (n - 1)) (by omega) (by omega) (mz_nw o) (k + 1)
      rw [show k + 1 + zpop 10 (n &&& (n - 1)) = k + zpop 10 n by
        have h4 : zpop 10 (n &&& (n - 1)) + 1 = zpop 10 n := h1
        omega] at h3
      exact h3
theorem s_X10_bits (M : mz_M) {n : Nat} (hn : n < 1024) : mq_C mq_X10_bits [.int (nI n)] M (some (.int (nI (zpop 10 n))), M) := by
  have h := s_X10_bits_4 M n hn (some (.int (nI n))) 0
  rw [Nat.zero_add] at h
  exact t_X10_bits_0 _ _ h
