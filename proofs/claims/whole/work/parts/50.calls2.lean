/-! calls of the reference: conjugates, least, solves, log, traced, generators, normal, normals -/
theorem zcnt_t {p : Nat → Bool} {f a : Nat} (h : p a = true) : zcnt p (f + 1) a = zcnt p f (a + 1) + 1 := by
  show (if p a = true then 1 else 0) + _ = _
  rw [if_pos h, Nat.add_comm]
theorem zcnt_f {p : Nat → Bool} {f a : Nat} (h : ¬ p a = true) : zcnt p (f + 1) a = zcnt p f (a + 1) := by
  show (if p a = true then 1 else 0) + _ = _
  rw [if_neg h, Nat.zero_add]
theorem zfst_t {p : Nat → Bool} {f a : Nat} (h : p a = true) : zfst p (f + 1) a = some a := if_pos h
theorem zfst_f {p : Nat → Bool} {f a : Nat} (h : ¬ p a = true) : zfst p (f + 1) a = zfst p f (a + 1) := if_neg h
section ZC2
variable {M0 M M' : mz_M} {σ : zSg}
def k_conjugates (σ : zSg) (x : Int32) : Int32 × zSg := if zel (2 ^ σ.1.2.1) x = true then (nI (zsz σ.1.1 σ.1.2.1 (zu x) (σ.1.2.1 - 1) 1), zrw σ (zsz σ.1.1 σ.1.2.1 (zu x) (σ.1.2.1 - 1) 1, fun k => (nI (cj σ.1.1 σ.1.2.1 (zu x) k)).toInt64)) else (-1, σ)
theorem c_X10_conjugates_28 {a n : Nat} (ha : a < 2 ^ σ.1.2.1) (hn : n ≤ 8) : ∀ (f k : Nat) (M : mz_M), k + f = n → zP M0 (zrw σ (k, fun k => (nI (cj σ.1.1 σ.1.2.1 a k)).toInt64)) M → ∃ M', mq_G mq_X10_conjugates (28, [some (.ref 77), some (.int (nI a)), some (.int (nI n)), some (.int (nI k))], [], M) (some (.int (nI n)), M') ∧ zP M0 (zrw σ (n, fun k => (nI (cj σ.1.1 σ.1.2.1 a k)).toInt64)) M'
  | 0, k, M, hk, h => by
    obtain rfl : k = n := by omega
    exact ⟨M, t_X10_conjugates_28 _ _ _ _ ⟨fun _ => rfl, fun c => absurd ((zn_le (by omega) (by omega)).mpr (Nat.le_refl _)) c⟩, h⟩
  | f + 1, k, M, hk, h => by
    obtain ⟨M1, g1, g2, g3⟩ := s_X10_tell h (by omega) (x := (nI (cj σ.1.1 σ.1.2.1 a k)).toInt64) rfl
    obtain ⟨M', k1, k2⟩ := c_X10_conjugates_28 ha hn f (k + 1) M1 (by omega) g2
    refine ⟨M', t_X10_conjugates_28 _ _ _ _ ⟨fun c => ?_, fun _ => ⟨_, s_X10_conj h.F ha (by omega), M1, g1, ?_⟩⟩, k2⟩
    · rw [zn_le (by omega) (by omega)] at c
      omega
    · rw [nI_1]; exact k1
theorem c_X10_conjugates (h : zP M0 σ M) (x : Int32) : zA M0 mq_X10_conjugates [.ref 77, .int x] M (k_conjugates σ x) := by
  obtain ⟨M1, eM, h1, -⟩ := h.thr
  have hq := h.q
  have h8 := h.g.2.1
  have h2 := h.g.1
  by_cases he : zel (2 ^ σ.1.2.1) x = true
  · simp only [zA, k_conjugates, he, if_true]
    obtain ⟨a, ha, rfl⟩ := h1.en he
    rw [zu_nI (by omega)]
    have hz := zsz_le σ.1.1 σ.1.2.1 a (σ.1.2.1 - 1) 1
    obtain ⟨g, hc⟩ := h1.c
    obtain ⟨M', k1, k2⟩ := c_X10_conjugates_28 (σ := σ) (M0 := M0) ha (by omega : zsz σ.1.1 σ.1.2.1 a (σ.1.2.1 - 1) 1 ≤ 8) _ 0 _ (Nat.zero_add _) (h1.row0 _)
    refine ⟨M', t_X10_conjugates_0 _ _ (fun M2 e2 => ?_), k2⟩
    obtain rfl := e2.trans eM
    exact ⟨1, h1.el1 he, fun _ => ⟨_, s_X10_sizeOf h1.F hc ha, fun M5 e5 => by rw [e5]; exact k1⟩, fun c => absurd z10 c⟩
  · simp only [zA, k_conjugates, he]
    refine ⟨M1, t_X10_conjugates_0 _ _ (fun M2 e2 => ?_), h1⟩
    obtain rfl := e2.trans eM
    exact ⟨0, h1.el0 he, fun c => absurd rfl c, fun _ => rfl⟩
/-! a polynomial at an element, by its powers -/
theorem zev_cb {P m a p : Nat} (hg : fgood P m) (ha : a < 2 ^ m) : ∀ n v, v < 2 ^ m → zev P m a p n v = fm P m v (fpw P m a n) ^^^ zcb (fpw P m a) n p
  | 0, v, hv => by
    show v = fm P m v 1 ^^^ 0
    rw [fm_one_r hg hv, Nat.xor_zero]
  | n + 1, v, hv => by
    have h1 := fm_lt hg (b := a) hv
    have hb : p / 2 ^ n % 2 < 2 ^ m := Nat.lt_of_lt_of_le (Nat.mod_lt _ (by decide)) (f1_lt hg)
    have hp := fpw_lt hg ha n
    show zev P m a p n (fm P m v a ^^^ p / 2 ^ n % 2) = _
    rw [zev_cb hg ha n _ (Nat.xor_lt_two_pow h1 hb), fm_xl, fm_assoc hg hv ha hp, fm_comm hg ha hp]
    show (fm P m v (fpw P m a (n + 1)) ^^^ _) ^^^ _ = _ ^^^ (zcb (fpw P m a) n p ^^^ _)
    rw [Nat.xor_assoc, Nat.xor_comm (zcb (fpw P m a) n p)]
    congr 2
    by_cases q : p / 2 ^ n % 2 = 1
    · rw [q, zbit_t q, fm_one hg hp]; rfl
    · rw [zbit_f q, show p / 2 ^ n % 2 = 0 by omega, fm_comm hg (Nat.two_pow_pos m) hp, fm_zero_r]; rfl
/-- p at a, p below 512 -/
def zva (P m a p : Nat) : Nat := zcb (fpw P m a) 9 p
theorem s_X10_rooted9 {M : mz_M} {P m a p : Nat} (h : zF P m M) (ha : a < 2 ^ m) (hp : p < 512) : mq_C mq_X10_rooted [.ref 77, .int (nI p), .int (nI a)] M (some (.int (nI (zva P m a p))), M) := by
  have h1 := s_X10_rooted h ha (show p < 2 ^ 31 by omega)
  have hz : zb p ≤ 9 := zb_le.mpr (show p < 2 ^ 9 from hp)
  have hz2 : p < 2 ^ zb p := zb_le.mp (Nat.le_refl _)
  have h2 := zcb_lo (fpw P m a) (n := zb p) (k := 9 - zb p) hz2
  rw [show zb p + (9 - zb p) = 9 by omega] at h2
  rw [zev_cb h.1 ha _ _ (Nat.two_pow_pos m), fm_comm h.1 (Nat.two_pow_pos m) (fpw_lt h.1 ha _), fm_zero_r, Nat.zero_xor, ← h2] at h1
  exact h1
theorem zva_lt {P m a p : Nat} (hg : fgood P m) (ha : a < 2 ^ m) : zva P m a p < 2 ^ m := zcb_lt (fun i _ => fpw_lt hg ha i) p
/-- the first power that is a sum of those ahead -/
theorem zld_ex {P m a : Nat} (hg : fgood P m) (ha : a < 2 ^ m) : ∃ d, 1 ≤ d ∧ d ≤ m ∧ ind (fpw P m a) d ∧ sp (fpw P m a) d (fpw P m a d) := by
  have key : ∃ d, d ≤ m ∧ sp (fpw P m a) d (fpw P m a d) := by
    by_cases h : ind (fpw P m a) m
    · exact ⟨m, Nat.le_refl m, sp_iff.mpr (ind_all h (fun i _ => fpw_lt hg ha i) (fpw_lt hg ha m))⟩
    · obtain ⟨i, hi⟩ := Classical.not_forall.mp h
      obtain ⟨hi, hs⟩ := Classical.not_imp.mp hi
      exact ⟨i, by omega, Classical.not_not.mp hs⟩
  have step : ∀ n, ind (fpw P m a) n ∨ ∃ d, d < n ∧ ind (fpw P m a) d ∧ sp (fpw P m a) d (fpw P m a d) := by
    intro n
    induction n with
    | zero => exact Or.inl (fun i hi => absurd hi (Nat.not_lt_zero i))
    | succ n ih =>
      rcases ih with ih | ⟨d, h1, h2⟩
      · by_cases hs : sp (fpw P m a) n (fpw P m a n)
        · exact Or.inr ⟨n, by omega, ih, hs⟩
        · exact Or.inl (fun i hi => by
            by_cases e : i = n
            · rw [e]; exact hs
            · exact ih i (by omega))
      · exact Or.inr ⟨d, by omega, h2⟩
  obtain ⟨d, hd, hs⟩ := key
  have h0 : ∀ d, sp (fpw P m a) d (fpw P m a d) → 1 ≤ d := by
    intro d hs
    apply Nat.pos_of_ne_zero
    rintro rfl
    exact absurd (show (1 : Nat) = 0 from hs) (by decide)
  rcases step (d + 1) with h | ⟨e, h1, h2, h3⟩
  · exact absurd hs (h d (by omega))
  · exact ⟨e, h0 e h3, by omega, h2, h3⟩
/-- LEAST: the polynomial -/
theorem zlp_ex {P m a d c : Nat} (hg : fgood P m) (ha : a < 2 ^ m) (hd1 : 1 ≤ d) (hd : d ≤ m) (hi : ind (fpw P m a) d) (hc : c < 2 ^ d) (e : zcb (fpw P m a) d c = fpw P m a d) : zva P m a (2 ^ d + c) = 0 ∧ ∀ p, 2 ≤ p → p < 2 ^ d + c → zva P m a p ≠ 0 := by
  have h8 := hg.2.1
  have lo : ∀ n p, n ≤ 9 → p < 2 ^ n → zva P m a p = zcb (fpw P m a) n p := by
    intro n p hn hp
    have h2 := zcb_lo (fpw P m a) (n := n) (k := 9 - n) hp
    rw [show n + (9 - n) = 9 by omega] at h2
    exact h2
  have hi2 : ∀ c', c' < 2 ^ d → 2 ^ d + c' = c' ^^^ 2 ^ d := by
    intro c' hc'
    have := Nat.two_pow_add_eq_or_of_lt hc' 1
    rw [Nat.mul_one] at this
    rw [this, Nat.xor_comm]
    apply Nat.eq_of_testBit_eq
    intro i
    rw [Nat.testBit_or, Nat.testBit_xor]
    by_cases q : i = d
    · subst q
      rw [Nat.testBit_lt_two_pow hc', Nat.testBit_two_pow_self]; rfl
    · rw [Nat.testBit_two_pow_of_ne (by omega)]; cases c'.testBit i <;> rfl
  have val : ∀ c', c' < 2 ^ d → zva P m a (2 ^ d + c') = zcb (fpw P m a) d c' ^^^ fpw P m a d := by
    intro c' hc'
    rw [lo (d + 1) _ (by omega) (by rw [Nat.pow_succ]; omega), hi2 c' hc', zcb_x, zcb_bit, zcb_lo _ (k := 1) hc']
  refine ⟨by rw [val c hc, e, Nat.xor_self], fun p h1 h2 q => ?_⟩
  by_cases hp : p < 2 ^ d
  · rw [lo d p (by omega) hp] at q
    have := ind_zero hi hp q
    omega
  · obtain ⟨c', rfl⟩ : ∃ c', p = 2 ^ d + c' := ⟨p - 2 ^ d, by omega⟩
    have hc' : c' < 2 ^ d := by omega
    rw [val c' hc', ← e] at q
    have := ind_inj hi hc' hc (zx_eq q)
    omega
def zlst (P m a : Nat) : Option Nat := zfst (fun p => Nat.beq (zva P m a p) 0) 510 2
theorem zlst_some {P m a : Nat} (hg : fgood P m) (ha : a < 2 ^ m) : ∃ d c, 1 ≤ d ∧ d ≤ m ∧ ind (fpw P m a) d ∧ c < 2 ^ d ∧ zcb (fpw P m a) d c = fpw P m a d ∧ zlst P m a = some (2 ^ d + c) := by
  obtain ⟨d, h1, h2, h3, h4⟩ := zld_ex hg ha
  obtain ⟨c, h5, h6⟩ := sp_iff.mp h4
  obtain ⟨h7, h8⟩ := zlp_ex hg ha h1 h2 h3 h5 h6
  refine ⟨d, c, h1, h2, h3, h5, h6, ?_⟩
  have h9 := hg.2.1
  have hd : 2 ^ d ≤ 2 ^ 8 := Nat.pow_le_pow_right (by decide) (by omega)
  have hd2 : 2 ^ 1 ≤ 2 ^ d := Nat.pow_le_pow_right (by decide) h1
  cases q : zlst P m a with
  | none =>
    have := zfst_none.mp q (2 ^ d + c) (by omega) (by omega)
    rw [h7] at this
    cases this
  | some x =>
    obtain ⟨a1, a2, a3, a4⟩ := zfst_some q
    congr 1
    rcases Nat.lt_trichotomy x (2 ^ d + c) with r | r | r
    · exact absurd (Nat.eq_of_beq_eq_true a3) (h8 x a1 r)
    · exact r
    · have := a4 _ (by omega) r
      rw [h7] at this
      cases this
def k_least (σ : zSg) (x : Int32) : Int32 × zSg := if zel (2 ^ σ.1.2.1) x = true then (match zlst σ.1.1 σ.1.2.1 (zu x) with
  | some p => (nI p, zrw σ (zr2 (nI p.log2) (nI (p / 2 ^ (p.log2 - 1) % 2))))
  | none => (-1, σ)) else (-1, σ)
theorem c_X10_least_17 {a x : Nat} (h : zP M0 σ M) (ha : a < 2 ^ σ.1.2.1) (hx2 : 2 ≤ x) (hx : x < 512) (h0 : zva σ.1.1 σ.1.2.1 a x = 0) : ∀ (f p : Nat) (o : Option Value), p + f = x → (∀ y, p ≤ y → y < x → zva σ.1.1 σ.1.2.1 a y ≠ 0) → ∃ M', mq_G mq_X10_least (17, [some (.ref 77), some (.int (nI a)), some (.int (nI p)), o], [], M) (some (.int (nI x)), M') ∧ zP M0 (zrw σ (zr2 (nI x.log2) (nI (x / 2 ^ (x.log2 - 1) % 2)))) M'
  | 0, p, o, hp, hn => by
    obtain rfl : p = x := by omega
    have hd : zdeg (nI p) = nI p.log2 := zlog_deg (by omega) (by omega)
    have hl : 1 ≤ p.log2 := (Nat.le_log2 (by omega)).mpr hx2
    have hl2 : p.log2 < 9 := (Nat.log2_lt (by omega)).mpr hx
    obtain ⟨M1, M2, M3, e1, g1, g2, g3, -⟩ := s_tell2 h (nI p.log2) (nI (p / 2 ^ (p.log2 - 1) % 2))
    refine ⟨M3, t_X10_least_17 _ _ _ _ ⟨_, s_X10_rooted9 h.F ha hx, fun _ => ⟨_, s_X10_degree M _, fun M4 e4 => ?_⟩, fun c => absurd (by rw [h0]; rfl) c⟩, g3⟩
    obtain rfl := e4.trans e1
    rw [hd]
    refine ⟨M2, g1, M3, ?_, rfl⟩
    rw [show nI p.log2 - 1 = nI (p.log2 - 1) from zn_sub (b := 1) hl, zn_bit (by omega) (by omega)]
    exact g2
  | f + 1, p, o, hp, hn => by
    have hq := h.q
    obtain ⟨M', k1, k2⟩ := c_X10_least_17 h ha hx2 hx h0 f (p + 1) o (by omega) (fun y h1 h2 => hn y (by omega) h2)
    refine ⟨M', t_X10_least_17 _ _ _ _ ⟨_, s_X10_rooted9 h.F ha (by omega), fun c => ?_, fun _ => ?_⟩, k2⟩
    · have := zva_lt (p := p) h.g ha
      rw [zn_eq0 (by omega)] at c
      exact absurd c (hn p (Nat.le_refl _) (by omega))
    · rw [nI_1]; exact k1
theorem c_X10_least (h : zP M0 σ M) (x : Int32) : zA M0 mq_X10_least [.ref 77, .int x] M (k_least σ x) := by
  obtain ⟨M1, eM, h1, -⟩ := h.thr
  have hq := h.q
  by_cases he : zel (2 ^ σ.1.2.1) x = true
  · simp only [zA, k_least, he, if_true]
    obtain ⟨a, ha, rfl⟩ := h1.en he
    rw [zu_nI (by omega)]
    obtain ⟨d, c, q1, q2, q3, q4, q5, q6⟩ := zlst_some h.g ha
    have hd : 2 ^ d ≤ 2 ^ 8 := Nat.pow_le_pow_right (by decide) (by have := h.g.2.1; omega)
    have hd2 : 2 ^ 1 ≤ 2 ^ d := Nat.pow_le_pow_right (by decide) q1
    obtain ⟨r1, r2⟩ := zlp_ex h.g ha q1 q2 q3 q4 q5
    rw [q6]
    obtain ⟨M', k1, k2⟩ := c_X10_least_17 h1 ha (x := 2 ^ d + c) (by omega) (by omega) r1 (2 ^ d + c - 2) 2 none (by omega) (fun y h1 h2 => r2 y h1 h2)
    refine ⟨M', t_X10_least_0 _ _ (fun M2 e2 => ?_), k2⟩
    obtain rfl := e2.trans eM
    exact ⟨1, h1.el1 he, fun _ => k1, fun c => absurd z10 c⟩
  · simp only [zA, k_least, he]
    refine ⟨M1, t_X10_least_0 _ _ (fun M2 e2 => ?_), h1⟩
    obtain rfl := e2.trans eM
    exact ⟨0, h1.el0 he, fun c => absurd rfl c, fun _ => rfl⟩
/-! solves, log, traced -/
def zsv (P m a : Nat) : Option Nat := zfst (fun x => Nat.beq (fm P m x x ^^^ x) a) (2 ^ m) 0
def k_solves (σ : zSg) (x : Int32) : Int32 × zSg := if zel (2 ^ σ.1.2.1) x = true then (match zsv σ.1.1 σ.1.2.1 (zu x) with
  | some y => (nI y, zrw σ (zr1 (nI (y ^^^ 1))))
  | none => (-2, σ)) else (-1, σ)
theorem c_X10_solves_17 {a : Nat} (h : zP M0 σ M) (ha : a < 2 ^ σ.1.2.1) : ∀ (f y : Nat), y + f = 2 ^ σ.1.2.1 → ∃ M', mq_G mq_X10_solves (17, [some (.ref 77), some (.int (nI a)), some (.int (nI y))], [], M) (some (.int (match zfst (fun x => Nat.beq (fm σ.1.1 σ.1.2.1 x x ^^^ x) a) f y with
  | some y => (nI y, zrw σ (zr1 (nI (y ^^^ 1))))
  | none => (-2, σ)).1), M') ∧ zP M0 (match zfst (fun x => Nat.beq (fm σ.1.1 σ.1.2.1 x x ^^^ x) a) f y with
  | some y => (nI y, zrw σ (zr1 (nI (y ^^^ 1))))
  | none => (-2, σ)).2 M'
  | 0, y, hy => by
    have hq := h.q
    refine ⟨M, t_X10_solves_17 _ _ _ ⟨fun _ => rfl, fun c => absurd ?_ c⟩, h⟩
    rw [h.F.2.2.2, zn_le (by omega) (by omega)]
    omega
  | f + 1, y, hy => by
    have hq := h.q
    have hl := fm_lt h.g (b := y) (show y < 2 ^ σ.1.2.1 by omega)
    have hx := Nat.xor_lt_two_pow hl (show y < 2 ^ σ.1.2.1 by omega)
    have hge : ¬ (M.1 77 12 ≤ nI y) := by
      rw [h.F.2.2.2, zn_le (by omega) (by omega)]
      omega
    unfold zfst
    by_cases e : fm σ.1.1 σ.1.2.1 y y ^^^ y = a
    · rw [if_pos (by rw [e]; exact Nat.beq_refl a)]
      obtain ⟨M3, M4, e3, g1, g2, -, -⟩ := s_tell1 h (nI (y ^^^ 1))
      refine ⟨M4, t_X10_solves_17 _ _ _ ⟨fun c => absurd c hge, fun _ => ⟨_, s_X10_times M h.g h.F.2.1 (by omega) (by omega), fun _ M5 e5 => ?_, fun c => absurd (by rw [zn_xor, e]) c⟩⟩, g2⟩
      obtain rfl := e5.trans e3
      refine ⟨M4, ?_, rfl⟩
      rw [show (1 : Int32) = nI 1 from rfl, zn_xor]
      exact g1
    · rw [if_neg (fun q => e (Nat.eq_of_beq_eq_true q))]
      obtain ⟨M', k1, k2⟩ := c_X10_solves_17 h ha f (y + 1) (by omega)
      refine ⟨M', t_X10_solves_17 _ _ _ ⟨fun c => absurd c hge, fun _ => ⟨_, s_X10_times M h.g h.F.2.1 (by omega) (by omega), fun c => ?_, fun _ => ?_⟩⟩, k2⟩
      · rw [zn_xor, zn_eq (by omega) (by omega)] at c
        exact absurd c e
      · rw [nI_1]; exact k1
theorem c_X10_solves (h : zP M0 σ M) (x : Int32) : zA M0 mq_X10_solves [.ref 77, .int x] M (k_solves σ x) := by
  obtain ⟨M1, eM, h1, -⟩ := h.thr
  have hq := h.q
  by_cases he : zel (2 ^ σ.1.2.1) x = true
  · simp only [zA, k_solves, he, if_true]
    obtain ⟨a, ha, rfl⟩ := h1.en he
    rw [zu_nI (by omega)]
    obtain ⟨M', k1, k2⟩ := c_X10_solves_17 h1 ha (2 ^ σ.1.2.1) 0 (by omega)
    refine ⟨M', t_X10_solves_0 _ _ (fun M2 e2 => ?_), k2⟩
    obtain rfl := e2.trans eM
    exact ⟨1, h1.el1 he, fun _ => k1, fun c => absurd z10 c⟩
  · simp only [zA, k_solves, he]
    refine ⟨M1, t_X10_solves_0 _ _ (fun M2 e2 => ?_), h1⟩
    obtain rfl := e2.trans eM
    exact ⟨0, h1.el0 he, fun c => absurd rfl c, fun _ => rfl⟩
def zlg (P m a b : Nat) : Option Nat := zfst (fun n => Nat.beq (fpw P m a n) b) (2 ^ m) 0
def zN2 (o : Option Nat) : Int32 := match o with
  | some n => nI n
  | none => -2
def k_log (σ : zSg) (x y : Int32) : Int32 × zSg := if zel (2 ^ σ.1.2.1) x = true then (if zel (2 ^ σ.1.2.1) y = true then (zN2 (zlg σ.1.1 σ.1.2.1 (zu x) (zu y)), σ) else (-1, σ)) else (-1, σ)
theorem c_X10_log_28 {a b : Nat} (h : zP M0 σ M) (ha : a < 2 ^ σ.1.2.1) (hb : b < 2 ^ σ.1.2.1) : ∀ (f n : Nat), n + f = 2 ^ σ.1.2.1 → mq_G mq_X10_log (28, [some (.ref 77), some (.int (nI a)), some (.int (nI b)), some (.int (nI (fpw σ.1.1 σ.1.2.1 a n))), some (.int (nI n))], [], M) (some (.int (zN2 (zfst (fun n => Nat.beq (fpw σ.1.1 σ.1.2.1 a n) b) f n))), M)
  | 0, n, hn => by
    have hq := h.q
    refine t_X10_log_28 _ _ _ _ _ ⟨fun _ => rfl, fun c => absurd ?_ c⟩
    rw [h.F.2.2.2, zn_le (by omega) (by omega)]
    omega
  | f + 1, n, hn => by
    have hq := h.q
    have hl := fpw_lt h.g ha n
    unfold zfst
    refine t_X10_log_28 _ _ _ _ _ ⟨fun c => ?_, fun _ => ⟨fun c => ⟨_, s_X10_times M h.g h.F.2.1 hl ha, ?_⟩, fun c => ?_⟩⟩
    · rw [h.F.2.2.2, zn_le (by omega) (by omega)] at c
      omega
    · rw [zn_eq (by omega) (by omega)] at c
      rw [if_neg (fun q => c (Nat.eq_of_beq_eq_true q)), nI_1]
      exact c_X10_log_28 h ha hb f (n + 1) (by omega)
    · rw [zn_eq (by omega) (by omega)] at c
      rw [if_pos (by rw [Classical.not_not.mp c]; exact Nat.beq_refl b)]
      rfl
theorem c_X10_log (h : zP M0 σ M) (x y : Int32) : zA M0 mq_X10_log [.ref 77, .int x, .int y] M (k_log σ x y) := by
  obtain ⟨M1, eM, h1, -⟩ := h.thr
  have hq := h.q
  by_cases he : zel (2 ^ σ.1.2.1) x = true
  · by_cases hf : zel (2 ^ σ.1.2.1) y = true
    · simp only [zA, k_log, he, hf, if_true]
      refine ⟨M1, t_X10_log_0 _ _ _ (fun M2 e2 => ?_), h1⟩
      obtain rfl := e2.trans eM
      refine ⟨1, h1.el1 he, fun c => absurd c z10, fun _ => ⟨1, h1.el1 hf, fun _ => ?_, fun c => absurd z10 c⟩⟩
      obtain ⟨a, ha, rfl⟩ := h1.en he
      obtain ⟨b, hb, rfl⟩ := h1.en hf
      rw [zu_nI (by omega), zu_nI (by omega)]
      exact c_X10_log_28 h1 ha hb _ 0 (by omega)
    · simp only [zA, k_log, he, hf, if_true]
      refine ⟨M1, t_X10_log_0 _ _ _ (fun M2 e2 => ?_), h1⟩
      obtain rfl := e2.trans eM
      exact ⟨1, h1.el1 he, fun c => absurd c z10, fun _ => ⟨0, h1.el0 hf, fun c => absurd rfl c, fun _ => rfl⟩⟩
  · simp only [zA, k_log, he]
    refine ⟨M1, t_X10_log_0 _ _ _ (fun M2 e2 => ?_), h1⟩
    obtain rfl := e2.trans eM
    exact ⟨0, h1.el0 he, fun _ => rfl, fun c => absurd rfl c⟩
theorem zm1 {n : Nat} (h : 0 < n) : nI n - 1 = nI n + (-1) := by
  obtain ⟨k, rfl⟩ : ∃ k, n = k + 1 := ⟨n - 1, by omega⟩
  rw [zn_m1]
  exact zn_sub (b := 1) (by omega)
def ztd (P m d v : Nat) (a : Nat) : Bool := Nat.beq (ztr P m a d 8 0 0) v
def k_traced (σ : zSg) (x y : Int32) : Int32 × zSg := if zpt σ.1.2.1 x = true then (if zel (2 ^ σ.1.2.1) y = true then (nI (zcnt (ztd σ.1.1 σ.1.2.1 (zu x) (zu y)) (2 ^ σ.1.2.1) 0), zrw σ (zr1 (zNo (zfst (ztd σ.1.1 σ.1.2.1 (zu x) (zu y)) (2 ^ σ.1.2.1) 0)))) else (-1, σ)) else (-1, σ)
theorem c_X10_traced_36 {d v : Nat} (h : zP M0 σ M) (hd0 : 0 < d) (hd8 : d ≤ 8) (hv : v < 2 ^ σ.1.2.1) : ∀ (a f : Nat), a + f = 2 ^ σ.1.2.1 → ∃ M', mq_G mq_X10_traced (36, [some (.ref 77), some (.int (nI d)), some (.int (nI v)), some (.int (nI (zcnt (ztd σ.1.1 σ.1.2.1 d v) f a))), some (.int (zNo (zfst (ztd σ.1.1 σ.1.2.1 d v) f a))), some (.int (nI a + (-1)))], [], M) (some (.int (nI (zcnt (ztd σ.1.1 σ.1.2.1 d v) (2 ^ σ.1.2.1) 0))), M') ∧ zP M0 (zrw σ (zr1 (zNo (zfst (ztd σ.1.1 σ.1.2.1 d v) (2 ^ σ.1.2.1) 0)))) M'
  | 0, f, hf => by
    obtain rfl : f = 2 ^ σ.1.2.1 := by omega
    obtain ⟨M3, M4, e3, g1, g2, -, -⟩ := s_tell1 h (zNo (zfst (ztd σ.1.1 σ.1.2.1 d v) (2 ^ σ.1.2.1) 0))
    refine ⟨M4, t_X10_traced_36 _ _ _ _ _ _ ⟨fun _ M2 e2 => ?_, fun c => absurd (by decide) c⟩, g2⟩
    obtain rfl := e2.trans e3
    exact ⟨M4, g1, rfl⟩
  | a + 1, f, hf => by
    have hq := h.q
    have ha : a < 2 ^ σ.1.2.1 := by omega
    have ht : ztr σ.1.1 σ.1.2.1 a d 8 0 0 < 2 ^ σ.1.2.1 := ztr_lt h.g ha _ _ _ (Nat.two_pow_pos _)
    obtain ⟨M', k1, k2⟩ := c_X10_traced_36 h hd0 hd8 hv a (f + 1) (by omega)
    refine ⟨M', t_X10_traced_36 _ _ _ _ _ _ ?_, k2⟩
    rw [zn_m1]
    refine ⟨fun c => absurd c (Int32.not_lt.mpr (zn_ge0 (by omega))), fun _ => ⟨_, s_X10_traceTo h.F ha hd0 hd8, fun c => ?_, fun c => ?_⟩⟩
    · rw [zn_eq (by omega) (by omega)] at c
      have e : ztd σ.1.1 σ.1.2.1 d v a = true := by unfold ztd; rw [c]; exact Nat.beq_refl v
      rw [zcnt_t e, zfst_t e] at k1
      rw [nI_1]
      exact k1
    · rw [zn_eq (by omega) (by omega)] at c
      have e : ¬ ztd σ.1.1 σ.1.2.1 d v a = true := fun q => c (Nat.eq_of_beq_eq_true q)
      rw [zcnt_f e, zfst_f e] at k1
      exact k1
theorem c_X10_traced (h : zP M0 σ M) (x y : Int32) : zA M0 mq_X10_traced [.ref 77, .int x, .int y] M (k_traced σ x y) := by
  obtain ⟨M1, eM, h1, -⟩ := h.thr
  have hq := h.q
  have hq0 := Nat.two_pow_pos σ.1.2.1
  by_cases he : zpt σ.1.2.1 x = true
  · by_cases hf : zel (2 ^ σ.1.2.1) y = true
    · simp only [zA, k_traced, he, hf, if_true]
      obtain ⟨d, hd0, hdm, hd8, hd, rfl⟩ := h1.ptn he
      obtain ⟨b, hb, rfl⟩ := h1.en hf
      rw [zu_nI (by omega), zu_nI (by omega)]
      obtain ⟨M', k1, k2⟩ := c_X10_traced_36 h1 hd0 hd8 hb (2 ^ σ.1.2.1) 0 rfl
      refine ⟨M', t_X10_traced_0 _ _ _ (fun M2 e2 => ?_), k2⟩
      obtain rfl := e2.trans eM
      refine ⟨1, h1.pt1 he, fun c => absurd c z10, fun _ => ⟨1, h1.el1 hf, fun _ => ?_, fun c => absurd z10 c⟩⟩
      rw [h1.F.2.2.2, zm1 hq0]
      exact k1
    · simp only [zA, k_traced, he, hf, if_true]
      refine ⟨M1, t_X10_traced_0 _ _ _ (fun M2 e2 => ?_), h1⟩
      obtain rfl := e2.trans eM
      exact ⟨1, h1.pt1 he, fun c => absurd c z10, fun _ => ⟨0, h1.el0 hf, fun c => absurd rfl c, fun _ => rfl⟩⟩
  · simp only [zA, k_traced, he]
    refine ⟨M1, t_X10_traced_0 _ _ _ (fun M2 e2 => ?_), h1⟩
    obtain rfl := e2.trans eM
    exact ⟨0, h1.pt0 he, fun _ => rfl, fun c => absurd rfl c⟩
end ZC2
