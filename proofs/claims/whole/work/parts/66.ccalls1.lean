/-! calls of the class: the field -/
theorem ycnt_t {p : Nat → Bool} {k a x : Nat} (e : a + k = x) (h : p x = true) : zcnt p (k + 1) a = zcnt p k a + 1 := by
  subst e
  rw [zcnt_r, if_pos h]
theorem ycnt_f {p : Nat → Bool} {k a x : Nat} (e : a + k = x) (h : ¬ p x = true) : zcnt p (k + 1) a = zcnt p k a := by
  subst e
  rw [zcnt_r, if_neg h, Nat.add_zero]
theorem yfst_f {p : Nat → Bool} {k a x : Nat} (e : a + k = x) (h : ¬ p x = true) : zfst p (k + 1) a = zfst p k a := by
  subst e
  rw [zfst_r]
  cases zfst p k a with
  | none => exact if_neg h
  | some y => rfl
theorem yfst_s {p : Nat → Bool} {k a : Nat} (h : ¬ zfst p k a = none) : zfst p (k + 1) a = zfst p k a := by
  rw [zfst_r]
  cases q : zfst p k a with
  | none => exact absurd q h
  | some y => rfl
theorem yfst_n {p : Nat → Bool} {k a x : Nat} (e : a + k = x) (h0 : zfst p k a = none) (h : p x = true) : zfst p (k + 1) a = some x := by
  subst e
  rw [zfst_r, h0]
  exact if_pos h
/-- the first one so far is told by -1 just where there is none -/
theorem yfst_m1 {p : Nat → Bool} {k a : Nat} (h : a + k < 2 ^ 31) : zNo (zfst p k a) = -1 ↔ zfst p k a = none := zNo_m1 (fun x e => by have := zfst_some e; omega)
section CC1
variable {M0 M M' : mz_M} {σ : zSg}
theorem c_X9_product (h : zC M0 σ M) (x y : Int32) : zE M0 mq_X9_product [.ref 0, .int x, .int y] M (k_product σ x y) := by
  have hq := h.q
  have h8 := h.g.2.1
  have h2 := h.g.1
  have hg := h.g
  by_cases g0 : zel (2 ^ σ.1.2.1) x = true
  · by_cases g1 : zel (2 ^ σ.1.2.1) y = true
    · simp only [zE, k_product, g0, g1, if_true]
      obtain ⟨a, ha, rfl⟩ := h.en g0
      obtain ⟨b, hb, rfl⟩ := h.en g1
      rw [zu_nI (by omega), zu_nI (by omega)]
      exact ⟨M, t_X9_product_0 _ _ _ ⟨1, h.el1 g0, fun c => absurd c z10, fun _ => ⟨1, h.el1 g1, fun c => absurd c z10, fun _ => ⟨_, h.F.t ha hb, rfl⟩⟩⟩, h⟩
    · simp only [zE, k_product, g0, g1, if_true]
      exact ⟨M, t_X9_product_0 _ _ _ ⟨1, h.el1 g0, fun c => absurd c z10, fun _ => ⟨0, h.el0 g1, fun _ => rfl, fun c => absurd rfl c⟩⟩, h⟩
  · simp only [zE, k_product, g0]
    exact ⟨M, t_X9_product_0 _ _ _ ⟨0, h.el0 g0, fun _ => rfl, fun c => absurd rfl c⟩, h⟩
theorem c_X9_inverse (h : zC M0 σ M) (x : Int32) : zE M0 mq_X9_inverse [.ref 0, .int x] M (k_inverse σ x) := by
  have hq := h.q
  have h8 := h.g.2.1
  have h2 := h.g.1
  have hg := h.g
  by_cases g0 : zel (2 ^ σ.1.2.1) x = true
  · simp only [zE, k_inverse, g0, if_true]
    obtain ⟨a, ha, rfl⟩ := h.en g0
    by_cases hx : nI a = 0
    · rw [if_pos hx]
      exact ⟨M, t_X9_inverse_0 _ _ ⟨1, h.el1 g0, fun _ => ⟨fun c => absurd hx c, fun _ => rfl⟩, fun c => absurd z10 c⟩, h⟩
    · have h0 : 0 < a := by rw [zn_eq0 (by omega)] at hx; omega
      rw [if_neg hx, zu_nI (by omega)]
      obtain ⟨g, hG⟩ := h.fg
      exact ⟨M, t_X9_inverse_0 _ _ ⟨1, h.el1 g0, fun _ => ⟨fun _ => ⟨_, s_X0_turned hG h0 ha, rfl⟩, fun c => absurd hx c⟩, fun c => absurd z10 c⟩, h⟩
  · simp only [zE, k_inverse, g0]
    exact ⟨M, t_X9_inverse_0 _ _ ⟨0, h.el0 g0, fun c => absurd rfl c, fun _ => rfl⟩, h⟩
theorem c_X9_power (h : zC M0 σ M) (x y : Int32) : zE M0 mq_X9_power [.ref 0, .int x, .int y] M (k_power σ x y) := by
  have hq := h.q
  have h8 := h.g.2.1
  have h2 := h.g.1
  have hg := h.g
  by_cases g0 : zel (2 ^ σ.1.2.1) x = true
  · simp only [zE, k_power, g0, if_true]
    obtain ⟨a, ha, rfl⟩ := h.en g0
    by_cases g1 : zbt 0 1000000000 y = true
    · rw [if_pos g1]
      obtain ⟨n, -, hn, rfl⟩ := zbtn (a := 0) (b := 1000000000) (by decide) (by decide) g1
      rw [zu_nI (by omega), zu_nI (by omega)]
      obtain ⟨g, hG⟩ := h.fg
      exact ⟨M, t_X9_power_0 _ _ _ ⟨1, h.el1 g0, fun c => absurd c z10, fun _ => ⟨fun c => absurd c (nI_pos (by omega)), fun _ => ⟨fun _ => ⟨_, s_X0_raised hG ha (by omega), rfl⟩, fun c => absurd (zbt_iff.mp g1).2 c⟩⟩⟩, h⟩
    · rw [if_neg g1]
      exact ⟨M, t_X9_power_0 _ _ _ ⟨1, h.el1 g0, fun c => absurd c z10, fun _ => ⟨fun _ => rfl, fun c => ⟨fun d => absurd (zbt_iff.mpr ⟨Int32.not_lt.mp c, d⟩) g1, fun _ => rfl⟩⟩⟩, h⟩
  · simp only [zE, k_power, g0]
    exact ⟨M, t_X9_power_0 _ _ _ ⟨0, h.el0 g0, fun _ => rfl, fun c => absurd rfl c⟩, h⟩
theorem c_X9_conjugate (h : zC M0 σ M) (x y : Int32) : zE M0 mq_X9_conjugate [.ref 0, .int x, .int y] M (k_conjugate σ x y) := by
  have hq := h.q
  have h8 := h.g.2.1
  have h2 := h.g.1
  have hg := h.g
  by_cases g0 : zel (2 ^ σ.1.2.1) x = true
  · simp only [zE, k_conjugate, g0, if_true]
    obtain ⟨a, ha, rfl⟩ := h.en g0
    by_cases g1 : zbt 0 100 y = true
    · rw [if_pos g1]
      obtain ⟨n, -, hn, rfl⟩ := zbtn (a := 0) (b := 100) (by decide) (by decide) g1
      rw [zu_nI (by omega), zu_nI (by omega)]
      obtain ⟨g, hG⟩ := h.fg
      exact ⟨M, t_X9_conjugate_0 _ _ _ ⟨1, h.el1 g0, fun c => absurd c z10, fun _ => ⟨fun c => absurd c (nI_pos (by omega)), fun _ => ⟨fun _ => ⟨_, s_X0_squared hG ha (by omega), rfl⟩, fun c => absurd (zbt_iff.mp g1).2 c⟩⟩⟩, h⟩
    · rw [if_neg g1]
      exact ⟨M, t_X9_conjugate_0 _ _ _ ⟨1, h.el1 g0, fun c => absurd c z10, fun _ => ⟨fun _ => rfl, fun c => ⟨fun d => absurd (zbt_iff.mpr ⟨Int32.not_lt.mp c, d⟩) g1, fun _ => rfl⟩⟩⟩, h⟩
  · simp only [zE, k_conjugate, g0]
    exact ⟨M, t_X9_conjugate_0 _ _ _ ⟨0, h.el0 g0, fun _ => rfl, fun c => absurd rfl c⟩, h⟩
theorem c_X9_trace (h : zC M0 σ M) (x y : Int32) : zE M0 mq_X9_trace [.ref 0, .int x, .int y] M (k_trace σ x y) := by
  have hq := h.q
  have h8 := h.g.2.1
  have h2 := h.g.1
  have hg := h.g
  by_cases g0 : zel (2 ^ σ.1.2.1) x = true
  · by_cases g1 : zpt σ.1.2.1 y = true
    · simp only [zE, k_trace, g0, g1, if_true]
      obtain ⟨a, ha, rfl⟩ := h.en g0
      obtain ⟨d, hd0, hdm, hd8, hd, rfl⟩ := h.ptn g1
      rw [zu_nI (by omega), zu_nI (by omega)]
      obtain ⟨g, hG⟩ := h.fg
      exact ⟨M, t_X9_trace_0 _ _ _ ⟨1, h.el1 g0, fun c => absurd c z10, fun _ => ⟨1, h.pt1 g1, fun c => absurd c z10, fun _ => ⟨_, s_X0_tracedTo hG ha hd0 hd8, rfl⟩⟩⟩, h⟩
    · simp only [zE, k_trace, g0, g1, if_true]
      exact ⟨M, t_X9_trace_0 _ _ _ ⟨1, h.el1 g0, fun c => absurd c z10, fun _ => ⟨0, h.pt0 g1, fun _ => rfl, fun c => absurd rfl c⟩⟩, h⟩
  · simp only [zE, k_trace, g0]
    exact ⟨M, t_X9_trace_0 _ _ _ ⟨0, h.el0 g0, fun _ => rfl, fun c => absurd rfl c⟩, h⟩
theorem c_X9_norm (h : zC M0 σ M) (x y : Int32) : zE M0 mq_X9_norm [.ref 0, .int x, .int y] M (k_norm σ x y) := by
  have hq := h.q
  have h8 := h.g.2.1
  have h2 := h.g.1
  have hg := h.g
  by_cases g0 : zel (2 ^ σ.1.2.1) x = true
  · by_cases g1 : zpt σ.1.2.1 y = true
    · simp only [zE, k_norm, g0, g1, if_true]
      obtain ⟨a, ha, rfl⟩ := h.en g0
      obtain ⟨d, hd0, hdm, hd8, hd, rfl⟩ := h.ptn g1
      rw [zu_nI (by omega), zu_nI (by omega)]
      obtain ⟨g, hG⟩ := h.fg
      exact ⟨M, t_X9_norm_0 _ _ _ ⟨1, h.el1 g0, fun c => absurd c z10, fun _ => ⟨1, h.pt1 g1, fun c => absurd c z10, fun _ => ⟨_, s_X0_normedTo hG ha hd0 hd8, rfl⟩⟩⟩, h⟩
    · simp only [zE, k_norm, g0, g1, if_true]
      exact ⟨M, t_X9_norm_0 _ _ _ ⟨1, h.el1 g0, fun c => absurd c z10, fun _ => ⟨0, h.pt0 g1, fun _ => rfl, fun c => absurd rfl c⟩⟩, h⟩
  · simp only [zE, k_norm, g0]
    exact ⟨M, t_X9_norm_0 _ _ _ ⟨0, h.el0 g0, fun _ => rfl, fun c => absurd rfl c⟩, h⟩
theorem c_X9_root (h : zC M0 σ M) (x : Int32) : zE M0 mq_X9_root [.ref 0, .int x] M (k_root σ x) := by
  have hq := h.q
  have h8 := h.g.2.1
  have h2 := h.g.1
  have hg := h.g
  by_cases g0 : zel (2 ^ σ.1.2.1) x = true
  · simp only [zE, k_root, g0, if_true]
    obtain ⟨a, ha, rfl⟩ := h.en g0
    rw [zu_nI (by omega)]
    exact ⟨M, t_X9_root_0 _ _ ⟨1, h.el1 g0, fun c => absurd c z10, fun _ => ⟨nI (cj σ.1.1 σ.1.2.1 a (σ.1.2.1 - 1)), by rw [h.m1, zs1 (by omega)]; exact h.F.sq ha (by omega), rfl⟩⟩, h⟩
  · simp only [zE, k_root, g0]
    exact ⟨M, t_X9_root_0 _ _ ⟨0, h.el0 g0, fun _ => rfl, fun c => absurd rfl c⟩, h⟩
theorem c_X9_order (h : zC M0 σ M) (x : Int32) : zE M0 mq_X9_order [.ref 0, .int x] M (k_order σ x) := by
  have hq := h.q
  have h8 := h.g.2.1
  have h2 := h.g.1
  have hg := h.g
  by_cases g0 : zel (2 ^ σ.1.2.1) x = true
  · simp only [zE, k_order, g0, if_true]
    obtain ⟨a, ha, rfl⟩ := h.en g0
    by_cases hx : nI a = 0
    · rw [if_pos hx]
      exact ⟨M, t_X9_order_0 _ _ ⟨1, h.el1 g0, fun _ => ⟨fun c => absurd hx c, fun _ => rfl⟩, fun c => absurd z10 c⟩, h⟩
    · have h0 : 0 < a := by rw [zn_eq0 (by omega)] at hx; omega
      rw [if_neg hx, zu_nI (by omega)]
      obtain ⟨g, hG⟩ := h.fg
      have hz := (zord_spec hg hG.2.1 h0 ha).2.2.1
      obtain ⟨M1, M2, e1, e2, e3, -, e5, -⟩ := s_cput1 h (zB (zgen σ.1.1 σ.1.2.1 a))
      refine ⟨M2, t_X9_order_0 _ _ ⟨1, h.el1 g0, fun _ => ⟨fun _ => ⟨_, s_X0_orderOf hG h0 ha, M1, e1, ?_⟩, fun c => absurd hx c⟩, fun c => absurd z10 c⟩, e3⟩
      rw [e5 2 (by decide), h.m2, zs1 (by omega), zn_eq (by omega) (by omega)]
      refine ⟨fun c => ⟨M2, ?_, rfl⟩, fun c => ⟨M2, ?_, rfl⟩⟩
      · rw [show zgen σ.1.1 σ.1.2.1 a = false from decide_eq_false (fun q => c q.2)] at e2
        exact e2
      · rw [show zgen σ.1.1 σ.1.2.1 a = true from decide_eq_true ⟨h0, Classical.not_not.mp c⟩] at e2
        exact e2
  · simp only [zE, k_order, g0]
    exact ⟨M, t_X9_order_0 _ _ ⟨0, h.el0 g0, fun c => absurd rfl c, fun _ => rfl⟩, h⟩
theorem c_X9_conjugates_31 {a n : Nat} (ha : a < 2 ^ σ.1.2.1) (hn : n ≤ 8) (o1 : Option Value) : ∀ (f k : Nat) (M : mz_M), k + f = n → zC M0 (zrw σ (k, fun k => (nI (cj σ.1.1 σ.1.2.1 a k)).toInt64)) M → ∃ M', mq_G mq_X9_conjugates (31, [some (.ref 0), o1, some (.int (nI n)), some (.int (nI (cj σ.1.1 σ.1.2.1 a k))), some (.int (nI k))], [], M) (some (.int (nI n)), M') ∧ zC M0 (zrw σ (n, fun k => (nI (cj σ.1.1 σ.1.2.1 a k)).toInt64)) M'
  | 0, k, M, hk, h => by
    obtain rfl : k = n := by omega
    refine ⟨M, t_X9_conjugates_31 _ _ _ _ _ ⟨fun _ => rfl, fun c => absurd ?_ c⟩, h⟩
    rw [zn_le (by omega) (by omega)]
    exact Nat.le_refl _
  | f + 1, k, M, hk, h => by
    obtain ⟨M2, g1, g2, g3⟩ := s_cputs h (by omega) (x := (nI (cj σ.1.1 σ.1.2.1 a k)).toInt64) rfl
    have hF : zCF σ.1.1 σ.1.2.1 M2 := g2.F
    have hl := cj_lt hF.g ha k
    obtain ⟨M', k1, k2⟩ := c_X9_conjugates_31 ha hn o1 f (k + 1) M2 (by omega) g2
    refine ⟨M', t_X9_conjugates_31 _ _ _ _ _ ⟨fun c => ?_, fun _ => ⟨M2, g1, _, hF.t hl hl, by rw [nI_1]; exact k1⟩⟩, k2⟩
    rw [zn_le (by omega) (by omega)] at c
    omega
theorem c_X9_conjugates (h : zC M0 σ M) (x : Int32) : zE M0 mq_X9_conjugates [.ref 0, .int x] M (k_conjugates σ x) := by
  have hq := h.q
  have h8 := h.g.2.1
  have h2 := h.g.1
  have hg := h.g
  by_cases g0 : zel (2 ^ σ.1.2.1) x = true
  · simp only [zE, k_conjugates, g0, if_true]
    obtain ⟨a, ha, rfl⟩ := h.en g0
    rw [zu_nI (by omega)]
    have hs := zsz_le σ.1.1 σ.1.2.1 a (σ.1.2.1 - 1) 1
    obtain ⟨g, hG⟩ := h.fg
    obtain ⟨M1, e1, e2, e3, -⟩ := s_cempties h (fun k => (nI (cj σ.1.1 σ.1.2.1 a k)).toInt64)
    obtain ⟨M', k1, k2⟩ := c_X9_conjugates_31 ha (n := zsz σ.1.1 σ.1.2.1 a (σ.1.2.1 - 1) 1) (by omega) (some (.int (nI a))) _ 0 M1 (Nat.zero_add _) e2
    exact ⟨M', t_X9_conjugates_0 _ _ ⟨1, h.el1 g0, fun _ => ⟨_, s_X0_sizeOf hG ha, M1, e1, k1⟩, fun c => absurd z10 c⟩, k2⟩
  · simp only [zE, k_conjugates, g0]
    exact ⟨M, t_X9_conjugates_0 _ _ ⟨0, h.el0 g0, fun c => absurd rfl c, fun _ => rfl⟩, h⟩
theorem c_X9_least (h : zC M0 σ M) (x : Int32) : zE M0 mq_X9_least [.ref 0, .int x] M (k_least σ x) := by
  have hq := h.q
  have h8 := h.g.2.1
  have h2 := h.g.1
  have hg := h.g
  by_cases g0 : zel (2 ^ σ.1.2.1) x = true
  · simp only [zE, k_least, g0, if_true]
    obtain ⟨a, ha, rfl⟩ := h.en g0
    rw [zu_nI (by omega)]
    obtain ⟨d, c, d1, dm, hi, hc, he, hs⟩ := zlst_some hg ha
    rw [hs]
    dsimp only
    obtain ⟨M3, l1, l2⟩ := s_X2_leastPolynomial h.F ha dm hi hc he
    have h3 := h.k l2 (by decide)
    have hd : 2 ^ d ≤ 256 := Nat.le_trans (Nat.pow_le_pow_right (by decide) dm) hq
    have hd2 : 2 ≤ 2 ^ d := Nat.le_trans (by decide) (Nat.pow_le_pow_right (show 0 < 2 by decide) d1)
    have hl9 := zlog_1024 (n := 2 ^ d + c) (by omega) (by omega)
    have hl1 : 1 ≤ (2 ^ d + c).log2 := (Nat.le_log2 (by omega)).mpr (by omega)
    obtain ⟨M5, M6, M9, e1, e2, e3, e4, -⟩ := s_cput2 h3 (nI (2 ^ d + c).log2) (nI ((2 ^ d + c) / 2 ^ ((2 ^ d + c).log2 - 1) % 2))
    refine ⟨M9, t_X9_least_0 _ _ ⟨1, h.el1 g0, fun _ => ⟨_, M3, l1, nI (2 ^ d + c).log2, by rw [← zlog_deg (by omega) (by omega)]; exact s_X4_degreeOf _ _, M5, e1, M6, e2, fun q => ?_, fun _ => ⟨M9, ?_, rfl⟩⟩, fun c => absurd z10 c⟩, e4⟩
    · rw [zn_le0 (by omega)] at q
      omega
    · rw [zs1 (by omega), zn_bit (by omega) (by omega)]
      exact e3
  · simp only [zE, k_least, g0]
    exact ⟨M, t_X9_least_0 _ _ ⟨0, h.el0 g0, fun c => absurd rfl c, fun _ => rfl⟩, h⟩
theorem c_X9_solves_12 {a : Nat} (h : zC M0 σ M) (ha : a < 2 ^ σ.1.2.1) : ∀ (f y : Nat), y + f = 2 ^ σ.1.2.1 → ∃ M', mq_G mq_X9_solves (12, [some (.ref 0), some (.int (nI a)), some (.int (nI y))], [], M) (some (.int (match zfst (fun x => Nat.beq (fm σ.1.1 σ.1.2.1 x x ^^^ x) a) f y with
  | some y => (nI y, zrw σ (zr1 (nI (y ^^^ 1))))
  | none => (-2, σ)).1), M') ∧ zC M0 (match zfst (fun x => Nat.beq (fm σ.1.1 σ.1.2.1 x x ^^^ x) a) f y with
  | some y => (nI y, zrw σ (zr1 (nI (y ^^^ 1))))
  | none => (-2, σ)).2 M'
  | 0, y, hy => by
    have hq := h.q
    refine ⟨M, t_X9_solves_12 _ _ _ ⟨fun _ => rfl, fun c => absurd ?_ c⟩, h⟩
    rw [h.m2, zn_le (by omega) (by omega)]
    omega
  | f + 1, y, hy => by
    have hq := h.q
    have hyl : y < 2 ^ σ.1.2.1 := by omega
    have hl := Nat.xor_lt_two_pow (fm_lt h.g hyl (b := y)) hyl
    have hz : zfst (fun x => Nat.beq (fm σ.1.1 σ.1.2.1 x x ^^^ x) a) (f + 1) y = if Nat.beq (fm σ.1.1 σ.1.2.1 y y ^^^ y) a = true then some y else zfst (fun x => Nat.beq (fm σ.1.1 σ.1.2.1 x x ^^^ x) a) f (y + 1) := rfl
    have c1 : ¬ M.1 2 2 ≤ nI y := by
      rw [h.m2, zn_le (by omega) (by omega)]
      omega
    by_cases e : fm σ.1.1 σ.1.2.1 y y ^^^ y = a
    · rw [hz, if_pos (by rw [e]; exact Nat.beq_refl a)]
      dsimp only
      obtain ⟨M4, M5, e1, e2, e3, -⟩ := s_cput1 h (nI (y ^^^ 1))
      refine ⟨M5, t_X9_solves_12 _ _ _ ⟨fun c => absurd c c1, fun _ => ⟨_, h.F.t hyl hyl, fun c => absurd ?_ c, fun _ => ⟨M4, e1, M5, ?_, rfl⟩⟩⟩, e3⟩
      · rw [zn_xor, e]
      · rw [show nI y ^^^ 1 = nI (y ^^^ 1) from zn_xor y 1]
        exact e2
    · rw [hz, if_neg (fun q => e (Nat.eq_of_beq_eq_true q))]
      obtain ⟨M', k1, k2⟩ := c_X9_solves_12 h ha f (y + 1) (by omega)
      refine ⟨M', t_X9_solves_12 _ _ _ ⟨fun c => absurd c c1, fun _ => ⟨_, h.F.t hyl hyl, fun _ => by rw [nI_1]; exact k1, fun c => absurd ?_ c⟩⟩, k2⟩
      rw [zn_xor, zn_eq (by omega) (by omega)]
      exact e
theorem c_X9_solves (h : zC M0 σ M) (x : Int32) : zE M0 mq_X9_solves [.ref 0, .int x] M (k_solves σ x) := by
  have hq := h.q
  have h8 := h.g.2.1
  have h2 := h.g.1
  have hg := h.g
  by_cases g0 : zel (2 ^ σ.1.2.1) x = true
  · simp only [zE, k_solves, g0, if_true]
    obtain ⟨a, ha, rfl⟩ := h.en g0
    rw [zu_nI (by omega)]
    obtain ⟨M', k1, k2⟩ := c_X9_solves_12 h ha (2 ^ σ.1.2.1) 0 (Nat.zero_add _)
    exact ⟨M', t_X9_solves_0 _ _ ⟨1, h.el1 g0, fun _ => k1, fun c => absurd z10 c⟩, k2⟩
  · simp only [zE, k_solves, g0]
    exact ⟨M, t_X9_solves_0 _ _ ⟨0, h.el0 g0, fun c => absurd rfl c, fun _ => rfl⟩, h⟩
theorem c_X9_log_23 {a b : Nat} (h : zC M0 σ M) (ha : a < 2 ^ σ.1.2.1) (hb : b < 2 ^ σ.1.2.1) : ∀ (f n : Nat), n + f = 2 ^ σ.1.2.1 → mq_G mq_X9_log (23, [some (.ref 0), some (.int (nI a)), some (.int (nI b)), some (.int (nI (fpw σ.1.1 σ.1.2.1 a n))), some (.int (nI n))], [], M) (some (.int (zN2 (zfst (fun n => Nat.beq (fpw σ.1.1 σ.1.2.1 a n) b) f n))), M)
  | 0, n, hn => by
    have hq := h.q
    refine t_X9_log_23 _ _ _ _ _ ⟨fun _ => rfl, fun c => absurd ?_ c⟩
    rw [h.m2, zn_le (by omega) (by omega)]
    omega
  | f + 1, n, hn => by
    have hq := h.q
    have hl := fpw_lt h.g ha n
    have hz : zfst (fun n => Nat.beq (fpw σ.1.1 σ.1.2.1 a n) b) (f + 1) n = if Nat.beq (fpw σ.1.1 σ.1.2.1 a n) b = true then some n else zfst (fun n => Nat.beq (fpw σ.1.1 σ.1.2.1 a n) b) f (n + 1) := rfl
    refine t_X9_log_23 _ _ _ _ _ ⟨fun c => ?_, fun _ => ⟨fun c => ⟨_, h.F.t hl ha, ?_⟩, fun c => ?_⟩⟩
    · rw [h.m2, zn_le (by omega) (by omega)] at c
      omega
    · rw [zn_eq (by omega) (by omega)] at c
      rw [hz, if_neg (fun q => c (Nat.eq_of_beq_eq_true q)), nI_1]
      exact c_X9_log_23 h ha hb f (n + 1) (by omega)
    · rw [zn_eq (by omega) (by omega)] at c
      rw [hz, if_pos (by rw [Classical.not_not.mp c]; exact Nat.beq_refl b)]
      rfl
theorem c_X9_log (h : zC M0 σ M) (x y : Int32) : zE M0 mq_X9_log [.ref 0, .int x, .int y] M (k_log σ x y) := by
  have hq := h.q
  have h8 := h.g.2.1
  have h2 := h.g.1
  have hg := h.g
  by_cases g0 : zel (2 ^ σ.1.2.1) x = true
  · by_cases g1 : zel (2 ^ σ.1.2.1) y = true
    · simp only [zE, k_log, g0, g1, if_true]
      obtain ⟨a, ha, rfl⟩ := h.en g0
      obtain ⟨b, hb, rfl⟩ := h.en g1
      rw [zu_nI (by omega), zu_nI (by omega)]
      exact ⟨M, t_X9_log_0 _ _ _ ⟨1, h.el1 g0, fun c => absurd c z10, fun _ => ⟨1, h.el1 g1, fun _ => c_X9_log_23 h ha hb (2 ^ σ.1.2.1) 0 (Nat.zero_add _), fun c => absurd z10 c⟩⟩, h⟩
    · simp only [zE, k_log, g0, g1, if_true]
      exact ⟨M, t_X9_log_0 _ _ _ ⟨1, h.el1 g0, fun c => absurd c z10, fun _ => ⟨0, h.el0 g1, fun c => absurd rfl c, fun _ => rfl⟩⟩, h⟩
  · simp only [zE, k_log, g0]
    exact ⟨M, t_X9_log_0 _ _ _ ⟨0, h.el0 g0, fun _ => rfl, fun c => absurd rfl c⟩, h⟩
theorem c_X9_traced_29 {d v : Nat} (h : zC M0 σ M) (hd0 : 0 < d) (hd8 : d ≤ 8) (hv : v < 2 ^ σ.1.2.1) : ∃ M', zC M0 (zrw σ (zr1 (zNo (zfst (ztd σ.1.1 σ.1.2.1 d v) (2 ^ σ.1.2.1) 0)))) M' ∧ ∀ (f k : Nat), k + f = 2 ^ σ.1.2.1 → mq_G mq_X9_traced (29, [some (.ref 0), some (.int (nI d)), some (.int (nI v)), some (.int (nI (zcnt (ztd σ.1.1 σ.1.2.1 d v) k 0))), some (.int (zNo (zfst (ztd σ.1.1 σ.1.2.1 d v) k 0))), some (.int (nI k))], [], M) (some (.int (nI (zcnt (ztd σ.1.1 σ.1.2.1 d v) (2 ^ σ.1.2.1) 0))), M') := by
  have hq := h.q
  obtain ⟨g, hG⟩ := h.fg
  obtain ⟨M2, M3, e1, e2, e3, -⟩ := s_cput1 h (zNo (zfst (ztd σ.1.1 σ.1.2.1 d v) (2 ^ σ.1.2.1) 0))
  refine ⟨M3, e3, fun f => ?_⟩
  induction f with
  | zero =>
    intro k hk
    obtain rfl : k = 2 ^ σ.1.2.1 := by omega
    refine t_X9_traced_29 _ _ _ _ _ _ ⟨fun _ => ⟨M2, e1, M3, e2, rfl⟩, fun c => absurd ?_ c⟩
    rw [h.m2, zn_le (by omega) (by omega)]
    exact Nat.le_refl _
  | succ f ih =>
    intro k hk
    have hkl : k < 2 ^ σ.1.2.1 := by omega
    have hl := ztr_lt (d := d) h.g hkl 8 0 0 (Nat.two_pow_pos _)
    have ih := ih (k + 1) (by omega)
    refine t_X9_traced_29 _ _ _ _ _ _ ⟨fun c => ?_, fun _ => ⟨_, s_X0_tracedTo hG hkl hd0 hd8, fun c => ?_, fun c => ⟨fun e => ?_, fun e => ?_⟩⟩⟩
    · rw [h.m2, zn_le (by omega) (by omega)] at c
      omega
    · rw [zn_eq (by omega) (by omega)] at c
      have hp : ¬ ztd σ.1.1 σ.1.2.1 d v k = true := fun q => c (Nat.eq_of_beq_eq_true q)
      rw [ycnt_f (Nat.zero_add k) hp, yfst_f (Nat.zero_add k) hp] at ih
      rw [nI_1]
      exact ih
    · rw [zn_eq (by omega) (by omega)] at c
      have hp : ztd σ.1.1 σ.1.2.1 d v k = true := by
        show Nat.beq _ v = true
        rw [Classical.not_not.mp c]
        exact Nat.beq_refl v
      rw [yfst_m1 (by omega)] at e
      rw [ycnt_t (Nat.zero_add k) hp, yfst_s e] at ih
      rw [nI_1, nI_1]
      exact ih
    · rw [zn_eq (by omega) (by omega)] at c
      have hp : ztd σ.1.1 σ.1.2.1 d v k = true := by
        show Nat.beq _ v = true
        rw [Classical.not_not.mp c]
        exact Nat.beq_refl v
      rw [yfst_m1 (by omega)] at e
      rw [ycnt_t (Nat.zero_add k) hp, yfst_n (Nat.zero_add k) (Classical.not_not.mp e) hp] at ih
      rw [nI_1, nI_1]
      exact ih
theorem c_X9_traced (h : zC M0 σ M) (x y : Int32) : zE M0 mq_X9_traced [.ref 0, .int x, .int y] M (k_traced σ x y) := by
  have hq := h.q
  have h8 := h.g.2.1
  have h2 := h.g.1
  have hg := h.g
  by_cases g0 : zpt σ.1.2.1 x = true
  · by_cases g1 : zel (2 ^ σ.1.2.1) y = true
    · simp only [zE, k_traced, g0, g1, if_true]
      obtain ⟨d, hd0, hdm, hd8, hd, rfl⟩ := h.ptn g0
      obtain ⟨v, hv, rfl⟩ := h.en g1
      rw [zu_nI (by omega), zu_nI (by omega)]
      obtain ⟨M', k2, k1⟩ := c_X9_traced_29 h hd0 hd8 hv
      exact ⟨M', t_X9_traced_0 _ _ _ ⟨1, h.pt1 g0, fun c => absurd c z10, fun _ => ⟨1, h.el1 g1, fun _ => k1 (2 ^ σ.1.2.1) 0 (Nat.zero_add _), fun c => absurd z10 c⟩⟩, k2⟩
    · simp only [zE, k_traced, g0, g1, if_true]
      exact ⟨M, t_X9_traced_0 _ _ _ ⟨1, h.pt1 g0, fun c => absurd c z10, fun _ => ⟨0, h.el0 g1, fun c => absurd rfl c, fun _ => rfl⟩⟩, h⟩
  · simp only [zE, k_traced, g0]
    exact ⟨M, t_X9_traced_0 _ _ _ ⟨0, h.pt0 g0, fun _ => rfl, fun c => absurd rfl c⟩, h⟩
theorem c_X9_generators_6 (h : zC M0 σ M) : ∃ M', zC M0 (zrw σ (zr1 (zNo (zfst (zgen σ.1.1 σ.1.2.1) (2 ^ σ.1.2.1 - 1) 1)))) M' ∧ ∀ (f k : Nat), k + 1 + f = 2 ^ σ.1.2.1 → mq_G mq_X9_generators (6, [some (.ref 0), some (.int (nI (zcnt (zgen σ.1.1 σ.1.2.1) k 1))), some (.int (zNo (zfst (zgen σ.1.1 σ.1.2.1) k 1))), some (.int (nI (k + 1)))], [], M) (some (.int (nI (zcnt (zgen σ.1.1 σ.1.2.1) (2 ^ σ.1.2.1 - 1) 1))), M') := by
  have hq := h.q
  obtain ⟨g, hG⟩ := h.fg
  obtain ⟨M2, M3, e1, e2, e3, -⟩ := s_cput1 h (zNo (zfst (zgen σ.1.1 σ.1.2.1) (2 ^ σ.1.2.1 - 1) 1))
  refine ⟨M3, e3, fun f => ?_⟩
  induction f with
  | zero =>
    intro k hk
    obtain rfl : k = 2 ^ σ.1.2.1 - 1 := by omega
    refine t_X9_generators_6 _ _ _ _ ⟨fun _ => ⟨M2, e1, M3, e2, rfl⟩, fun c => absurd ?_ c⟩
    rw [h.m2, zn_le (by omega) (by omega)]
    omega
  | succ f ih =>
    intro k hk
    have ih := ih (k + 1) (by omega)
    refine t_X9_generators_6 _ _ _ _ ⟨fun c => ?_, fun _ => ⟨_, s_X0_generates hG (a := k + 1) (by omega) (by omega), fun c => ?_, fun c => ⟨fun e => ?_, fun e => ?_⟩⟩⟩
    · rw [h.m2, zn_le (by omega) (by omega)] at c
      omega
    · have hp : ¬ zgen σ.1.1 σ.1.2.1 (k + 1) = true := fun q => by rw [q] at c; exact z10 c
      rw [ycnt_f (Nat.add_comm 1 k) hp, yfst_f (Nat.add_comm 1 k) hp] at ih
      rw [nI_1]
      exact ih
    · have hp : zgen σ.1.1 σ.1.2.1 (k + 1) = true := Classical.byContradiction (fun q => c (by rw [show zgen σ.1.1 σ.1.2.1 (k + 1) = false by simpa using q]; rfl))
      rw [yfst_m1 (by omega)] at e
      rw [ycnt_t (Nat.add_comm 1 k) hp, yfst_s e] at ih
      rw [nI_1, nI_1]
      exact ih
    · have hp : zgen σ.1.1 σ.1.2.1 (k + 1) = true := Classical.byContradiction (fun q => c (by rw [show zgen σ.1.1 σ.1.2.1 (k + 1) = false by simpa using q]; rfl))
      rw [yfst_m1 (by omega)] at e
      rw [ycnt_t (Nat.add_comm 1 k) hp, yfst_n (Nat.add_comm 1 k) (Classical.not_not.mp e) hp] at ih
      rw [nI_1, nI_1]
      exact ih
theorem c_X9_generators (h : zC M0 σ M) : zE M0 mq_X9_generators [.ref 0] M (k_generators σ) := by
  obtain ⟨M', k2, k1⟩ := c_X9_generators_6 h
  have h1 := f1_lt h.g
  exact ⟨M', t_X9_generators_0 _ (k1 (2 ^ σ.1.2.1 - 1) 0 (by omega)), k2⟩
theorem zC.ext {n : Nat} {f f' : Nat → Int64} (h : zC M0 (zrw σ (n, f)) M) (e : ∀ k, k < n → f k = f' k) : zC M0 (zrw σ (n, f')) M :=
  ⟨h.1, h.2.1, h.2.2.1, h.2.2.2.1, h.2.2.2.2.1, h.2.2.2.2.2.1, h.2.2.2.2.2.2.1, h.2.2.2.2.2.2.2.1, h.2.2.2.2.2.2.2.2.1, fun k hk => by
    have hk : k < n := hk
    rw [h.2.2.2.2.2.2.2.2.2 k hk]
    exact e k hk⟩
theorem s_cputL {l : List Nat} {x : Nat} (h : zC M0 (zrw σ (zrl l)) M) (hl : l.length < 16) : ∃ M', mq_C mq_X6_puts [.ref 73, .long (nI x).toInt64] M (none, M') ∧ zC M0 (zrw σ (zrl (l ++ [x]))) M' ∧ ∀ c, ¬ c = 73 → M'.1 c = M.1 c := by
  have h1 : zC M0 (zrw σ (l.length, fun k => (nI ((l ++ [x]).getD k 0)).toInt64)) M := zC.ext (n := l.length) (f := fun k => (nI (l.getD k 0)).toInt64) h (fun k hk => by rw [zget_lo hk])
  obtain ⟨M', g1, g2, g3⟩ := s_cputs h1 hl (x := (nI x).toInt64) (by rw [zget_at])
  refine ⟨M', g1, ?_, g3⟩
  have e : zrl (l ++ [x]) = (l.length + 1, fun k => (nI ((l ++ [x]).getD k 0)).toInt64) := by
    unfold zrl
    rw [List.length_append, List.length_singleton]
  rw [e]
  exact g2
theorem s_cemptyL (h : zC M0 σ M) : ∃ M', mq_C mq_X6_empties [.ref 73] M (none, M') ∧ zC M0 (zrw σ (zrl [])) M' ∧ (∀ c, ¬ c = 73 → M'.1 c = M.1 c) := by
  obtain ⟨M', g1, g2, g3, -⟩ := s_cempties h (zrl []).2
  exact ⟨M', g1, g2, g3⟩
theorem ycnt_mono (p : Nat → Bool) (a : Nat) : ∀ k f, zcnt p f a ≤ zcnt p (f + k) a
  | 0, f => Nat.le_refl _
  | k + 1, f => by
    have h1 := ycnt_mono p a k f
    rw [← Nat.add_assoc, zcnt_r]
    omega
theorem c_X9_orders_11 : ∀ (f n : Nat) (l : List Nat) (u : Nat) (M : mz_M), zC M0 (zrw σ (zrl l)) M → n + 1 + f = 2 ^ σ.1.2.1 → l.length = 2 * u → u ≤ zcnt (zdv (2 ^ σ.1.2.1 - 1)) n 1 → ∃ M', (∀ o3 : Option Value, mq_G mq_X9_orders (11, [some (.ref 0), some (.int (nI u)), some (.int (nI (n + 1))), o3], [], M) (some (.int (nI (zold (zits σ.1.1 σ.1.2.1) f (n + 1) l u).2)), M')) ∧ zC M0 (zrw σ (zrl (zold (zits σ.1.1 σ.1.2.1) f (n + 1) l u).1)) M'
  | 0, n, l, u, M, h, hn, hl, hu => by
    have hq : 2 ^ σ.1.2.1 ≤ 256 := h.q
    have hm2 : M.1 2 2 = nI (2 ^ σ.1.2.1) := h.m2
    refine ⟨M, fun o3 => t_X9_orders_11 _ _ _ _ ⟨fun _ => rfl, fun c => absurd ?_ c⟩, h⟩
    rw [hm2, zn_le (by omega) (by omega)]
    omega
  | f + 1, n, l, u, M, h, hn, hl, hu => by
    have hq : 2 ^ σ.1.2.1 ≤ 256 := h.q
    have hg : fgood σ.1.1 σ.1.2.1 := h.g
    have hm2 : M.1 2 2 = nI (2 ^ σ.1.2.1) := h.m2
    obtain ⟨g, hG⟩ : ∃ g, zfG σ.1.1 σ.1.2.1 g M := h.fg
    have c1 : ¬ M.1 2 2 ≤ nI (n + 1) := by
      rw [hm2, zn_le (by omega) (by omega)]
      omega
    have hz : zold (zits σ.1.1 σ.1.2.1) (f + 1) (n + 1) l u = if zits σ.1.1 σ.1.2.1 (n + 1) = 0 then zold (zits σ.1.1 σ.1.2.1) f (n + 1 + 1) l u else zold (zits σ.1.1 σ.1.2.1) f (n + 1 + 1) (l ++ [n + 1] ++ [zits σ.1.1 σ.1.2.1 (n + 1)]) (u + 1) := rfl
    have hcl : zits σ.1.1 σ.1.2.1 (n + 1) ≤ 2 ^ σ.1.2.1 - 1 := zcnt_le _ _ _
    by_cases e : zits σ.1.1 σ.1.2.1 (n + 1) = 0
    · rw [hz, if_pos e]
      obtain ⟨M', k1, k2⟩ := c_X9_orders_11 f (n + 1) l u M h (by omega) hl (Nat.le_trans hu (ycnt_mono _ 1 1 n))
      refine ⟨M', fun o3 => t_X9_orders_11 _ _ _ _ ⟨fun c => absurd c c1, fun _ => ⟨_, s_X0_howMany hG (by omega) (by omega), fun _ => by rw [nI_1]; exact k1 _, fun c => absurd ?_ c⟩⟩, k2⟩
      rw [e]
      exact Int32.le_refl _
    · rw [hz, if_neg e]
      have hdv : zdv (2 ^ σ.1.2.1 - 1) (n + 1) = true := by
        show Nat.beq ((2 ^ σ.1.2.1 - 1) % (n + 1)) 0 = true
        rw [zits_dvd hg hG.2.1 e]
        rfl
      have hc1 : zcnt (zdv (2 ^ σ.1.2.1 - 1)) (n + 1) 1 = zcnt (zdv (2 ^ σ.1.2.1 - 1)) n 1 + 1 := ycnt_t (Nat.add_comm 1 n) hdv
      have hc8 := zdv_8 σ.1.2.1 (by have := hg.2.1; omega)
      have hmono := ycnt_mono (zdv (2 ^ σ.1.2.1 - 1)) 1 (f + 1) (n + 1)
      rw [show n + 1 + (f + 1) = 2 ^ σ.1.2.1 by omega] at hmono
      have hmono2 := ycnt_mono (zdv (2 ^ σ.1.2.1 - 1)) 1 f (n + 1)
      rw [show n + 1 + f = 2 ^ σ.1.2.1 - 1 by omega] at hmono2
      obtain ⟨M4, a1, a2, a3⟩ := s_cputL (x := n + 1) h (by omega)
      obtain ⟨M5, b1, b2, b3⟩ := s_cputL (x := zits σ.1.1 σ.1.2.1 (n + 1)) a2 (by rw [List.length_append, List.length_singleton]; omega)
      obtain ⟨M', k1, k2⟩ := c_X9_orders_11 f (n + 1) _ (u + 1) M5 b2 (by omega) (by rw [List.length_append, List.length_append, List.length_singleton, List.length_singleton]; omega) (by omega)
      refine ⟨M', fun o3 => t_X9_orders_11 _ _ _ _ ⟨fun c => absurd c c1, fun _ => ⟨_, s_X0_howMany hG (by omega) (by omega), fun c => ?_, fun _ => ⟨M4, a1, M5, b1, by rw [nI_1, nI_1]; exact k1 _⟩⟩⟩, k2⟩
      rw [zn_le0 (by omega)] at c
      exact absurd c e
theorem c_X9_orders (h : zC M0 σ M) : zE M0 mq_X9_orders [.ref 0] M (k_orders σ) := by
  have h1 := f1_lt h.g
  obtain ⟨M1, e1, e2, e3⟩ := s_cemptyL h
  obtain ⟨M', k1, k2⟩ := c_X9_orders_11 (2 ^ σ.1.2.1 - 1) 0 [] 0 M1 e2 (by omega) rfl (Nat.zero_le _)
  exact ⟨M', t_X9_orders_0 _ ⟨M1, e1, k1 none⟩, k2⟩
theorem c_X9_quadratic_39 {a b c : Nat} (ha : a < 2 ^ σ.1.2.1) (hb : b < 2 ^ σ.1.2.1) (hc : c < 2 ^ σ.1.2.1) : ∀ (f x : Nat) (l : List Nat) (n : Nat) (M : mz_M), zC M0 (zrw σ (zrl l)) M → x + f = 2 ^ σ.1.2.1 → n ≤ x → l.length ≤ n → l.length ≤ 8 → ∃ M', (∀ o6 : Option Value, mq_G mq_X9_quadratic (39, [some (.ref 0), some (.int (nI a)), some (.int (nI b)), some (.int (nI c)), some (.int (nI n)), some (.int (nI x)), o6], [], M) (some (.int (nI (zqd (zqp σ.1.1 σ.1.2.1 a b c) f x l n).2)), M')) ∧ zC M0 (zrw σ (zrl (zqd (zqp σ.1.1 σ.1.2.1 a b c) f x l n).1)) M'
  | 0, x, l, n, M, h, hx, hn, hl, hl8 => by
    have hq : 2 ^ σ.1.2.1 ≤ 256 := h.q
    have hm2 : M.1 2 2 = nI (2 ^ σ.1.2.1) := h.m2
    refine ⟨M, fun o6 => t_X9_quadratic_39 _ _ _ _ _ _ _ ⟨fun _ => rfl, fun c => absurd ?_ c⟩, h⟩
    rw [hm2, zn_le (by omega) (by omega)]
    omega
  | f + 1, x, l, n, M, h, hx, hn, hl, hl8 => by
    have hq : 2 ^ σ.1.2.1 ≤ 256 := h.q
    have hg : fgood σ.1.1 σ.1.2.1 := h.g
    have hF : zCF σ.1.1 σ.1.2.1 M := h.F
    have hxl : x < 2 ^ σ.1.2.1 := by omega
    have l1 := fm_lt hg ha (b := x)
    have l2 := Nat.xor_lt_two_pow l1 hb
    have l3 := fm_lt hg l2 (b := x)
    have he : fm σ.1.1 σ.1.2.1 (fm σ.1.1 σ.1.2.1 a x ^^^ b) x = fm σ.1.1 σ.1.2.1 a (fm σ.1.1 σ.1.2.1 x x) ^^^ fm σ.1.1 σ.1.2.1 b x := by
      rw [fm_xl, fm_assoc hg ha hxl hxl]
    have c1 : ¬ M.1 2 2 ≤ nI x := by
      rw [hF.m2, zn_le (by omega) (by omega)]
      omega
    have r3 : mq_C mq_X0_times [.ref 2, .int (nI (fm σ.1.1 σ.1.2.1 a x) ^^^ nI b), .int (nI x)] M (some (.int (nI (fm σ.1.1 σ.1.2.1 (fm σ.1.1 σ.1.2.1 a x ^^^ b) x))), M) := by
      rw [zn_xor]
      exact hF.t l2 hxl
    have hz : zqd (zqp σ.1.1 σ.1.2.1 a b c) (f + 1) x l n = if zqp σ.1.1 σ.1.2.1 a b c x = true then zqd (zqp σ.1.1 σ.1.2.1 a b c) f (x + 1) (if n < 8 then l ++ [x] else l) (n + 1) else zqd (zqp σ.1.1 σ.1.2.1 a b c) f (x + 1) l n := rfl
    by_cases e : fm σ.1.1 σ.1.2.1 (fm σ.1.1 σ.1.2.1 a x ^^^ b) x = c
    · rw [hz, if_pos (show zqp σ.1.1 σ.1.2.1 a b c x = true by unfold zqp; rw [← he, e]; exact Nat.beq_refl c)]
      by_cases en : n < 8
      · rw [if_pos en]
        obtain ⟨M6, a1, a2, a3⟩ := s_cputL (x := x) h (by omega)
        obtain ⟨M', k1, k2⟩ := c_X9_quadratic_39 ha hb hc f (x + 1) (l ++ [x]) (n + 1) M6 a2 (by omega) (by omega) (by rw [List.length_append, List.length_singleton]; omega) (by rw [List.length_append, List.length_singleton]; omega)
        refine ⟨M', fun o6 => t_X9_quadratic_39 _ _ _ _ _ _ _ ⟨fun c => absurd c c1, fun _ => ⟨_, hF.t ha hxl, _, r3, fun q => absurd (by rw [e]) q, fun _ => ⟨fun q => ?_, fun _ => ⟨M6, a1, by rw [nI_1, nI_1]; exact k1 _⟩⟩⟩⟩, k2⟩
        rw [show (8 : Int32) = nI 8 from rfl, zn_le (by decide) (by omega)] at q
        omega
      · rw [if_neg en]
        obtain ⟨M', k1, k2⟩ := c_X9_quadratic_39 ha hb hc f (x + 1) l (n + 1) M h (by omega) (by omega) (by omega) hl8
        refine ⟨M', fun o6 => t_X9_quadratic_39 _ _ _ _ _ _ _ ⟨fun c => absurd c c1, fun _ => ⟨_, hF.t ha hxl, _, r3, fun q => absurd (by rw [e]) q, fun _ => ⟨fun _ => by rw [nI_1, nI_1]; exact k1 _, fun q => absurd ?_ q⟩⟩⟩, k2⟩
        rw [show (8 : Int32) = nI 8 from rfl, zn_le (by decide) (by omega)]
        omega
    · rw [hz, if_neg (fun q => e (by rw [he]; exact Nat.eq_of_beq_eq_true q))]
      obtain ⟨M', k1, k2⟩ := c_X9_quadratic_39 ha hb hc f (x + 1) l n M h (by omega) (by omega) hl hl8
      refine ⟨M', fun o6 => t_X9_quadratic_39 _ _ _ _ _ _ _ ⟨fun c => absurd c c1, fun _ => ⟨_, hF.t ha hxl, _, r3, fun _ => by rw [nI_1]; exact k1 _, fun q => absurd ?_ q⟩⟩, k2⟩
      rw [zn_eq (by omega) (by omega)]
      exact e
theorem c_X9_quadratic (h : zC M0 σ M) (x y z : Int32) : zE M0 mq_X9_quadratic [.ref 0, .int x, .int y, .int z] M (k_quadratic σ x y z) := by
  have hq := h.q
  have h8 := h.g.2.1
  have h2 := h.g.1
  have hg := h.g
  by_cases g0 : zel (2 ^ σ.1.2.1) x = true
  · by_cases g1 : zel (2 ^ σ.1.2.1) y = true
    · by_cases g2 : zel (2 ^ σ.1.2.1) z = true
      · simp only [zE, k_quadratic, g0, g1, g2, if_true]
        obtain ⟨a, ha, rfl⟩ := h.en g0
        obtain ⟨b, hb, rfl⟩ := h.en g1
        obtain ⟨c, hc, rfl⟩ := h.en g2
        rw [zu_nI (by omega), zu_nI (by omega), zu_nI (by omega)]
        obtain ⟨M1, e1, e2, e3⟩ := s_cemptyL h
        obtain ⟨M', k1, k2⟩ := c_X9_quadratic_39 ha hb hc (2 ^ σ.1.2.1) 0 [] 0 M1 e2 (Nat.zero_add _) (Nat.le_refl 0) (Nat.le_refl 0) (Nat.zero_le 8)
        exact ⟨M', t_X9_quadratic_0 _ _ _ _ ⟨1, h.el1 g0, fun c => absurd c z10, fun _ => ⟨1, h.el1 g1, fun c => absurd c z10, fun _ => ⟨1, h.el1 g2, fun _ => ⟨M1, e1, k1 none⟩, fun c => absurd z10 c⟩⟩⟩, k2⟩
      · simp only [zE, k_quadratic, g0, g1, g2, if_true]
        exact ⟨M, t_X9_quadratic_0 _ _ _ _ ⟨1, h.el1 g0, fun c => absurd c z10, fun _ => ⟨1, h.el1 g1, fun c => absurd c z10, fun _ => ⟨0, h.el0 g2, fun c => absurd rfl c, fun _ => rfl⟩⟩⟩, h⟩
    · simp only [zE, k_quadratic, g0, g1, if_true]
      exact ⟨M, t_X9_quadratic_0 _ _ _ _ ⟨1, h.el1 g0, fun c => absurd c z10, fun _ => ⟨0, h.el0 g1, fun _ => rfl, fun c => absurd rfl c⟩⟩, h⟩
  · simp only [zE, k_quadratic, g0]
    exact ⟨M, t_X9_quadratic_0 _ _ _ _ ⟨0, h.el0 g0, fun _ => rfl, fun c => absurd rfl c⟩, h⟩
end CC1
