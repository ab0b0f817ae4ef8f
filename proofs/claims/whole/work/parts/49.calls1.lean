/-! calls of the reference: field -/
def zu (x : Int32) : Nat := x.toNatClampNeg
theorem zu_nI {a : Nat} (h : a < 2 ^ 31) : zu (nI a) = a := zn_cl h
theorem z10 : ¬ (1 : Int32) = 0 := by decide
theorem z00 : ¬ ¬ (0 : Int32) = 0 := fun h => h rfl
/-- a call: its answer, the state behind it -/
def zA (M0 : mz_M) (J : mz_I) (As : List Value) (M : mz_M) (r : Int32 × zSg) : Prop := ∃ M', mq_C J As M (some (.int r.1), M') ∧ zP M0 r.2 M'
def zcnt (p : Nat → Bool) : Nat → Nat → Nat
  | 0, _ => 0
  | f + 1, a => (if p a = true then 1 else 0) + zcnt p f (a + 1)
def zfst (p : Nat → Bool) : Nat → Nat → Option Nat
  | 0, _ => none
  | f + 1, a => if p a = true then some a else zfst p f (a + 1)
theorem zcnt_le (p : Nat → Bool) : ∀ f a, zcnt p f a ≤ f
  | 0, _ => Nat.le_refl _
  | f + 1, a => by
    have := zcnt_le p f (a + 1)
    unfold zcnt
    split <;> omega
theorem zcnt_r (p : Nat → Bool) : ∀ f a, zcnt p (f + 1) a = zcnt p f a + (if p (a + f) = true then 1 else 0)
  | 0, a => by simp [zcnt]
  | f + 1, a => by
    have := zcnt_r p f (a + 1)
    rw [show zcnt p (f + 1 + 1) a = (if p a = true then 1 else 0) + zcnt p (f + 1) (a + 1) from rfl, this, show zcnt p (f + 1) a = (if p a = true then 1 else 0) + zcnt p f (a + 1) from rfl, show a + 1 + f = a + (f + 1) by omega]
    omega
theorem zfst_r (p : Nat → Bool) : ∀ f a, zfst p (f + 1) a = match zfst p f a with
    | some x => some x
    | none => if p (a + f) = true then some (a + f) else none
  | 0, a => by simp [zfst]
  | f + 1, a => by
    have h := zfst_r p f (a + 1)
    rw [show zfst p (f + 1 + 1) a = if p a = true then some a else zfst p (f + 1) (a + 1) from rfl, h, show zfst p (f + 1) a = if p a = true then some a else zfst p f (a + 1) from rfl, show a + 1 + f = a + (f + 1) by omega]
    by_cases q : p a = true
    · simp only [q, if_true]
    · simp only [q]; rfl
theorem zfst_some {p : Nat → Bool} : ∀ {f a x : Nat}, zfst p f a = some x → a ≤ x ∧ x < a + f ∧ p x = true ∧ ∀ y, a ≤ y → y < x → p y = false
  | 0, a, x, h => by cases h
  | f + 1, a, x, h => by
    unfold zfst at h
    by_cases q : p a = true
    · rw [if_pos q] at h
      cases h
      exact ⟨Nat.le_refl _, by omega, q, fun y h1 h2 => absurd h1 (by omega)⟩
    · rw [if_neg q] at h
      obtain ⟨h1, h2, h3, h4⟩ := zfst_some h
      refine ⟨by omega, by omega, h3, fun y h5 h6 => ?_⟩
      by_cases e : y = a
      · subst e; simpa using q
      · exact h4 y (by omega) h6
theorem zfst_none {p : Nat → Bool} : ∀ {f a : Nat}, zfst p f a = none ↔ ∀ x, a ≤ x → x < a + f → p x = false
  | 0, a => ⟨fun _ x h1 h2 => absurd h1 (by omega), fun _ => rfl⟩
  | f + 1, a => by
    unfold zfst
    constructor
    · intro h x h1 h2
      by_cases q : p a = true
      · rw [if_pos q] at h; cases h
      · rw [if_neg q] at h
        by_cases e : x = a
        · subst e; simpa using q
        · exact zfst_none.mp h x (by omega) (by omega)
    · intro h
      rw [if_neg (by rw [h a (Nat.le_refl _) (by omega)]; decide)]
      exact zfst_none.mpr (fun x h1 h2 => h x (by omega) (by omega))
section ZC1
variable {M0 M M' : mz_M} {σ : zSg}
theorem zP.thr (h : zP M0 σ M) : ∃ M1, mz_wr M 77 (upd (M.1 77) 10 0) = M1 ∧ zP M0 σ M1 ∧ ∀ c, ¬ c = 77 → M1.1 c = M.1 c := ⟨_, rfl, h.w (by decide), fun c hc => zwr_n hc⟩
theorem zP.q (h : zP M0 σ M) : 2 ^ σ.1.2.1 ≤ 256 := zq256 h.g.2.1
theorem zP.en (h : zP M0 σ M) {x : Int32} (hx : zel (2 ^ σ.1.2.1) x = true) : ∃ a, a < 2 ^ σ.1.2.1 ∧ x = nI a := (zel_iff (by have := h.q; omega)).mp hx
theorem zP.el1 (h : zP M0 σ M) {x : Int32} (hx : zel (2 ^ σ.1.2.1) x = true) : mq_C mq_X10_isElement [.ref 77, .int x] M (some (.int 1), M) := by
  have := s_X10_isElement h.F x
  rw [hx] at this; exact this
theorem zP.el0 (h : zP M0 σ M) {x : Int32} (hx : ¬ zel (2 ^ σ.1.2.1) x = true) : mq_C mq_X10_isElement [.ref 77, .int x] M (some (.int 0), M) := by
  have := s_X10_isElement h.F x
  rw [show zel (2 ^ σ.1.2.1) x = false by simpa using hx] at this; exact this
theorem zP.pt1 (h : zP M0 σ M) {x : Int32} (hx : zpt σ.1.2.1 x = true) : mq_C mq_X10_isPart [.ref 77, .int x] M (some (.int 1), M) := by
  have := s_X10_isPart h.F x
  rw [hx] at this; exact this
theorem zP.pt0 (h : zP M0 σ M) {x : Int32} (hx : ¬ zpt σ.1.2.1 x = true) : mq_C mq_X10_isPart [.ref 77, .int x] M (some (.int 0), M) := by
  have := s_X10_isPart h.F x
  rw [show zpt σ.1.2.1 x = false by simpa using hx] at this; exact this
theorem zP.ptn (h : zP M0 σ M) {x : Int32} (hx : zpt σ.1.2.1 x = true) : ∃ d, 0 < d ∧ d ≤ σ.1.2.1 ∧ d ≤ 8 ∧ σ.1.2.1 % d = 0 ∧ x = nI d := by
  obtain ⟨d, h1, h2, h3, h4⟩ := zpt_iff.mp hx
  exact ⟨d, h2, by omega, by have := h.g.2.1; omega, h3, h4⟩
theorem zP.pl1 (h : zP M0 σ M) {x : Int32} (hx : zel σ.1.2.1 x = true) : mq_C mq_X10_isPlace [.ref 77, .int x] M (some (.int 1), M) := by
  have := s_X10_isPlace h.F x
  rw [hx] at this; exact this
theorem zP.pl0 (h : zP M0 σ M) {x : Int32} (hx : ¬ zel σ.1.2.1 x = true) : mq_C mq_X10_isPlace [.ref 77, .int x] M (some (.int 0), M) := by
  have := s_X10_isPlace h.F x
  rw [show zel σ.1.2.1 x = false by simpa using hx] at this; exact this
theorem zP.pn (h : zP M0 σ M) {x : Int32} (hx : zel σ.1.2.1 x = true) : ∃ i, i < σ.1.2.1 ∧ i < 8 ∧ x = nI i := by
  have := h.g.2.1
  obtain ⟨i, h1, h2⟩ := (zel_iff (by omega)).mp hx
  exact ⟨i, h1, by omega, h2⟩
theorem zsl1 (M : mz_M) {x : Int32} (hx : zel 4 x = true) : mq_C mq_X10_isSlot [.int x] M (some (.int 1), M) := by
  have := s_X10_isSlot M x
  rw [hx] at this; exact this
theorem zsl0 (M : mz_M) {x : Int32} (hx : ¬ zel 4 x = true) : mq_C mq_X10_isSlot [.int x] M (some (.int 0), M) := by
  have := s_X10_isSlot M x
  rw [show zel 4 x = false by simpa using hx] at this; exact this
theorem zsln {x : Int32} (hx : zel 4 x = true) : ∃ s, s < 4 ∧ x = nI s := (zel_iff (by decide)).mp hx
/-- between two numbers -/
def zbt (a b x : Int32) : Bool := decide (a ≤ x ∧ x ≤ b)
theorem zin1 (M : mz_M) {x a b : Int32} (hx : zbt a b x = true) : mq_C mq_X10_in [.long x.toInt64, .long a.toInt64, .long b.toInt64] M (some (.int 1), M) := by
  have := s_X10_in M x a b
  rw [show decide (a ≤ x ∧ x ≤ b) = true from hx] at this; exact this
theorem zin0 (M : mz_M) {x a b : Int32} (hx : ¬ zbt a b x = true) : mq_C mq_X10_in [.long x.toInt64, .long a.toInt64, .long b.toInt64] M (some (.int 0), M) := by
  have := s_X10_in M x a b
  rw [show decide (a ≤ x ∧ x ≤ b) = false by simpa [zbt] using hx] at this; exact this
theorem zbtn {a b : Nat} {x : Int32} (ha : a < 2 ^ 31) (hb : b < 2 ^ 31) (h : zbt (nI a) (nI b) x = true) : ∃ n, a ≤ n ∧ n ≤ b ∧ x = nI n := by
  obtain ⟨h1, h2⟩ := of_decide_eq_true h
  obtain ⟨n, hn, rfl⟩ := zn_of (Int32.le_trans (zn_ge0 ha) h1)
  exact ⟨n, (zn_le ha hn).mp h1, (zn_le hn hb).mp h2, rfl⟩
/-- a row of one, two or three told numbers -/
def zr1 (x : Int32) : Nat × (Nat → Int64) := (1, fun _ => x.toInt64)
def zr2 (x y : Int32) : Nat × (Nat → Int64) := (2, fun k => if k = 0 then x.toInt64 else y.toInt64)
theorem s_tell1 (h : zP M0 σ M) (x : Int32) : ∃ M1 M2, mz_wr M 77 (upd (M.1 77) 9 0) = M1 ∧ mq_C mq_X10_tell [.ref 77, .long x.toInt64] M1 (none, M2) ∧ zP M0 (zrw σ (zr1 x)) M2 ∧ zP M0 (zrw σ (0, (zr1 x).2)) M1 ∧ ∀ c, ¬ c = 77 → M2.1 c = M.1 c := by
  have h1 := h.row0 (zr1 x).2
  obtain ⟨M2, g1, g2, g3⟩ := s_X10_tell h1 (by decide) (x := x.toInt64) rfl
  exact ⟨_, M2, rfl, g1, g2, h1, fun c hc => by rw [g3 c hc, zwr_n hc]⟩
theorem s_tell2 (h : zP M0 σ M) (x y : Int32) : ∃ M1 M2 M3, mz_wr M 77 (upd (M.1 77) 9 0) = M1 ∧ mq_C mq_X10_tell [.ref 77, .long x.toInt64] M1 (none, M2) ∧ mq_C mq_X10_tell [.ref 77, .long y.toInt64] M2 (none, M3) ∧ zP M0 (zrw σ (zr2 x y)) M3 ∧ ∀ c, ¬ c = 77 → M3.1 c = M.1 c := by
  have h1 := h.row0 (zr2 x y).2
  obtain ⟨M2, g1, g2, g3⟩ := s_X10_tell h1 (by decide) (x := x.toInt64) rfl
  obtain ⟨M3, k1, k2, k3⟩ := s_X10_tell g2 (by decide) (x := y.toInt64) rfl
  exact ⟨_, M2, M3, rfl, g1, k1, k2, fun c hc => by rw [k3 c hc, g3 c hc, zwr_n hc]⟩
def k_product (σ : zSg) (x y : Int32) : Int32 × zSg := if zel (2 ^ σ.1.2.1) x = true then (if zel (2 ^ σ.1.2.1) y = true then (nI (fm σ.1.1 σ.1.2.1 (zu x) (zu y)), σ) else (-1, σ)) else (-1, σ)
theorem c_X10_product (h : zP M0 σ M) (x y : Int32) : zA M0 mq_X10_product [.ref 77, .int x, .int y] M (k_product σ x y) := by
  obtain ⟨M1, eM, h1, -⟩ := h.thr
  have hq := h.q
  by_cases he : zel (2 ^ σ.1.2.1) x = true
  · by_cases hf : zel (2 ^ σ.1.2.1) y = true
    · simp only [zA, k_product, he, hf, if_true]
      refine ⟨M1, t_X10_product_0 _ _ _ (fun M2 e2 => ?_), h1⟩
      obtain rfl := e2.trans eM
      refine ⟨1, h1.el1 he, fun c => absurd c z10, fun _ => ⟨1, h1.el1 hf, fun c => absurd c z10, fun _ => ⟨_, ?_, rfl⟩⟩⟩
      obtain ⟨a, ha, rfl⟩ := h1.en he
      obtain ⟨b, hb, rfl⟩ := h1.en hf
      rw [zu_nI (by omega), zu_nI (by omega)]
      exact s_X10_times _ h1.g h1.F.2.1 ha hb
    · simp only [zA, k_product, he, hf, if_true]
      refine ⟨M1, t_X10_product_0 _ _ _ (fun M2 e2 => ?_), h1⟩
      obtain rfl := e2.trans eM
      exact ⟨1, h1.el1 he, fun c => absurd c z10, fun _ => ⟨0, h1.el0 hf, fun _ => rfl, fun c => absurd rfl c⟩⟩
  · simp only [zA, k_product, he]
    refine ⟨M1, t_X10_product_0 _ _ _ (fun M2 e2 => ?_), h1⟩
    obtain rfl := e2.trans eM
    exact ⟨0, h1.el0 he, fun _ => rfl, fun c => absurd rfl c⟩
def k_inverse (σ : zSg) (x : Int32) : Int32 × zSg := if zel (2 ^ σ.1.2.1) x = true then (if x = 0 then (-2, σ) else (nI (fpw σ.1.1 σ.1.2.1 (zu x) (2 ^ σ.1.2.1 - 2)), σ)) else (-1, σ)
theorem c_X10_inverse (h : zP M0 σ M) (x : Int32) : zA M0 mq_X10_inverse [.ref 77, .int x] M (k_inverse σ x) := by
  obtain ⟨M1, eM, h1, -⟩ := h.thr
  have hq := h.q
  by_cases he : zel (2 ^ σ.1.2.1) x = true
  · by_cases hf : x = 0
    · simp only [zA, k_inverse, he, hf, if_true]
      rw [hf] at he
      simp only [he, if_true]
      refine ⟨M1, t_X10_inverse_0 _ _ (fun M2 e2 => ?_), h1⟩
      obtain rfl := e2.trans eM
      exact ⟨1, h1.el1 he, fun _ => ⟨fun c => absurd rfl c, fun _ => rfl⟩, fun c => absurd z10 c⟩
    · simp only [zA, k_inverse, he, hf, if_true, if_false]
      refine ⟨M1, t_X10_inverse_0 _ _ (fun M2 e2 => ?_), h1⟩
      obtain rfl := e2.trans eM
      refine ⟨1, h1.el1 he, fun _ => ⟨fun _ => ⟨_, ?_, rfl⟩, fun c => absurd hf c⟩, fun c => absurd z10 c⟩
      obtain ⟨a, ha, rfl⟩ := h1.en he
      rw [zu_nI (by omega)]
      exact s_X10_inverseOf h1.F ha
  · simp only [zA, k_inverse, he]
    refine ⟨M1, t_X10_inverse_0 _ _ (fun M2 e2 => ?_), h1⟩
    obtain rfl := e2.trans eM
    exact ⟨0, h1.el0 he, fun c => absurd rfl c, fun _ => rfl⟩
def k_power (σ : zSg) (x y : Int32) : Int32 × zSg := if zel (2 ^ σ.1.2.1) x = true then (if zbt 0 1000000000 y = true then (nI (fpw σ.1.1 σ.1.2.1 (zu x) (zu y)), σ) else (-1, σ)) else (-1, σ)
theorem c_X10_power (h : zP M0 σ M) (x y : Int32) : zA M0 mq_X10_power [.ref 77, .int x, .int y] M (k_power σ x y) := by
  obtain ⟨M1, eM, h1, -⟩ := h.thr
  have hq := h.q
  by_cases he : zel (2 ^ σ.1.2.1) x = true
  · by_cases hf : zbt 0 1000000000 y = true
    · simp only [zA, k_power, he, hf, if_true]
      refine ⟨M1, t_X10_power_0 _ _ _ (fun M2 e2 => ?_), h1⟩
      obtain rfl := e2.trans eM
      refine ⟨1, h1.el1 he, fun c => absurd c z10, fun _ => ⟨1, zin1 _ hf, fun c => absurd c z10, fun _ => ⟨_, ?_, rfl⟩⟩⟩
      obtain ⟨a, ha, rfl⟩ := h1.en he
      obtain ⟨n, hn0, hn, rfl⟩ := zbtn (a := 0) (b := 1000000000) (by decide) (by decide) hf
      rw [zu_nI (by omega), zu_nI (by omega)]
      exact s_X10_powered h1.F ha (by omega)
    · simp only [zA, k_power, he, hf, if_true]
      refine ⟨M1, t_X10_power_0 _ _ _ (fun M2 e2 => ?_), h1⟩
      obtain rfl := e2.trans eM
      exact ⟨1, h1.el1 he, fun c => absurd c z10, fun _ => ⟨0, zin0 _ hf, fun _ => rfl, fun c => absurd rfl c⟩⟩
  · simp only [zA, k_power, he]
    refine ⟨M1, t_X10_power_0 _ _ _ (fun M2 e2 => ?_), h1⟩
    obtain rfl := e2.trans eM
    exact ⟨0, h1.el0 he, fun _ => rfl, fun c => absurd rfl c⟩
def k_conjugate (σ : zSg) (x y : Int32) : Int32 × zSg := if zel (2 ^ σ.1.2.1) x = true then (if zbt 0 100 y = true then (nI (cj σ.1.1 σ.1.2.1 (zu x) (zu y)), σ) else (-1, σ)) else (-1, σ)
theorem c_X10_conjugate (h : zP M0 σ M) (x y : Int32) : zA M0 mq_X10_conjugate [.ref 77, .int x, .int y] M (k_conjugate σ x y) := by
  obtain ⟨M1, eM, h1, -⟩ := h.thr
  have hq := h.q
  by_cases he : zel (2 ^ σ.1.2.1) x = true
  · by_cases hf : zbt 0 100 y = true
    · simp only [zA, k_conjugate, he, hf, if_true]
      refine ⟨M1, t_X10_conjugate_0 _ _ _ (fun M2 e2 => ?_), h1⟩
      obtain rfl := e2.trans eM
      refine ⟨1, h1.el1 he, fun c => absurd c z10, fun _ => ⟨1, zin1 _ hf, fun c => absurd c z10, fun _ => ⟨_, ?_, rfl⟩⟩⟩
      obtain ⟨a, ha, rfl⟩ := h1.en he
      obtain ⟨n, hn0, hn, rfl⟩ := zbtn (a := 0) (b := 100) (by decide) (by decide) hf
      rw [zu_nI (by omega), zu_nI (by omega)]
      exact s_X10_conj h1.F ha (by omega)
    · simp only [zA, k_conjugate, he, hf, if_true]
      refine ⟨M1, t_X10_conjugate_0 _ _ _ (fun M2 e2 => ?_), h1⟩
      obtain rfl := e2.trans eM
      exact ⟨1, h1.el1 he, fun c => absurd c z10, fun _ => ⟨0, zin0 _ hf, fun _ => rfl, fun c => absurd rfl c⟩⟩
  · simp only [zA, k_conjugate, he]
    refine ⟨M1, t_X10_conjugate_0 _ _ _ (fun M2 e2 => ?_), h1⟩
    obtain rfl := e2.trans eM
    exact ⟨0, h1.el0 he, fun _ => rfl, fun c => absurd rfl c⟩
def k_trace (σ : zSg) (x y : Int32) : Int32 × zSg := if zel (2 ^ σ.1.2.1) x = true then (if zpt σ.1.2.1 y = true then (nI (ztr σ.1.1 σ.1.2.1 (zu x) (zu y) 8 0 0), σ) else (-1, σ)) else (-1, σ)
theorem c_X10_trace (h : zP M0 σ M) (x y : Int32) : zA M0 mq_X10_trace [.ref 77, .int x, .int y] M (k_trace σ x y) := by
  obtain ⟨M1, eM, h1, -⟩ := h.thr
  have hq := h.q
  by_cases he : zel (2 ^ σ.1.2.1) x = true
  · by_cases hf : zpt σ.1.2.1 y = true
    · simp only [zA, k_trace, he, hf, if_true]
      refine ⟨M1, t_X10_trace_0 _ _ _ (fun M2 e2 => ?_), h1⟩
      obtain rfl := e2.trans eM
      refine ⟨1, h1.el1 he, fun c => absurd c z10, fun _ => ⟨1, h1.pt1 hf, fun c => absurd c z10, fun _ => ⟨_, ?_, rfl⟩⟩⟩
      obtain ⟨a, ha, rfl⟩ := h1.en he
      obtain ⟨d, hd0, hdm, hd8, hd, rfl⟩ := h1.ptn hf
      rw [zu_nI (by omega), zu_nI (by omega)]
      exact s_X10_traceTo h1.F ha hd0 hd8
    · simp only [zA, k_trace, he, hf, if_true]
      refine ⟨M1, t_X10_trace_0 _ _ _ (fun M2 e2 => ?_), h1⟩
      obtain rfl := e2.trans eM
      exact ⟨1, h1.el1 he, fun c => absurd c z10, fun _ => ⟨0, h1.pt0 hf, fun _ => rfl, fun c => absurd rfl c⟩⟩
  · simp only [zA, k_trace, he]
    refine ⟨M1, t_X10_trace_0 _ _ _ (fun M2 e2 => ?_), h1⟩
    obtain rfl := e2.trans eM
    exact ⟨0, h1.el0 he, fun _ => rfl, fun c => absurd rfl c⟩
def k_norm (σ : zSg) (x y : Int32) : Int32 × zSg := if zel (2 ^ σ.1.2.1) x = true then (if zpt σ.1.2.1 y = true then (nI (znm σ.1.1 σ.1.2.1 (zu x) (zu y) 8 0 1), σ) else (-1, σ)) else (-1, σ)
theorem c_X10_norm (h : zP M0 σ M) (x y : Int32) : zA M0 mq_X10_norm [.ref 77, .int x, .int y] M (k_norm σ x y) := by
  obtain ⟨M1, eM, h1, -⟩ := h.thr
  have hq := h.q
  by_cases he : zel (2 ^ σ.1.2.1) x = true
  · by_cases hf : zpt σ.1.2.1 y = true
    · simp only [zA, k_norm, he, hf, if_true]
      refine ⟨M1, t_X10_norm_0 _ _ _ (fun M2 e2 => ?_), h1⟩
      obtain rfl := e2.trans eM
      refine ⟨1, h1.el1 he, fun c => absurd c z10, fun _ => ⟨1, h1.pt1 hf, fun c => absurd c z10, fun _ => ⟨_, ?_, rfl⟩⟩⟩
      obtain ⟨a, ha, rfl⟩ := h1.en he
      obtain ⟨d, hd0, hdm, hd8, hd, rfl⟩ := h1.ptn hf
      rw [zu_nI (by omega), zu_nI (by omega)]
      exact s_X10_normTo h1.F ha hd0 hd8
    · simp only [zA, k_norm, he, hf, if_true]
      refine ⟨M1, t_X10_norm_0 _ _ _ (fun M2 e2 => ?_), h1⟩
      obtain rfl := e2.trans eM
      exact ⟨1, h1.el1 he, fun c => absurd c z10, fun _ => ⟨0, h1.pt0 hf, fun _ => rfl, fun c => absurd rfl c⟩⟩
  · simp only [zA, k_norm, he]
    refine ⟨M1, t_X10_norm_0 _ _ _ (fun M2 e2 => ?_), h1⟩
    obtain rfl := e2.trans eM
    exact ⟨0, h1.el0 he, fun _ => rfl, fun c => absurd rfl c⟩
def k_root (σ : zSg) (x : Int32) : Int32 × zSg := if zel (2 ^ σ.1.2.1) x = true then (nI (cj σ.1.1 σ.1.2.1 (zu x) (σ.1.2.1 - 1)), σ) else (-1, σ)
theorem c_X10_root (h : zP M0 σ M) (x : Int32) : zA M0 mq_X10_root [.ref 77, .int x] M (k_root σ x) := by
  obtain ⟨M1, eM, h1, -⟩ := h.thr
  have hq := h.q
  have h8 := h.g.2.1
  have h2 := h.g.1
  by_cases he : zel (2 ^ σ.1.2.1) x = true
  · simp only [zA, k_root, he, if_true]
    refine ⟨M1, t_X10_root_0 _ _ (fun M2 e2 => ?_), h1⟩
    obtain rfl := e2.trans eM
    refine ⟨1, h1.el1 he, fun c => absurd c z10, fun _ => ⟨_, ?_, rfl⟩⟩
    obtain ⟨a, ha, rfl⟩ := h1.en he
    rw [zu_nI (by omega), h1.F.2.2.1, show (1 : Int32) = nI 1 from rfl, zn_sub (by omega)]
    exact s_X10_conj h1.F ha (by omega)
  · simp only [zA, k_root, he]
    refine ⟨M1, t_X10_root_0 _ _ (fun M2 e2 => ?_), h1⟩
    obtain rfl := e2.trans eM
    exact ⟨0, h1.el0 he, fun _ => rfl, fun c => absurd rfl c⟩
def k_order (σ : zSg) (x : Int32) : Int32 × zSg := if zel (2 ^ σ.1.2.1) x = true then (if x = 0 then (-2, σ) else (nI (zor σ.1.1 σ.1.2.1 (zu x) (2 ^ σ.1.2.1 - 2) 1), zrw σ (zr1 (zB (zgen σ.1.1 σ.1.2.1 (zu x)))))) else (-1, σ)
theorem c_X10_order (h : zP M0 σ M) (x : Int32) : zA M0 mq_X10_order [.ref 77, .int x] M (k_order σ x) := by
  obtain ⟨M1, eM, h1, -⟩ := h.thr
  have hq := h.q
  by_cases he : zel (2 ^ σ.1.2.1) x = true
  · by_cases hf : x = 0
    · simp only [zA, k_order, he, hf, if_true]
      rw [hf] at he
      simp only [he, if_true]
      refine ⟨M1, t_X10_order_0 _ _ (fun M2 e2 => ?_), h1⟩
      obtain rfl := e2.trans eM
      exact ⟨1, h1.el1 he, fun _ => ⟨fun c => absurd rfl c, fun _ => rfl⟩, fun c => absurd z10 c⟩
    · simp only [zA, k_order, he, hf, if_true, if_false]
      obtain ⟨M3, M4, e3, g1, g2, g3, -⟩ := s_tell1 h1 (zB (zgen σ.1.1 σ.1.2.1 (zu x)))
      refine ⟨M4, t_X10_order_0 _ _ (fun M2 e2 => ?_), g2⟩
      obtain rfl := e2.trans eM
      refine ⟨1, h1.el1 he, fun _ => ⟨fun _ M5 e5 => ?_, fun c => absurd hf c⟩, fun c => absurd z10 c⟩
      obtain rfl := e5.trans e3
      obtain ⟨a, ha, rfl⟩ := h1.en he
      have ha0 : 0 < a := Nat.pos_of_ne_zero (fun q => hf (by rw [q]; rfl))
      obtain ⟨g, hc⟩ := h1.c
      rw [zu_nI (by omega)] at *
      refine ⟨zB (zgen σ.1.1 σ.1.2.1 a), s_X10_isGenerator g3.F hc ha, fun c => ?_, fun c => ?_⟩
      · rw [c] at g1
        exact ⟨M4, g1, _, s_X10_orderOf g2.F hc ha0 ha, rfl⟩
      · rw [show zB (zgen σ.1.1 σ.1.2.1 a) = 1 from (zB_01 _).resolve_left c] at g1
        exact ⟨M4, g1, _, s_X10_orderOf g2.F hc ha0 ha, rfl⟩
  · simp only [zA, k_order, he]
    refine ⟨M1, t_X10_order_0 _ _ (fun M2 e2 => ?_), h1⟩
    obtain rfl := e2.trans eM
    exact ⟨0, h1.el0 he, fun c => absurd rfl c, fun _ => rfl⟩
end ZC1
