/-! the class: how it holds a state; what its calls share -/
def zQk (K : Option zSt) (M : mz_M) : Prop := match K with
  | none => M.1 0 10 = 0
  | some a => M.1 0 10 = 1 ∧ zok a ∧ zCs a 14 M
def zQt (t : Nat × (Nat → Nat)) (M : mz_M) : Prop := t.1 ≤ 100 ∧ M.1 70 2 = nI t.1 ∧ ∀ k, k < t.1 → t.2 k < 256 ∧ M.1 71 k = nI (t.2 k)
def zQr (r : Nat × (Nat → Int64)) (M : mz_M) : Prop := r.1 ≤ 16 ∧ M.1 73 1 = nI r.1 ∧ ∀ k, k < r.1 → M.2 74 k = r.2 k
def zQ (σ : zSg) (M : mz_M) : Prop := zok σ.1 ∧ zCF σ.1.1 σ.1.2.1 M ∧ zCs σ.1 8 M ∧ zQk σ.2.1 M ∧ zCp σ.2.2.1 M ∧ zQt σ.2.2.2.1 M ∧ zQr σ.2.2.2.2 M
/-- what the reference holds stays -/
def zH (M M' : mz_M) : Prop := ∀ c, 77 ≤ c → M'.1 c = M.1 c ∧ M'.2 c = M.2 c
theorem zH.rf (M : mz_M) : zH M M := fun _ _ => ⟨rfl, rfl⟩
theorem zH.tr {M M1 M2 : mz_M} (h1 : zH M M1) (h2 : zH M1 M2) : zH M M2 := fun c hc => ⟨(h2 c hc).1.trans (h1 c hc).1, (h2 c hc).2.trans (h1 c hc).2⟩
theorem zH.k {S : List Nat} {M M1 M2 : mz_M} (h : zH M M1) (hk : zK S M1 M2) (hS : ∀ c ∈ S, c < 77) : zH M M2 := h.tr (fun c hc => ⟨hk.2 c (fun q => by have := hS c q; omega), by rw [hk.1]⟩)
theorem zH.q {M M1 M2 : mz_M} (h : zH M M1) (hk : zKq M1 M2) : zH M M2 := h.tr (fun c hc => ⟨hk.2 c (by omega), by rw [hk.1]⟩)
theorem zH.s {c : Nat} {M M1 M2 : mz_M} (h : zH M M1) (hk : zKs c M1 M2) (hc : c + 6 ≤ 77) : zH M M2 := h.tr (fun b hb => ⟨hk.2 b (by omega) (by omega), by rw [hk.1]⟩)
theorem zQk.e {K : Option zSt} {M M' : mz_M} (h : zQk K M) (e0 : M'.1 0 = M.1 0) (e : ∀ b, 14 ≤ b → b < 20 → M'.1 b = M.1 b) : zQk K M' := by
  cases K with
  | none => show M'.1 0 10 = 0; rw [e0]; exact h
  | some a => exact ⟨by rw [e0]; exact h.1, h.2.1, h.2.2.e (fun b hb => e b (by omega) (by omega))⟩
theorem zQt.e {t : Nat × (Nat → Nat)} {M M' : mz_M} (h : zQt t M) (e0 : M'.1 70 2 = M.1 70 2) (e1 : M'.1 71 = M.1 71) : zQt t M' := ⟨h.1, by rw [e0]; exact h.2.1, fun k hk => by rw [e1]; exact h.2.2 k hk⟩
theorem zQr.e {r : Nat × (Nat → Int64)} {M M' : mz_M} (h : zQr r M) (e0 : M'.1 73 = M.1 73) (e1 : M'.2 74 = M.2 74) : zQr r M' := ⟨h.1, by rw [e0]; exact h.2.1, fun k hk => by rw [e1]; exact h.2.2 k hk⟩
/-- the class holds a state, and the reference holds what it held -/
def zC (M0 : mz_M) (σ : zSg) (M : mz_M) : Prop := zH M0 M ∧ zQ σ M
/-- a call of the class: its answer, the state behind it -/
def zE (M0 : mz_M) (J : mz_I) (As : List Value) (M : mz_M) (r : Int32 × zSg) : Prop := ∃ M', mq_C J As M (some (.int r.1), M') ∧ zC M0 r.2 M'
section ZQ
variable {M0 M M' : mz_M} {σ : zSg}
theorem zC.e (h : zC M0 σ M) (h2 : M'.2 = M.2) (e : ∀ b, b ∉ [5, 6, 7, 72, 75, 76] → M'.1 b = M.1 b) : zC M0 σ M' := by
  obtain ⟨h0, a1, a2, a3, a4, a5, a6, a7⟩ := h
  refine ⟨h0.tr (fun c hc => ⟨e c (fun q => ?_), by rw [h2]⟩), a1, a2.e (e _ (by decide)) (e _ (by decide)) (e _ (by decide)), a3.e (fun b hb => e b (fun q => ?_)), a4.e (e _ (by decide)) (fun b h1 h2 => e b (fun q => ?_)), a5.e (fun b h1 h2 => e b (fun q => ?_)), a6.e (by rw [e _ (by decide)]) (e _ (by decide)), a7.e (e _ (by decide)) (by rw [h2])⟩
  all_goals
    simp only [List.mem_cons, List.not_mem_nil, or_false] at q
    omega
theorem zC.k {S : List Nat} (h : zC M0 σ M) (hk : zK S M M') (hS : ∀ c ∈ S, c ∈ [5, 6, 7, 72, 75, 76]) : zC M0 σ M' := h.e hk.1 (fun b hb => hk.2 b (fun q => hb (hS b q)))
theorem zC.F (h : zC M0 σ M) : zCF σ.1.1 σ.1.2.1 M := h.2.2.1
theorem zC.g (h : zC M0 σ M) : fgood σ.1.1 σ.1.2.1 := h.2.1.1
theorem zC.tb (h : zC M0 σ M) : ∃ g, (σ.1.1, σ.1.2.1, g) ∈ zirrs := h.2.1.2.1
theorem zC.b (h : zC M0 σ M) {s : Nat} (hs : s < 4) : zbas σ.1.2.1 (σ.1.2.2 s) := h.2.1.2.2 s hs
theorem zC.s (h : zC M0 σ M) {s : Nat} (hs : s < 4) : zrow M (10 + s) σ.1.2.1 (σ.1.2.2 s) := h.2.2.2.1.2 s hs
theorem zC.m1 (h : zC M0 σ M) : M.1 2 1 = nI σ.1.2.1 := h.F.m1
theorem zC.m2 (h : zC M0 σ M) : M.1 2 2 = nI (2 ^ σ.1.2.1) := h.F.m2
theorem zC.q (h : zC M0 σ M) : 2 ^ σ.1.2.1 ≤ 256 := zq256 h.g.2.1
theorem zC.fg (h : zC M0 σ M) : ∃ g, zfG σ.1.1 σ.1.2.1 g M := by obtain ⟨g, T, h1, -⟩ := h.F; exact ⟨g, h1⟩
theorem zC.en (h : zC M0 σ M) {x : Int32} (hx : zel (2 ^ σ.1.2.1) x = true) : ∃ a, a < 2 ^ σ.1.2.1 ∧ x = nI a := by
  have hq := h.q
  exact (zel_iff (by omega)).mp hx
theorem zC.pn (h : zC M0 σ M) {x : Int32} (hx : zel σ.1.2.1 x = true) : ∃ i, i < σ.1.2.1 ∧ i < 8 ∧ x = nI i := by
  have h8 := h.g.2.1
  obtain ⟨i, h1, h2⟩ := (zel_iff (by omega)).mp hx
  exact ⟨i, h1, by omega, h2⟩
theorem zC.ptn (h : zC M0 σ M) {x : Int32} (hx : zpt σ.1.2.1 x = true) : ∃ d, 0 < d ∧ d ≤ σ.1.2.1 ∧ d ≤ 8 ∧ σ.1.2.1 % d = 0 ∧ x = nI d := by
  have h8 := h.g.2.1
  obtain ⟨d, h1, h2, h3, h4⟩ := zpt_iff.mp hx
  exact ⟨d, h2, by omega, by omega, h3, h4⟩
theorem zC.el1 (h : zC M0 σ M) {x : Int32} (hx : zel (2 ^ σ.1.2.1) x = true) : mq_C mq_X9_isElement [.ref 0, .int x] M (some (.int 1), M) := by
  have hx := of_decide_eq_true hx
  refine t_X9_isElement_0 _ _ ⟨fun c => absurd hx.1 (Int32.not_le.mpr c), fun _ => ⟨fun c => ?_, fun _ => rfl⟩⟩
  rw [h.m2] at c
  exact absurd hx.2 (Int32.not_lt.mpr c)
theorem zC.el0 (h : zC M0 σ M) {x : Int32} (hx : ¬ zel (2 ^ σ.1.2.1) x = true) : mq_C mq_X9_isElement [.ref 0, .int x] M (some (.int 0), M) := by
  refine t_X9_isElement_0 _ _ ⟨fun c => rfl, fun c => ⟨fun _ => rfl, fun d => absurd (decide_eq_true ⟨Int32.not_lt.mp c, ?_⟩) hx⟩⟩
  rw [h.m2] at d
  exact Int32.not_le.mp d
theorem zC.pl1 (h : zC M0 σ M) {x : Int32} (hx : zel σ.1.2.1 x = true) : mq_C mq_X9_isPlace [.ref 0, .int x] M (some (.int 1), M) := by
  have hx := of_decide_eq_true hx
  refine t_X9_isPlace_0 _ _ ⟨fun c => absurd hx.1 (Int32.not_le.mpr c), fun _ => ⟨fun c => ?_, fun _ => rfl⟩⟩
  rw [h.m1] at c
  exact absurd hx.2 (Int32.not_lt.mpr c)
theorem zC.pl0 (h : zC M0 σ M) {x : Int32} (hx : ¬ zel σ.1.2.1 x = true) : mq_C mq_X9_isPlace [.ref 0, .int x] M (some (.int 0), M) := by
  refine t_X9_isPlace_0 _ _ ⟨fun c => rfl, fun c => ⟨fun _ => rfl, fun d => absurd (decide_eq_true ⟨Int32.not_lt.mp c, ?_⟩) hx⟩⟩
  rw [h.m1] at d
  exact Int32.not_le.mp d
theorem zCs1 (M : mz_M) {x : Int32} (hx : zel 4 x = true) : mq_C mq_X9_isSlot [.ref 0, .int x] M (some (.int 1), M) := by
  have hx := of_decide_eq_true hx
  exact t_X9_isSlot_0 _ _ ⟨fun c => absurd hx.1 (Int32.not_le.mpr c), fun _ => ⟨fun c => absurd hx.2 (Int32.not_lt.mpr c), fun _ => rfl⟩⟩
theorem zCs0 (M : mz_M) {x : Int32} (hx : ¬ zel 4 x = true) : mq_C mq_X9_isSlot [.ref 0, .int x] M (some (.int 0), M) :=
  t_X9_isSlot_0 _ _ ⟨fun c => rfl, fun c => ⟨fun _ => rfl, fun d => absurd (decide_eq_true ⟨Int32.not_lt.mp c, Int32.not_le.mp d⟩) hx⟩⟩
theorem zC.pt1 (h : zC M0 σ M) {x : Int32} (hx : zpt σ.1.2.1 x = true) : mq_C mq_X0_hasSubfield [.ref 2, .int x] M (some (.int 1), M) := by
  obtain ⟨g, hg⟩ := h.fg
  have h1 := s_X0_hasSubfield hg x
  rw [hx] at h1
  exact h1
theorem zC.pt0 (h : zC M0 σ M) {x : Int32} (hx : ¬ zpt σ.1.2.1 x = true) : mq_C mq_X0_hasSubfield [.ref 2, .int x] M (some (.int 0), M) := by
  obtain ⟨g, hg⟩ := h.fg
  have h1 := s_X0_hasSubfield hg x
  rw [show zpt σ.1.2.1 x = false by simpa using hx] at h1
  exact h1
theorem zbt_iff {a b x : Int32} : zbt a b x = true ↔ a ≤ x ∧ x ≤ b := decide_eq_true_iff
/-! the row -/
theorem s_cempties (h : zC M0 σ M) (f : Nat → Int64) : ∃ M', mq_C mq_X6_empties [.ref 73] M (none, M') ∧ zC M0 (zrw σ (0, f)) M' ∧ (∀ c, ¬ c = 73 → M'.1 c = M.1 c) ∧ M'.2 = M.2 := by
  obtain ⟨h0, a1, a2, a3, a4, a5, a6, a7⟩ := h
  have e : ∀ c, ¬ c = 73 → (mz_wr M 73 (upd (M.1 73) 1 0)).1 c = M.1 c := fun c hc => zwr_n hc
  exact ⟨mz_wr M 73 (upd (M.1 73) 1 0), t_X6_empties_0 _ (fun M1 e1 => by rw [e1]), ⟨h0.tr (fun c hc => ⟨e c (by omega), rfl⟩), a1, a2.e (e _ (by decide)) (e _ (by decide)) (e _ (by decide)), a3.e (fun b hb => e b (by omega)), a4.e (e _ (by decide)) (fun b _ _ => e b (by omega)), a5.e (fun b _ _ => e b (by omega)), a6.e (by rw [e _ (by decide)]) (e _ (by decide)), Nat.zero_le _, by rw [zwr_s, zupd_s]; rfl, fun k hk => absurd hk (Nat.not_lt_zero k)⟩, e, rfl⟩
theorem s_cputs {n : Nat} {f : Nat → Int64} (h : zC M0 (zrw σ (n, f)) M) (hn : n < 16) {x : Int64} (hx : f n = x) : ∃ M', mq_C mq_X6_puts [.ref 73, .long x] M (none, M') ∧ zC M0 (zrw σ (n + 1, f)) M' ∧ ∀ c, ¬ c = 73 → M'.1 c = M.1 c := by
  obtain ⟨h0, a1, a2, a3, a4, a5, a6, b1, b2, b3⟩ := h
  have b2 : M.1 73 1 = nI n := b2
  obtain ⟨M2, e2⟩ : ∃ y, y = mz_wrl M 74 (vp_updL (M.2 74) n x) := ⟨_, rfl⟩
  obtain ⟨M4, e4⟩ : ∃ y, y = mz_wr M2 73 (upd (M2.1 73) 1 (nI (n + 1))) := ⟨_, rfl⟩
  have f2 : M2.1 = M.1 := by rw [e2, zwrl_1]
  have e : ∀ c, ¬ c = 73 → M4.1 c = M.1 c := fun c hc => by rw [e4, zwr_n hc, f2]
  have l : M4.2 = M2.2 := by rw [e4, zwr_2]
  refine ⟨M4, t_X6_puts_0 _ _ ⟨fun q => ?_, fun _ => ⟨?_, fun N n2 N4 n4 => ?_⟩⟩, ⟨h0.tr (fun c hc => ⟨e c (by omega), by rw [l, e2, zwrl_n (by omega)]⟩), a1, a2.e (e _ (by decide)) (e _ (by decide)) (e _ (by decide)), a3.e (fun b hb => e b (by omega)), a4.e (e _ (by decide)) (fun b _ _ => e b (by omega)), a5.e (fun b _ _ => e b (by omega)), a6.e (by rw [e _ (by decide)]) (e _ (by decide)), by show n + 1 ≤ 16; omega, by rw [e4, zwr_s, zupd_s]; rfl, fun k hk => ?_⟩, e⟩
  · rw [b2, show Int32.ofNat 16 = nI 16 from rfl, zn_le (by decide) (by omega)] at q
    omega
  · rw [b2]
    exact zn_in hn (by decide)
  · rw [b2, zn_cl (by omega), ← e2] at n2
    rw [n2, f2, b2, nI_1, ← f2, ← e4] at n4
    rw [n4]
  · have hk : k < n + 1 := hk
    show M4.2 74 k = f k
    rw [l, e2, zwrl_s]
    by_cases q : k = n
    · rw [q, ← hx]
      simp [vp_updL]
    · have := b3 k (show k < n by omega)
      simp [vp_updL, q]
      exact this
theorem s_cput1 (h : zC M0 σ M) (x : Int32) : ∃ M1 M2, mq_C mq_X6_empties [.ref 73] M (none, M1) ∧ mq_C mq_X6_puts [.ref 73, .long x.toInt64] M1 (none, M2) ∧ zC M0 (zrw σ (zr1 x)) M2 ∧ zC M0 (zrw σ (0, (zr1 x).2)) M1 ∧ (∀ c, ¬ c = 73 → M1.1 c = M.1 c) ∧ ∀ c, ¬ c = 73 → M2.1 c = M.1 c := by
  obtain ⟨M1, g1, g2, g3, -⟩ := s_cempties h (zr1 x).2
  obtain ⟨M2, k1, k2, k3⟩ := s_cputs g2 (by decide) (x := x.toInt64) rfl
  exact ⟨M1, M2, g1, k1, k2, g2, g3, fun c hc => (k3 c hc).trans (g3 c hc)⟩
theorem s_cput2 (h : zC M0 σ M) (x y : Int32) : ∃ M1 M2 M3, mq_C mq_X6_empties [.ref 73] M (none, M1) ∧ mq_C mq_X6_puts [.ref 73, .long x.toInt64] M1 (none, M2) ∧ mq_C mq_X6_puts [.ref 73, .long y.toInt64] M2 (none, M3) ∧ zC M0 (zrw σ (zr2 x y)) M3 ∧ ∀ c, ¬ c = 73 → M3.1 c = M.1 c := by
  obtain ⟨M1, g1, g2, g3, -⟩ := s_cempties h (zr2 x y).2
  obtain ⟨M2, k1, k2, k3⟩ := s_cputs g2 (by decide) (x := x.toInt64) rfl
  obtain ⟨M3, l1, l2, l3⟩ := s_cputs k2 (by decide) (x := y.toInt64) rfl
  exact ⟨M1, M2, M3, g1, k1, l1, l2, fun c hc => (l3 c hc).trans ((k3 c hc).trans (g3 c hc))⟩
theorem s_cputsAll_2 {b n : Nat} {f : Nat → Int64} (hb : zar b) (hb3 : ¬ b = 73) (hn : n ≤ 8) : ∀ (d k : Nat) (M : mz_M), k + d = n → zC M0 (zrw σ (k, f)) M → (∀ j, j < n → f j = (M.1 b j).toInt64) → ∃ M', mq_G mq_X6_putsAll (2, [some (.ref 73), some (.ref b), some (.int (nI n)), some (.int (nI k))], [], M) (none, M') ∧ zC M0 (zrw σ (n, f)) M' ∧ ∀ c, ¬ c = 73 → M'.1 c = M.1 c
  | 0, k, M, hk, h, hf => by
    obtain rfl : k = n := by omega
    refine ⟨M, t_X6_putsAll_2 _ _ _ _ ⟨fun _ => rfl, fun c => absurd ?_ c⟩, h, fun _ _ => rfl⟩
    rw [zn_le (by omega) (by omega)]
    exact Nat.le_refl _
  | d + 1, k, M, hk, h, hf => by
    obtain ⟨M1, g1, g2, g3⟩ := s_cputs h (by omega) (x := (M.1 b k).toInt64) (hf k (by omega))
    obtain ⟨M', k1, k2, k3⟩ := s_cputsAll_2 hb hb3 hn d (k + 1) M1 (by omega) g2 (fun j hj => by rw [g3 b hb3]; exact hf j hj)
    refine ⟨M', t_X6_putsAll_2 _ _ _ _ ⟨fun c => ?_, fun _ => ⟨hb, fun c => ?_, fun _ => ⟨hb, zn_in (by omega) (by decide), M1, ?_, by rw [nI_1]; exact k1⟩⟩⟩, k2, fun c hc => (k3 c hc).trans (g3 c hc)⟩
    · rw [zn_le (by omega) (by omega)] at c
      omega
    · rw [show Int32.ofNat 8 = nI 8 from rfl, zn_le (by decide) (by omega)] at c
      omega
    · rw [zn_cl (by omega)]
      exact g1
theorem s_cputsAll {b n : Nat} {f : Nat → Int64} (hb : zar b) (hb3 : ¬ b = 73) (hn : n ≤ 8) (h : zC M0 (zrw σ (0, f)) M) (hf : ∀ j, j < n → f j = (M.1 b j).toInt64) : ∃ M', mq_C mq_X6_putsAll [.ref 73, .ref b, .int (nI n)] M (none, M') ∧ zC M0 (zrw σ (n, f)) M' ∧ ∀ c, ¬ c = 73 → M'.1 c = M.1 c := by
  obtain ⟨M', g1, g2, g3⟩ := s_cputsAll_2 hb hb3 hn n 0 M (by omega) h hf
  exact ⟨M', t_X6_putsAll_0 _ _ _ g1, g2, g3⟩
/-! deeds -/
theorem zar75 : zar 75 := rfl
theorem zar76 : zar 76 := rfl
theorem s_X9_setsSlot (h : zC M0 σ M) {s : Nat} {v : Nat → Nat} (hs : s < 4) (hb : zbas σ.1.2.1 v) (hr : zrow M 75 σ.1.2.1 v) : ∃ M', mq_C mq_X9_setsSlot [.ref 0, .int (nI s), .ref 75] M (some (.int (nI (zs (ztb σ.1.1 σ.1.2.1 v 0) σ.1.2.1))), M') ∧ zC M0 (zhold σ s v) M' ∧ M'.1 75 = M.1 75 := by
  obtain ⟨h0, a1, a2, a3, a4, a5, a6, a7⟩ := h
  have h8 := a1.1.2.1
  obtain ⟨M1, g1, g2, g3⟩ := s_X3_remembers ycs8 (by decide) a1 a3 a5
  obtain ⟨M2, k1, k2, k3⟩ := s_X7_setsSlot (b := 75) ycs8 hs zar75 M1
  have e2 : ∀ c, (c < 20 ∨ 70 ≤ c) → ¬ c = 8 + 2 + s → M2.1 c = M.1 c := fun c h1 h2 => by rw [k2.2 c (zns (fun q => h2 q.symm)), g2.2 c h1]
  have F2 : zCF σ.1.1 σ.1.2.1 M2 := a2.e (e2 _ (by decide) (by omega)) (e2 _ (by decide) (by omega)) (e2 _ (by decide) (by omega))
  have r2 : zrow M2 75 σ.1.2.1 v := hr.e (e2 75 (by decide) (by omega))
  obtain ⟨M3, l1, l2, l3⟩ := s_X2_complexityOf F2 hb zar75 (by decide) r2
  have e3 : ∀ c, (c < 20 ∨ 70 ≤ c) → ¬ c = 8 + 2 + s → c ∉ [5, 6, 7] → M3.1 c = M.1 c := fun c h1 h2 h3 => by rw [l2.2 c h3, e2 c h1 h2]
  refine ⟨M3, t_X9_setsSlot_0 _ _ _ ⟨M1, g1, M2, k1, _, M3, l1, rfl⟩, ⟨((h0.q g2).k k2 (fun c hc => by rw [List.mem_singleton.mp hc]; omega)).k l2 (by decide), zset_ok a1 hb, F2.k l2 (by decide) (by decide) (by decide), ⟨?_, fun t ht j hj => ?_⟩, a4.e (e3 0 (by decide) (by omega) (by decide)) (fun b h1 h2 => e3 b (by omega) (by omega) (by simp; omega)), ?_, a6.e (by rw [e3 70 (by decide) (by omega) (by decide)]) (e3 71 (by decide) (by omega) (by decide)), a7.e (e3 73 (by decide) (by omega) (by decide)) (by rw [l2.1, k2.1, g2.1])⟩, e3 75 (by decide) (by omega) (by decide)⟩
  · rw [e3 8 (by decide) (by omega) (by decide)]
    exact a3.1
  · have hj : j < σ.1.2.1 := hj
    show M3.1 (8 + 2 + t) j = nI ((if t = s then v else σ.1.2.2 t) j)
    by_cases e : t = s
    · rw [if_pos e, l2.2 _ (by simp; omega), e, k3 j (by omega), g2.2 75 (by decide)]
      exact hr j hj
    · rw [if_neg e, e3 (8 + 2 + t) (by omega) (by omega) (by simp; omega)]
      exact a3.2 t ht j hj
  · exact zCp.e g3 (fun b h1 h2 => by rw [l2.2 b (by simp; omega), k2.2 b (zns (by omega))])
theorem s_X9_tellsField {P m g : Nat} (h : zC M0 σ M) (hz : (P, m, g) ∈ zirrs) : ∃ M', mq_C mq_X9_tellsField [.ref 0, .int (nI P)] M (some (.int (nI m)), M') ∧ zC M0 (znow (zdo σ) (znew P m)) M' := by
  obtain ⟨hg, hc⟩ := zirrs_ok _ hz
  dsimp only at hg hc
  obtain ⟨h0, a1, a2, a3, a4, a5, a6, a7⟩ := h
  obtain ⟨M1, g1, g2, g3⟩ := s_X3_remembers ycs8 (by decide) a1 a3 a5
  obtain ⟨M2, k1, k2, k3⟩ := s_X7_start (P := P) (m := m) ycs8 hg.2.1 M1
  obtain ⟨M3, l1, l2, l3⟩ := s_X0_settle hz M2
  have e3 : ∀ c, (c < 20 ∨ 70 ≤ c) → ¬ c = 8 → ¬ (10 ≤ c ∧ c < 14) → c ∉ [2, 3, 4] → M3.1 c = M.1 c := fun c h1 h2 h3 h4 => by rw [l2.2 c h4, k2.2 c h2 (by omega), g2.2 c h1]
  refine ⟨M3, t_X9_tellsField_0 _ _ ⟨M1, g1, M2, k1, M3, l1, by rw [l3.m1]⟩, ((h0.q g2).s k2 (by decide)).k l2 (by decide), znew_ok hz, l3, k3.e (fun b hb => l2.2 b (by simp; omega)), a4.e (e3 0 (by decide) (by decide) (by decide) (by decide)) (fun b h1 h2 => e3 b (by omega) (by omega) (by omega) (by simp; omega)), g3.e (fun b h1 h2 => by rw [l2.2 b (by simp; omega), k2.2 b (by omega) (by omega)]), a6.e (by rw [e3 70 (by decide) (by decide) (by decide) (by decide)]) (e3 71 (by decide) (by decide) (by decide) (by decide)), a7.e (e3 73 (by decide) (by decide) (by decide) (by decide)) (by rw [l2.1, k2.1, g2.1])⟩
theorem zdeg_uniq {P m n : Nat} (h1 : 2 ^ m ≤ P) (h2 : P < 2 ^ (m + 1)) (h3 : 2 ^ n ≤ P) (h4 : P < 2 ^ (n + 1)) : m = n := ztop h1 h2 h3 h4
theorem s_X9_followsState {P m : Nat} {a : zSt} (hz : zok a) (hF : zCF P m M) (ha : M.1 8 0 = nI a.1) : ∃ M', mq_C mq_X9_followsState [.ref 0] M (none, M') ∧ zK [2, 3, 4] M M' ∧ zCF a.1 a.2.1 M' := by
  obtain ⟨g, hg⟩ := hz.2.1
  by_cases e : P = a.1
  · have em : m = a.2.1 := by
      have h1 := hF.g
      have h2 := hz.1
      rw [e] at h1
      exact ztop h1.2.2.1 h1.2.2.2.1 h2.2.2.1 h2.2.2.2.1
    subst e em
    exact ⟨M, t_X9_followsState_0 _ ⟨fun _ => rfl, fun c => absurd (by rw [hF.m0, ha]) c⟩, zK.rf _ _, hF⟩
  · obtain ⟨M', g1, g2, g3⟩ := s_X0_settle hg M
    refine ⟨M', t_X9_followsState_0 _ ⟨fun c => ?_, fun _ => ⟨M', by rw [ha]; exact g1, rfl⟩⟩, g2, g3⟩
    have b1 : ∀ {P m : Nat}, fgood P m → P < 2 ^ 31 := fun h => Nat.lt_of_lt_of_le h.2.2.2.1 (Nat.pow_le_pow_right (by decide) (by have := h.2.1; omega))
    rw [hF.m0, ha, zn_eq (b1 hF.g) (b1 hz.1)] at c
    exact absurd c e
/-! coordinates told one by one -/
theorem s_X9_tellsLocated_11 {b : Nat} {v w : Nat → Nat} (hb : zbas σ.1.2.1 v) (hw : ∀ i, i < σ.1.2.1 → w i < 2 ^ σ.1.2.1) (ha : zar b) (hb3 : ¬ b = 73) : ∀ (f i : Nat) (o : Option Value) (M : mz_M), i + f = σ.1.2.1 → zC M0 (zrw σ (i, zcf v w σ.1.2.1)) M → zfr v σ.1.2.1 M → zrow M b σ.1.2.1 w → ∃ M', mq_G mq_X9_tellsLocated (11, [some (.ref 0), some (.ref b), some (.int (nI (zs (zcp v w σ.1.2.1) i))), some (.int (nI i)), o], [], M) (some (.int (nI (zs (zcp v w σ.1.2.1) σ.1.2.1))), M') ∧ zC M0 (zrw σ (σ.1.2.1, zcf v w σ.1.2.1)) M'
  | 0, i, o, M, hi, h, hF, hr => by
    have h8 : σ.1.2.1 ≤ 8 := h.g.2.1
    have hm1 : M.1 2 1 = nI σ.1.2.1 := h.m1
    obtain rfl : i = σ.1.2.1 := by omega
    refine ⟨M, t_X9_tellsLocated_11 _ _ _ _ _ ⟨fun _ => rfl, fun c => absurd ?_ c⟩, h⟩
    rw [hm1, zn_le (by omega) (by omega)]
    exact Nat.le_refl _
  | f + 1, i, o, M, hi, h, hF, hr => by
    have h8 : σ.1.2.1 ≤ 8 := h.g.2.1
    have hm1 : M.1 2 1 = nI σ.1.2.1 := h.m1
    obtain ⟨M5, g1, g2, g3⟩ := s_cputs h (by omega) (x := (nI (crd v σ.1.2.1 (w i))).toInt64) rfl
    obtain ⟨M', k1, k2⟩ := s_X9_tellsLocated_11 hb hw ha hb3 f (i + 1) (some (.int (nI (crd v σ.1.2.1 (w i))))) M5 (by omega) g2 (hF.e (g3 5 (by decide)) (g3 6 (by decide)) (g3 7 (by decide))) (hr.e (g3 b hb3))
    refine ⟨M', t_X9_tellsLocated_11 _ _ _ _ _ ⟨fun c => ?_, fun _ => ⟨ha, zn_in (by omega) (by decide), nI (crd v σ.1.2.1 (w i)), ?_, M5, g1, _, s_bitCount M5 (z256 h8 crd_lt), ?_⟩⟩, k2⟩
    · rw [hm1, zn_le (by omega) (by omega)] at c
      omega
    · rw [zn_cl (by omega), hr i (by omega)]
      exact s_located hF hb h8 (hw i (by omega))
    · rw [nI_add, nI_1]
      exact k1
theorem s_X9_tellsLocated {b : Nat} {v w : Nat → Nat} (h : zC M0 σ M) (hb : zbas σ.1.2.1 v) (hw : ∀ i, i < σ.1.2.1 → w i < 2 ^ σ.1.2.1) (ha : zar b) (hb3 : ¬ b = 73) (hF : zfr v σ.1.2.1 M) (hr : zrow M b σ.1.2.1 w) : ∃ M', mq_C mq_X9_tellsLocated [.ref 0, .ref b] M (some (.int (nI (zs (zcp v w σ.1.2.1) σ.1.2.1))), M') ∧ zC M0 (zrw σ (σ.1.2.1, zcf v w σ.1.2.1)) M' := by
  obtain ⟨M1, g1, g2, g3, -⟩ := s_cempties h (zcf v w σ.1.2.1)
  obtain ⟨M', k1, k2⟩ := s_X9_tellsLocated_11 hb hw ha hb3 σ.1.2.1 0 none M1 (by omega) g2 (hF.e (g3 5 (by decide)) (g3 6 (by decide)) (g3 7 (by decide))) (hr.e (g3 b hb3))
  exact ⟨M', t_X9_tellsLocated_0 _ _ ⟨M1, g1, k1⟩, k2⟩
/-- the frame takes a slot in -/
theorem s_cholds (h : zC M0 σ M) {s : Nat} (hs : s < 4) : ∃ (x : Int32) (M' : mz_M), mq_C mq_X1_holds [.ref 5, .ref (10 + s), .int (M.1 2 1)] M (some (.int x), M') ∧ zC M0 σ M' ∧ zfr (σ.1.2.2 s) σ.1.2.1 M' ∧ zK [5, 6, 7] M M' := by
  have h8 := h.g.2.1
  obtain ⟨M', g1, g2, g3⟩ := s_X1_holds h8 (zar10 hs) (by simp; omega) (fun j hj => z256 h8 ((h.b hs).2 j hj)) (h.s hs)
  exact ⟨_, M', by rw [h.m1]; exact g1, h.k g2 (by decide), g3, g2⟩
end ZQ
