/-! the class: THE TEXT -/
section CT
variable {M0 M M' : mz_M} {σ : zSg} {t : Nat × (Nat → Nat)}
theorem zC.tk (h : zC M0 σ M) : ytk σ.2.2.2.1 := ⟨h.2.2.2.2.2.2.1.1, fun k hk => (h.2.2.2.2.2.2.1.2.2 k hk).1⟩
/-- a text laid in place of the other -/
theorem zC.tx (h : zC M0 σ M) (h2 : M'.2 = M.2) (e : ∀ b, ¬ b = 70 → ¬ b = 71 → b ∉ [5, 6, 7, 72, 75, 76] → M'.1 b = M.1 b) (ht : zQt t M') : zC M0 (ztx σ t) M' := by
  obtain ⟨h0, a1, a2, a3, a4, a5, a6, a7⟩ := h
  refine ⟨h0.tr (fun c hc => ⟨e c (by omega) (by omega) (fun q => ?_), by rw [h2]⟩), a1, a2.e (e _ (by decide) (by decide) (by decide)) (e _ (by decide) (by decide) (by decide)) (e _ (by decide) (by decide) (by decide)), a3.e (fun b hb => e b (by omega) (by omega) (fun q => ?_)), a4.e (e _ (by decide) (by decide) (by decide)) (fun b h1 h2 => e b (by omega) (by omega) (fun q => ?_)), a5.e (fun b h1 h2 => e b (by omega) (by omega) (fun q => ?_)), ht, a7.e (e _ (by decide) (by decide) (by decide)) (by rw [h2])⟩
  all_goals
    simp only [List.mem_cons, List.not_mem_nil, or_false] at q
    omega
/-- the class reads: at place p -/
def ycr (M0 : mz_M) (σ : zSg) (p : Nat) (M : mz_M) : Prop := zC M0 σ M ∧ M.1 70 3 = nI p ∧ p ≤ σ.2.2.2.1.1
theorem ycr.len {p : Nat} (h : ycr M0 σ p M) : M.1 70 2 = nI σ.2.2.2.1.1 := h.1.2.2.2.2.2.2.1.2.1
theorem zC.pos (h : zC M0 σ M) {p : Nat} (hp : p ≤ σ.2.2.2.1.1) : ycr M0 σ p (mz_wr M 70 (upd (M.1 70) 3 (nI p))) := by
  refine ⟨?_, by rw [zwr_s, zupd_s], hp⟩
  have h1 := h.tx (t := σ.2.2.2.1) (M' := mz_wr M 70 (upd (M.1 70) 3 (nI p))) rfl (fun b hb _ _ => zwr_n hb) (h.2.2.2.2.2.2.1.e (by rw [zwr_s, zupd_n (by decide)]) (zwr_n (by decide)))
  exact h1
theorem ycr.k {S : List Nat} {p : Nat} (h : ycr M0 σ p M) (hk : zK S M M') (hS : ∀ c ∈ S, c ∈ [5, 6, 7, 72, 75, 76]) : ycr M0 σ p M' := ⟨h.1.k hk hS, by rw [hk.2 70 (fun q => by have := hS 70 q; simp at this)]; exact h.2.1, h.2.2⟩
theorem s_X8_signAt {p : Nat} (h : zC M0 σ M) (hp : p ≤ 1000) : mq_C mq_X8_signAt [.ref 70, .int (nI p)] M (some (.int (yI (ysg σ.2.2.2.1 p))), M) := by
  have hk := h.tk
  have h100 := hk.1
  have hl : M.1 70 2 = nI σ.2.2.2.1.1 := h.2.2.2.2.2.2.1.2.1
  have ha := h.2.2.2.2.2.2.1.2.2
  refine t_X8_signAt_0 _ _ ⟨fun c => absurd c (nI_pos (by omega)), fun _ => ?_⟩
  rw [hl, zn_le (by omega) (by omega)]
  unfold ysg
  refine ⟨fun c => ?_, fun c => ⟨zn_in (by omega) (by decide), ?_⟩⟩
  · rw [if_neg (by omega)]; rfl
  · obtain ⟨a1, a2⟩ := ha p (by omega)
    rw [zn_cl (by omega), a2, if_pos (by omega)]
    unfold yI
    rw [if_neg (by omega)]
theorem s_cemptyT (h : zC M0 σ M) : ∃ M', mq_C mq_X8_empties [.ref 70] M (none, M') ∧ zC M0 (ztx σ (0, σ.2.2.2.1.2)) M' ∧ ∀ c, ¬ c = 70 → M'.1 c = M.1 c := by
  refine ⟨mz_wr M 70 (upd (M.1 70) 2 0), t_X8_empties_0 _ (fun N n1 => by rw [n1]), h.tx rfl (fun b hb _ _ => zwr_n hb) ⟨Nat.zero_le _, by rw [zwr_s, zupd_s]; rfl, fun k hk => absurd hk (Nat.not_lt_zero k)⟩, fun c hc => zwr_n hc⟩
/-! signs -/
theorem ym8 (n : Nat) : nI (n + 8) + (-8) = nI n := by
  rw [← nI_add, Int32.add_assoc, show nI 8 + (-8 : Int32) = 0 by decide, Int32.add_zero]
theorem c_X9_sign_16 {x : Int32} (hk : ytk t) (ht : t.1 + 4 ≤ 100) : ∀ (j : Nat) (M : mz_M), j ≤ 4 → zC M0 (ztx σ (t.1 + (4 - j), ysf t x)) M → ∃ M', mq_G mq_X8_takes (16, [some (.ref 70), some (.int x), some (.int (nI (8 * j) + (-8)))], [], M) (some (.int 1), M') ∧ zC M0 (ztx σ (t.1 + 4, ysf t x)) M'
  | 0, M, hj, h => ⟨M, t_X8_takes_16 _ _ _ ⟨fun _ => rfl, fun c => absurd (by decide +kernel) c⟩, h⟩
  | j + 1, M, hj, h => by
    have h7 : M.1 70 2 = nI (t.1 + (4 - (j + 1))) := h.2.2.2.2.2.2.1.2.1
    obtain ⟨M2, e2⟩ : ∃ y, y = mz_wr M 71 (upd (M.1 71) (t.1 + (4 - (j + 1))) (nI (yby4 x j))) := ⟨_, rfl⟩
    obtain ⟨M4, e4⟩ : ∃ y, y = mz_wr M2 70 (upd (M2.1 70) 2 (nI (t.1 + (4 - j)))) := ⟨_, rfl⟩
    have f70 : M2.1 70 = M.1 70 := by rw [e2, zwr_n (by decide)]
    have hv : ysf t x (t.1 + (4 - (j + 1))) = yby4 x j := by
      unfold ysf
      rw [if_neg (by omega), show 3 - (t.1 + (4 - (j + 1)) - t.1) = j by omega]
    have h4 : zC M0 (ztx σ (t.1 + (4 - j), ysf t x)) M4 := by
      have := h.tx (t := (t.1 + (4 - j), ysf t x)) (M' := M4) (by rw [e4, zwr_2, e2, zwr_2]) (fun b h1 h2 _ => by rw [e4, zwr_n h1, e2, zwr_n h2]) ⟨by show t.1 + (4 - j) ≤ 100; omega, by rw [e4, zwr_s, zupd_s], fun k hk2 => ?_⟩
      · exact this
      · have hk2 : k < t.1 + (4 - j) := hk2
        show ysf t x k < 256 ∧ M4.1 71 k = nI (ysf t x k)
        refine ⟨ysf_lt hk x k, ?_⟩
        rw [e4, zwr_n (by decide), e2, zwr_s]
        by_cases e : k = t.1 + (4 - (j + 1))
        · rw [e, zupd_s, hv]
        · rw [zupd_n e]
          exact (h.2.2.2.2.2.2.1.2.2 k (show k < t.1 + (4 - (j + 1)) by omega)).2
    obtain ⟨M', k1, k2⟩ := c_X9_sign_16 hk ht j M4 (by omega) h4
    refine ⟨M', ?_, k2⟩
    rw [show 8 * (j + 1) = 8 * j + 8 by omega, ym8]
    refine t_X8_takes_16 _ _ _ ⟨fun c => absurd c (nI_pos (by omega)), fun _ => ⟨by rw [h7]; exact zn_in (by omega) (by decide), fun N2 n2 N4 n4 => ?_⟩⟩
    rw [h7, zn_cl (by omega), ← yby4_eq, ← e2] at n2
    rw [n2, f70, h7, nI_1, show t.1 + (4 - (j + 1)) + 1 = t.1 + (4 - j) by omega, ← f70, ← e4] at n4
    rw [n4]
    exact k1
theorem c_X9_sign (h : zC M0 σ M) (x : Int32) : zE M0 mq_X9_sign [.ref 0, .int x] M (k_sign σ x) := by
  have hk := h.tk
  have h100 := hk.1
  have hl : M.1 70 2 = nI σ.2.2.2.1.1 := h.2.2.2.2.2.2.1.2.1
  have hcmp : (M.1 70 2 + 4) ≤ 100 ↔ σ.2.2.2.1.1 + 4 ≤ 100 := by
    rw [hl, show (4 : Int32) = nI 4 from rfl, show (100 : Int32) = nI 100 from rfl, nI_add, zn_le (by omega) (by decide)]
  unfold zE k_sign
  by_cases e : σ.2.2.2.1.1 + 4 ≤ 100
  · rw [if_pos e]
    have h2 : zC M0 (ztx σ (σ.2.2.2.1.1 + (4 - 4), ysf σ.2.2.2.1 x)) M := by
      refine h.tx rfl (fun _ _ _ _ => rfl) ⟨h100, hl, fun k hk2 => ?_⟩
      have hk2 : k < σ.2.2.2.1.1 := hk2
      show ysf σ.2.2.2.1 x k < 256 ∧ M.1 71 k = nI (ysf σ.2.2.2.1 x k)
      unfold ysf
      rw [if_pos hk2]
      exact h.2.2.2.2.2.2.1.2.2 k hk2
    obtain ⟨M', k1, k2⟩ := c_X9_sign_16 hk e 4 M (Nat.le_refl 4) h2
    exact ⟨M', t_X9_sign_0 _ _ ⟨1, M', t_X8_takes_0 _ _ ⟨fun _ => k1, fun c => absurd (hcmp.mpr e) c⟩, fun c => absurd c z10, fun _ => by rw [show M'.1 70 2 = nI (σ.2.2.2.1.1 + 4) from k2.2.2.2.2.2.2.1.2.1]⟩, k2⟩
  · rw [if_neg e]
    exact ⟨M, t_X9_sign_0 _ _ ⟨0, M, t_X8_takes_0 _ _ ⟨fun c => absurd (hcmp.mp c) e, fun _ => rfl⟩, fun _ => rfl, fun c => absurd rfl c⟩, h⟩
theorem c_X9_end (h : zC M0 σ M) (x : Int32) : zE M0 mq_X9_end [.ref 0, .int x] M (k_end σ x) := by
  have h100 := h.tk.1
  have hl : M.1 70 2 = nI σ.2.2.2.1.1 := h.2.2.2.2.2.2.1.2.1
  by_cases e : zbt 0 (nI σ.2.2.2.1.1) x = true
  · simp only [zE, k_end, e, if_true]
    obtain ⟨n, -, hn, rfl⟩ := zbtn (a := 0) (by decide) (show σ.2.2.2.1.1 < 2 ^ 31 by omega) e
    rw [zu_nI (by omega)]
    refine ⟨mz_wr M 70 (upd (M.1 70) 2 (nI n)), t_X9_end_0 _ _ ⟨1, _, t_X8_shortens_0 _ _ ⟨fun c => absurd c (nI_pos (by omega)), fun _ => ⟨fun _ N n3 => by rw [n3], fun c => absurd ?_ c⟩⟩, Or.inr rfl, rfl⟩, h.tx rfl (fun b hb _ _ => zwr_n hb) ⟨by show n ≤ 100; omega, by rw [zwr_s, zupd_s], fun k hk => ?_⟩⟩
    · rw [hl]
      exact (zbt_iff.mp e).2
    · have hk : k < n := hk
      rw [zwr_n (by decide)]
      exact h.2.2.2.2.2.2.1.2.2 k (by omega)
  · simp only [zE, k_end, e]
    refine ⟨M, t_X9_end_0 _ _ ⟨0, M, t_X8_shortens_0 _ _ ⟨fun _ => rfl, fun c => ⟨fun d => absurd (zbt_iff.mpr ⟨Int32.not_lt.mp c, ?_⟩) e, fun _ => rfl⟩⟩, Or.inl rfl, rfl⟩, h⟩
    rw [hl] at d
    exact d
/-! POLY read -/
theorem ydig {s : Nat} (hs : s < 256 ∨ s = 1000) (a : Nat) (ha : a ≤ 9) (h50 : ¬ (50 ≤ s ∧ s < 48 + a)) : (yI s - 48) < 2 ∨ nI a ≤ (yI s - 48) := by
  rcases hs with h | h
  · unfold yI
    rw [if_neg (by omega)]
    by_cases e : s < 50
    · left
      have : ∀ s, s < 50 → (nI s - 48) < 2 := by decide +kernel
      exact this s e
    · right
      rw [show (48 : Int32) = nI 48 from rfl, zn_sub (by omega), zn_le (by omega) (by omega)]
      omega
  · left
    rw [h]
    decide
theorem s_X8_powerRead {p a : Nat} (h : ycr M0 σ p M) (h1 : 1 ≤ a) (ha : a ≤ 9) : ∃ M', mq_C mq_X8_powerRead [.ref 70, .int (nI a)] M (some (.int (zNo (ypw σ.2.2.2.1 p a).1)), M') ∧ ycr M0 σ (ypw σ.2.2.2.1 p a).2 M' := by
  have hk := h.1.tk
  have h100 := hk.1
  have hp := h.2.2
  have s1 := s_X8_signAt h.1 (p := p) (by omega)
  have ho := ysg_ok hk p
  have r49 : yI (ysg σ.2.2.2.1 p) = 49 ↔ ysg σ.2.2.2.1 p = 49 := yI_eq (c := 49) ho (by decide)
  have r120 : yI (ysg σ.2.2.2.1 p) = 120 ↔ ysg σ.2.2.2.1 p = 120 := yI_eq (c := 120) ho (by decide)
  have s1 : mq_C mq_X8_signAt [.ref 70, .int (M.1 70 3)] M (some (.int (yI (ysg σ.2.2.2.1 p))), M) := by rw [h.2.1]; exact s1
  -- the flag: is it the first
  have flag : ∀ {res : mz_O}, (∀ s0 : Int32, (a < 9 → s0 = 0) → (¬ a < 9 → s0 = 1) → mq_G mq_X8_powerRead (11, [some (.ref 70), some (.int (nI a)), none, none, none], [.int s0], M) res) → mq_C mq_X8_powerRead [.ref 70, .int (nI a)] M res := by
    intro res g
    refine t_X8_powerRead_0 _ _ ⟨fun c => g 0 (fun _ => rfl) (fun q => ?_), fun c => g 1 (fun q => ?_) (fun _ => rfl)⟩
    · rw [show (8 : Int32) = nI 8 from rfl, zn_le (by omega) (by decide)] at c
      omega
    · rw [show (8 : Int32) = nI 8 from rfl, zn_le (by omega) (by decide)] at c
      omega
  by_cases e1 : ysg σ.2.2.2.1 p = 49 ∧ a < 9
  · have hl := ysg_lt e1.1 (by decide)
    have u1 : ypw σ.2.2.2.1 p a = (some 0, p + 1) := if_pos e1
    rw [u1]
    refine ⟨_, flag (fun s0 f1 f2 => t_X8_powerRead_11 _ _ _ _ _ _ ⟨_, s1, fun c => absurd (r49.mpr e1.1) c, fun _ => ⟨fun c => absurd (f1 e1.2) c, fun _ N n4 => ?_⟩⟩), h.1.pos (p := p + 1) (by omega)⟩
    rw [h.2.1, nI_1] at n4
    rw [n4]
    rfl
  · have g41 : ∀ {res : mz_O}, (∀ (s0 : Int32) (o3 o4 : Option Value), (a < 9 → s0 = 0) → (¬ a < 9 → s0 = 1) → mq_G mq_X8_powerRead (41, [some (.ref 70), some (.int (nI a)), some (.int s0), o3, o4], [], M) res) → mq_C mq_X8_powerRead [.ref 70, .int (nI a)] M res := by
      intro res g
      refine flag (fun s0 f1 f2 => t_X8_powerRead_11 _ _ _ _ _ _ ⟨_, s1, fun _ => g s0 _ _ f1 f2, fun c => ⟨fun _ => g s0 _ _ f1 f2, fun d => absurd ⟨r49.mp (Classical.not_not.mp c), ?_⟩ e1⟩⟩)
      exact Classical.byContradiction (fun q => d (by rw [f2 q]; decide))
    by_cases e2 : ysg σ.2.2.2.1 p = 120 ∧ 2 ≤ a
    · have hl := ysg_lt e2.1 (by decide)
      have u1 : ypw σ.2.2.2.1 p a = (if 50 ≤ ysg σ.2.2.2.1 (p + 1) ∧ ysg σ.2.2.2.1 (p + 1) < 48 + a then (some (ysg σ.2.2.2.1 (p + 1) - 48), p + 2) else if a < 9 ∧ (p + 1 = σ.2.2.2.1.1 ∨ ysg σ.2.2.2.1 (p + 1) = 43) then (some 1, p + 1) else (none, p + 1)) := by
        unfold ypw
        rw [if_neg e1, if_pos e2]
      obtain ⟨M4, d4⟩ : ∃ y, y = mz_wr M 70 (upd (M.1 70) 3 (nI (p + 1))) := ⟨_, rfl⟩
      have h4 : ycr M0 σ (p + 1) M4 := by rw [d4]; exact h.1.pos (by omega)
      have s4 : mq_C mq_X8_signAt [.ref 70, .int (M4.1 70 3)] M4 (some (.int (yI (ysg σ.2.2.2.1 (p + 1)))), M4) := by rw [h4.2.1]; exact s_X8_signAt h4.1 (by omega)
      have osg := ysg_ok hk (p + 1)
      have c2 : (2 : Int32) ≤ nI a := by
        rw [show (2 : Int32) = nI 2 from rfl, zn_le (by decide) (by omega)]
        exact e2.2
      by_cases e3 : 50 ≤ ysg σ.2.2.2.1 (p + 1) ∧ ysg σ.2.2.2.1 (p + 1) < 48 + a
      · rw [u1, if_pos e3]
        have hl2 : p + 1 < σ.2.2.2.1.1 := ysg_lt rfl (by omega)
        have hd : yI (ysg σ.2.2.2.1 (p + 1)) - 48 = nI (ysg σ.2.2.2.1 (p + 1) - 48) := by
          unfold yI
          rw [if_neg (by omega), show (48 : Int32) = nI 48 from rfl, zn_sub (by omega)]
        refine ⟨_, g41 (fun s0 o3 o4 f1 f2 => t_X8_powerRead_41 _ _ _ _ _ ⟨_, s1, fun c => absurd (r120.mpr e2.1) c, fun _ => ⟨fun _ N n4 => ?_, fun c => absurd c2 c⟩⟩), h4.1.pos (p := p + 2) (by omega)⟩
        rw [h.2.1, nI_1, ← d4] at n4
        rw [n4]
        refine ⟨_, s4, ?_⟩
        rw [hd]
        refine ⟨fun c => ?_, fun _ => ⟨fun c => ?_, fun _ => ⟨fun c => ?_, fun _ N9 n9 => ?_⟩⟩⟩
        · rw [show (2 : Int32) = nI 2 from rfl, zn_lt (by omega) (by decide)] at c
          omega
        · rw [zn_le (by omega) (by omega)] at c
          omega
        · rw [show (8 : Int32) = nI 8 from rfl, zn_lt (by decide) (by omega)] at c
          omega
        · rw [h4.2.1, nI_1] at n9
          rw [n9]
          rfl
      · rw [u1, if_neg e3]
        have g111 : ∀ {res : mz_O}, (∀ (s0 : Int32) (o3 o4 : Option Value), (a < 9 → s0 = 0) → (¬ a < 9 → s0 = 1) → mq_G mq_X8_powerRead (111, [some (.ref 70), some (.int (nI a)), some (.int s0), o3, o4], [], M4) res) → mq_C mq_X8_powerRead [.ref 70, .int (nI a)] M res := by
          intro res g
          refine g41 (fun s0 o3 o4 f1 f2 => t_X8_powerRead_41 _ _ _ _ _ ⟨_, s1, fun c => absurd (r120.mpr e2.1) c, fun _ => ⟨fun _ N n4 => ?_, fun c => absurd c2 c⟩⟩)
          rw [h.2.1, nI_1, ← d4] at n4
          rw [n4]
          refine ⟨_, s4, fun _ => g s0 _ _ f1 f2, fun c => ⟨fun _ => g s0 _ _ f1 f2, fun d => absurd ?_ e3⟩⟩
          rcases ydig osg a ha e3 with q | q
          · exact absurd q c
          · exact absurd q d
        have r43 : yI (ysg σ.2.2.2.1 (p + 1)) = 43 ↔ ysg σ.2.2.2.1 (p + 1) = 43 := yI_eq (c := 43) osg (by decide)
        have epos : M4.1 70 3 = M4.1 70 2 ↔ p + 1 = σ.2.2.2.1.1 := by rw [h4.2.1, h4.len, zn_eq (by omega) (by omega)]
        by_cases e4 : p + 1 = σ.2.2.2.1.1 ∨ ysg σ.2.2.2.1 (p + 1) = 43
        · have g135 : ∀ {res : mz_O}, (∀ (s0 : Int32) (o3 o4 : Option Value), (a < 9 → s0 = 0) → (¬ a < 9 → s0 = 1) → mq_G mq_X8_powerRead (140, [some (.ref 70), some (.int (nI a)), some (.int s0), o3, o4], [.int 1], M4) res) → mq_C mq_X8_powerRead [.ref 70, .int (nI a)] M res := by
            intro res g
            refine g111 (fun s0 o3 o4 f1 f2 => t_X8_powerRead_111 _ _ _ _ _ ⟨fun _ => t_X8_powerRead_135 _ _ _ _ _ _ (g s0 _ _ f1 f2), fun c => ⟨_, s4, fun d => absurd (r43.mpr (e4.resolve_left (fun q => c (epos.mpr q)))) d, fun _ => t_X8_powerRead_135 _ _ _ _ _ _ (g s0 _ _ f1 f2)⟩⟩)
          by_cases e9 : a < 9
          · rw [if_pos ⟨e9, e4⟩]
            exact ⟨M4, g135 (fun s0 o3 o4 f1 f2 => t_X8_powerRead_140 _ _ _ _ _ _ _ ⟨fun c => absurd c z10, fun _ => ⟨fun c => absurd (f1 e9) c, fun _ => t_X8_powerRead_156 _ _ _ _ _ _ _ rfl⟩⟩), h4⟩
          · rw [if_neg (fun q => e9 q.1)]
            exact ⟨M4, g135 (fun s0 o3 o4 f1 f2 => t_X8_powerRead_140 _ _ _ _ _ _ _ ⟨fun c => absurd c z10, fun _ => ⟨fun _ => t_X8_powerRead_155 _ _ _ _ _ _ (t_X8_powerRead_156 _ _ _ _ _ _ _ rfl), fun c => absurd (by rw [f2 e9]; decide) c⟩⟩), h4⟩
        · rw [if_neg (fun q => e4 q.2)]
          exact ⟨M4, g111 (fun s0 o3 o4 f1 f2 => t_X8_powerRead_111 _ _ _ _ _ ⟨fun c => absurd (Or.inl (epos.mp c)) e4, fun _ => ⟨_, s4, fun _ => t_X8_powerRead_140 _ _ _ _ _ _ _ ⟨fun _ => t_X8_powerRead_155 _ _ _ _ _ _ (t_X8_powerRead_156 _ _ _ _ _ _ _ rfl), fun c => absurd rfl c⟩, fun c => absurd (Or.inr (r43.mp (Classical.not_not.mp c))) e4⟩⟩), h4⟩
    · have u1 : ypw σ.2.2.2.1 p a = (none, p) := by
        unfold ypw
        rw [if_neg e1, if_neg e2]
      rw [u1]
      refine ⟨M, g41 (fun s0 o3 o4 f1 f2 => t_X8_powerRead_41 _ _ _ _ _ ⟨_, s1, fun _ => t_X8_powerRead_59 _ _ _ _ _ _ rfl, fun c => ⟨fun d => absurd ?_ e2, fun _ => t_X8_powerRead_59 _ _ _ _ _ _ rfl⟩⟩), h⟩
      rw [show (2 : Int32) = nI 2 from rfl, zn_le (by decide) (by omega)] at d
      exact ⟨r120.mp (Classical.not_not.mp c), d⟩
theorem c_X9_poly_12 : ∀ (k p a acc j : Nat) (M : mz_M), ycr M0 σ p M → a ≤ 9 → 1 ≤ a → a ≤ k → a + j ≤ 9 → acc < 512 → (a < 9 → 4 ≤ acc) → ∃ M', (∀ o : Option Value, mq_G mq_X8_polynomialRead (12, [some (.ref 70), some (.int (nI acc)), some (.int (nI a)), some (.int (nI j)), o], [], M) (some (.int (match (yrp σ.2.2.2.1 k p a acc).1 with
  | some P => nI P
  | none => (-21) - nI (yrp σ.2.2.2.1 k p a acc).2)), M')) ∧ zC M0 σ M' ∧ (∀ P, (yrp σ.2.2.2.1 k p a acc).1 = some P → 4 ≤ P ∧ P < 512) ∧ ((yrp σ.2.2.2.1 k p a acc).1 = none → (yrp σ.2.2.2.1 k p a acc).2 ≤ σ.2.2.2.1.1)
  | 0, p, a, acc, j, M, h, ha, h1, hk, hj, hacc, hac4 => by omega
  | k + 1, p, a, acc, j, M, h, ha, h1, hk, hj, hacc, hac4 => by
    have htk := h.1.tk
    have h100 := htk.1
    obtain ⟨M2, g1, h2⟩ := s_X8_powerRead h h1 ha
    obtain ⟨hb0, hb⟩ := ypw_p (t := σ.2.2.2.1) h.2.2 ha
    have hy : yrp σ.2.2.2.1 (k + 1) p a acc = yrp1 σ.2.2.2.1 acc (ypw σ.2.2.2.1 p a) (fun w acc' => yrp σ.2.2.2.1 k ((ypw σ.2.2.2.1 p a).2 + 1) w acc') := rfl
    have c1 : ¬ (8 : Int32) < nI j := by
      rw [show (8 : Int32) = nI 8 from rfl, zn_lt (by decide) (by omega)]
      omega
    rw [hy]
    generalize hr : ypw σ.2.2.2.1 p a = r at g1 h2 hb0 hb ⊢
    obtain ⟨r1, q⟩ := r
    have hq : q ≤ σ.2.2.2.1.1 := hb0
    have e3 : M2.1 70 3 = nI q := h2.2.1
    cases r1 with
    | none =>
      refine ⟨M2, fun o => t_X8_polynomialRead_12 _ _ _ _ _ ⟨fun c => absurd c c1, fun _ => ⟨-1, M2, g1, fun c => absurd rfl c, fun _ => by rw [e3]; rfl⟩⟩, h2.1, fun P z => (by cases z), fun _ => hq⟩
    | some n =>
      have hn := hb n rfl
      have hn8 : n ≤ 8 := by omega
      have hp8 : 2 ^ n ≤ 256 := zq256 hn8
      have hacc' : acc ||| 2 ^ n < 512 := Nat.or_lt_two_pow (n := 9) hacc (by omega)
      have hac4' : 4 ≤ acc ||| 2 ^ n := by
        by_cases e : a < 9
        · exact Nat.le_trans (hac4 e) Nat.left_le_or
        · have : 2 ^ 2 ≤ 2 ^ n := Nat.pow_le_pow_right (by decide) (by omega)
          exact Nat.le_trans this Nat.right_le_or
      have g1 : mq_C mq_X8_powerRead [.ref 70, .int (nI a)] M (some (.int (nI n)), M2) := g1
      have hsh : nI acc ||| ((1 : Int32) <<< (nI n &&& 31)) = nI (acc ||| 2 ^ n) := by rw [zone_shl (by omega), zn_or]
      have epos : M2.1 70 3 = M2.1 70 2 ↔ q = σ.2.2.2.1.1 := by rw [e3, h2.len, zn_eq (by omega) (by omega)]
      have s2 : mq_C mq_X8_signAt [.ref 70, .int (M2.1 70 3)] M2 (some (.int (yI (ysg σ.2.2.2.1 q))), M2) := by rw [e3]; exact s_X8_signAt h2.1 (by omega)
      have r43 : yI (ysg σ.2.2.2.1 q) = 43 ↔ ysg σ.2.2.2.1 q = 43 := yI_eq (c := 43) (ysg_ok htk q) (by decide)
      unfold yrp1
      dsimp only
      by_cases eq : q = σ.2.2.2.1.1
      · rw [if_pos eq]
        refine ⟨M2, fun o => t_X8_polynomialRead_12 _ _ _ _ _ ⟨fun c => absurd c c1, fun _ => ⟨_, M2, g1, fun _ => ⟨fun c => absurd (epos.mpr eq) c, fun _ => by rw [hsh]⟩, fun c => absurd (ym1 (by omega)) c⟩⟩, h2.1, fun P z => ?_, fun z => (by cases z)⟩
        have z : acc ||| 2 ^ n = P := Option.some.inj z
        omega
      · rw [if_neg eq]
        by_cases e0 : n = 0 ∨ ysg σ.2.2.2.1 q ≠ 43
        · rw [if_pos e0]
          refine ⟨M2, fun o => t_X8_polynomialRead_12 _ _ _ _ _ ⟨fun c => absurd c c1, fun _ => ⟨_, M2, g1, fun _ => ⟨fun _ => ⟨fun _ => by rw [e3], fun c => ⟨_, s2, fun d => absurd ?_ c, fun _ => by rw [e3]⟩⟩, fun c => absurd (fun z => eq (epos.mp z)) c⟩, fun c => absurd (ym1 (by omega)) c⟩⟩, h2.1, fun P z => (by cases z), fun _ => hq⟩
          rw [zn_eq0 (by omega)]
          exact Classical.byContradiction (fun z => (e0.resolve_left z) (r43.mp d))
        · rw [if_neg e0]
          have hs43 : ysg σ.2.2.2.1 q = 43 := Classical.byContradiction (fun z => e0 (Or.inr z))
          have hn0 : ¬ n = 0 := fun z => e0 (Or.inl z)
          have hlt := ysg_lt hs43 (by decide)
          obtain ⟨M', k1, k2⟩ := c_X9_poly_12 k (q + 1) n (acc ||| 2 ^ n) (j + 1) _ (h2.1.pos (p := q + 1) (by omega)) (by omega) (by omega) (by omega) (by omega) hacc' (fun _ => hac4')
          refine ⟨M', fun o => t_X8_polynomialRead_12 _ _ _ _ _ ⟨fun c => absurd c c1, fun _ => ⟨_, M2, g1, fun _ => ⟨fun _ => ⟨fun c => ?_, fun _ => ⟨_, s2, fun _ N n8 => ?_, fun c => absurd (r43.mpr hs43) c⟩⟩, fun c => absurd (fun z => eq (epos.mp z)) c⟩, fun c => absurd (ym1 (by omega)) c⟩⟩, k2⟩
          · rw [zn_eq0 (by omega)] at c
            exact absurd c hn0
          · rw [e3, nI_1] at n8
            rw [n8, hsh, nI_1]
            exact k1 _
theorem c_X9_poly (h : zC M0 σ M) (x : Int32) : zE M0 mq_X9_poly [.ref 0, .int x] M (k_poly σ x) := by
  have dg := s_X4_degreeOf M x
  by_cases e : zbt 4 511 x = true
  · simp only [zE, k_poly, e, if_true]
    obtain ⟨P, p4, p5, rfl⟩ := zbtn (a := 4) (b := 511) (by decide) (by decide) e
    rw [zu_nI (by omega)]
    have hir := s_X4_isIrreducible M (show 2 ≤ P by omega) (show P < 1024 by omega)
    have hd := zlog_deg (n := P) (by omega) (by omega)
    have hl8 : P.log2 ≤ 8 := by
      have : P.log2 < 9 := (Nat.log2_lt (by omega)).mpr (show P < 2 ^ 9 by omega)
      omega
    have hl2 : 2 ≤ P.log2 := (Nat.le_log2 (by omega)).mpr (show 2 ^ 2 ≤ P by omega)
    rw [hd] at dg
    have c1 : ¬ nI P.log2 < 2 := by
      rw [show (2 : Int32) = nI 2 from rfl, zn_lt (by omega) (by decide)]
      omega
    have c2 : nI P.log2 ≤ 8 := by
      rw [show (8 : Int32) = nI 8 from rfl, zn_le (by omega) (by decide)]
      exact hl8
    by_cases e2 : zirr P = true
    · rw [if_pos e2]
      rw [e2] at hir
      obtain ⟨g, hz⟩ := zirr_mem p4 (show P < 512 by omega) e2
      obtain ⟨M', a1, a2⟩ := s_X9_tellsField h hz
      exact ⟨M', t_X9_poly_0 _ _ ⟨_, dg, fun c => absurd c c1, fun _ => ⟨fun _ => ⟨1, hir, fun c => absurd c z10, fun _ => ⟨_, M', a1, rfl⟩⟩, fun c => absurd c2 c⟩⟩, a2⟩
    · rw [if_neg e2]
      rw [show zirr P = false by simpa using e2] at hir
      exact ⟨M, t_X9_poly_0 _ _ ⟨_, dg, fun c => absurd c c1, fun _ => ⟨fun _ => ⟨0, hir, fun _ => rfl, fun c => absurd rfl c⟩, fun c => absurd c2 c⟩⟩, h⟩
  · simp only [zE, k_poly, e]
    by_cases hx : x ≤ 0
    · have hd : zdeg x = -1 := if_pos hx
      rw [hd] at dg
      exact ⟨M, t_X9_poly_0 _ _ ⟨_, dg, fun _ => rfl, fun c => absurd (by decide) c⟩, h⟩
    · obtain ⟨n, hn, rfl⟩ := zn_of (Int32.le_of_lt (Int32.not_le.mp hx))
      have hn0 : n ≠ 0 := fun q => hx (by rw [q]; decide)
      have hd := zlog_deg (n := n) hn0 hn
      rw [hd] at dg
      have hl31 : n.log2 < 31 := (Nat.log2_lt hn0).mpr hn
      have hnb : n < 4 ∨ 512 ≤ n := by
        apply Classical.byContradiction
        intro q
        exact e (zbt_iff.mpr ⟨by rw [show (4 : Int32) = nI 4 from rfl, zn_le (by decide) hn]; omega, by rw [show (511 : Int32) = nI 511 from rfl, zn_le hn (by decide)]; omega⟩)
      refine ⟨M, t_X9_poly_0 _ _ ⟨_, dg, fun _ => rfl, fun c => ⟨fun d => ?_, fun _ => rfl⟩⟩, h⟩
      rw [show (2 : Int32) = nI 2 from rfl, zn_lt (by omega) (by decide)] at c
      rw [show (8 : Int32) = nI 8 from rfl, zn_le (by omega) (by decide)] at d
      exfalso
      have h2 := (Nat.le_log2 hn0).mp (show 2 ≤ n.log2 by omega)
      have h9 := (Nat.log2_lt hn0).mp (show n.log2 < 9 by omega)
      omega
theorem c_X9_field (h : zC M0 σ M) : zE M0 mq_X9_field [.ref 0] M (k_field σ) := by
  have h100 := h.tk.1
  have h0 := h.pos (p := 0) (Nat.zero_le _)
  obtain ⟨M1, g1, g2, g3, g4⟩ := c_X9_poly_12 9 0 9 0 0 _ h0 (Nat.le_refl 9) (by decide) (Nat.le_refl 9) (by decide) (by decide) (fun c => absurd c (by decide))
  obtain ⟨M2, f1, f2, -⟩ := s_cemptyT g2
  have rd : mq_C mq_X8_polynomialRead [.ref 70] M (some (.int (match (yrp σ.2.2.2.1 9 0 9 0).1 with
    | some P => nI P
    | none => (-21) - nI (yrp σ.2.2.2.1 9 0 9 0).2)), M1) := t_X8_polynomialRead_0 _ (fun N n1 => by rw [n1]; exact g1 none)
  unfold zE k_field
  generalize yrp σ.2.2.2.1 9 0 9 0 = r at rd g3 g4 ⊢
  obtain ⟨r1, q⟩ := r
  cases r1 with
  | none =>
    have hq : q ≤ σ.2.2.2.1.1 := g4 rfl
    have rd : mq_C mq_X8_polynomialRead [.ref 70] M (some (.int ((-21) - nI q)), M1) := rd
    dsimp only
    refine ⟨M2, t_X9_field_0 _ ⟨_, M1, rd, M2, f1, fun c => absurd c ?_, fun _ => rfl⟩, f2⟩
    have : ∀ q, q < 101 → ¬ (0 : Int32) ≤ (-21) - nI q := by decide +kernel
    exact this q (by omega)
  | some P =>
    obtain ⟨p4, p5⟩ := g3 P rfl
    have rd : mq_C mq_X8_polynomialRead [.ref 70] M (some (.int (nI P)), M1) := rd
    dsimp only
    have hir := s_X4_isIrreducible M2 (show 2 ≤ P by omega) (show P < 1024 by omega)
    by_cases e : zirr P = true
    · rw [if_pos e]
      rw [e] at hir
      obtain ⟨g, hz⟩ := zirr_mem p4 p5 e
      obtain ⟨M', a1, a2⟩ := s_X9_tellsField f2 hz
      exact ⟨M', t_X9_field_0 _ ⟨_, M1, rd, M2, f1, fun _ => ⟨1, hir, fun c => absurd c z10, fun _ => ⟨_, M', a1, rfl⟩⟩, fun c => absurd (zn_ge0 (by omega)) c⟩, a2⟩
    · rw [if_neg e]
      rw [show zirr P = false by simpa using e] at hir
      exact ⟨M2, t_X9_field_0 _ ⟨_, M1, rd, M2, f1, fun _ => ⟨0, hir, fun _ => rfl, fun c => absurd rfl c⟩, fun c => absurd (zn_ge0 (by omega)) c⟩, f2⟩
end CT
