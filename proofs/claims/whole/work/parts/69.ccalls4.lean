/-! calls of the class: roots of polynomials, irreducibles -/
section CC4
variable {M0 M M' : mz_M} {σ : zSg}
theorem c_X9_fits_37 {p : Nat} {L : List Nat} (hp : p < 512) (hL : L.length ≤ 8) : ∀ (f a : Nat) (l : List Nat) (M : mz_M), a + f = 2 ^ σ.1.2.1 → l ++ zlis (zrs σ.1.1 σ.1.2.1 p) f a = L → zC M0 (zrw σ (zrl l)) M → ∃ M', mq_G mq_X9_fits (37, [some (.ref 0), some (.int (nI p)), some (.int (nI l.length)), some (.int (nI a))], [], M) (some (.int (nI L.length)), M') ∧ zC M0 (zrw σ (zrl L)) M'
  | 0, a, l, M, ha, hl, h => by
    have hq : 2 ^ σ.1.2.1 ≤ 256 := h.q
    have hm2 : M.1 2 2 = nI (2 ^ σ.1.2.1) := h.m2
    have hl : l = L := by rw [← hl]; exact (List.append_nil l).symm
    subst hl
    refine ⟨M, t_X9_fits_37 _ _ _ _ ⟨fun _ => rfl, fun c => absurd ?_ c⟩, h⟩
    rw [hm2, zn_le (by omega) (by omega)]
    omega
  | f + 1, a, l, M, ha, hl, h => by
    have hq : 2 ^ σ.1.2.1 ≤ 256 := h.q
    have hg : fgood σ.1.1 σ.1.2.1 := h.g
    have hm2 : M.1 2 2 = nI (2 ^ σ.1.2.1) := h.m2
    obtain ⟨g, hG⟩ : ∃ g, zfG σ.1.1 σ.1.2.1 g M := h.fg
    have hal : a < 2 ^ σ.1.2.1 := by omega
    have hv := zva_lt (p := p) hg hal
    have c1 : ¬ M.1 2 2 ≤ nI a := by
      rw [hm2, zn_le (by omega) (by omega)]
      omega
    have hz : zlis (zrs σ.1.1 σ.1.2.1 p) (f + 1) a = if zrs σ.1.1 σ.1.2.1 p a = true then a :: zlis (zrs σ.1.1 σ.1.2.1 p) f (a + 1) else zlis (zrs σ.1.1 σ.1.2.1 p) f (a + 1) := rfl
    by_cases e : zva σ.1.1 σ.1.2.1 a p = 0
    · rw [hz, if_pos (show zrs σ.1.1 σ.1.2.1 p a = true by unfold zrs; rw [e]; rfl)] at hl
      have hlen : l.length < 8 := by
        rw [← hl] at hL
        rw [List.length_append, List.length_cons] at hL
        omega
      obtain ⟨M4, a1, a2, a3⟩ := s_cputL (x := a) h (by omega)
      obtain ⟨M', k1, k2⟩ := c_X9_fits_37 hp hL f (a + 1) (l ++ [a]) M4 (by omega) (by rw [List.append_assoc]; exact hl) a2
      rw [List.length_append, List.length_singleton] at k1
      refine ⟨M', t_X9_fits_37 _ _ _ _ ⟨fun c => absurd c c1, fun _ => ⟨_, s_X0_valueAt hG hal hp, fun c => absurd ?_ c, fun _ => ⟨M4, a1, by rw [nI_1, nI_1]; exact k1⟩⟩⟩, k2⟩
      rw [e]; rfl
    · rw [hz, if_neg (show ¬ zrs σ.1.1 σ.1.2.1 p a = true from fun q => e (Nat.eq_of_beq_eq_true q))] at hl
      obtain ⟨M', k1, k2⟩ := c_X9_fits_37 hp hL f (a + 1) l M (by omega) hl h
      refine ⟨M', t_X9_fits_37 _ _ _ _ ⟨fun c => absurd c c1, fun _ => ⟨_, s_X0_valueAt hG hal hp, fun _ => by rw [nI_1]; exact k1, fun c => absurd ?_ c⟩⟩, k2⟩
      rw [zn_eq0 (by omega)]
      exact e
theorem c_X9_fits (h : zC M0 σ M) (x : Int32) : zE M0 mq_X9_fits [.ref 0, .int x] M (k_fits σ x) := by
  have hq := h.q
  have h8 := h.g.2.1
  by_cases g0 : zpt σ.1.2.1 (zdeg x) = true
  · obtain ⟨p, p2, pl, rfl, -, -⟩ := zpt_deg h8 g0
    have hir := s_X4_isIrreducible M p2 (show p < 1024 by omega)
    by_cases g1 : zirr p = true
    · simp only [zE, k_fits, g0, if_true]
      rw [zu_nI (by omega), if_pos g1]
      rw [g1] at hir
      obtain ⟨g, hc⟩ := h.F.c
      obtain ⟨M6, e1, e2, e3⟩ := s_cemptyL h
      obtain ⟨M', k1, k2⟩ := c_X9_fits_37 pl (zrts_len h.g hc p2 pl) (2 ^ σ.1.2.1) 0 [] M6 (Nat.zero_add _) rfl e2
      exact ⟨M', t_X9_fits_0 _ _ ⟨_, s_X4_degreeOf M _, 1, h.pt1 g0, fun _ => ⟨1, hir, fun _ => ⟨M6, e1, k1⟩, fun c => absurd z10 c⟩, fun c => absurd z10 c⟩, k2⟩
    · simp only [zE, k_fits, g0, if_true]
      rw [zu_nI (by omega), if_neg g1]
      rw [show zirr p = false by simpa using g1] at hir
      exact ⟨M, t_X9_fits_0 _ _ ⟨_, s_X4_degreeOf M _, 1, h.pt1 g0, fun _ => ⟨0, hir, fun c => absurd rfl c, fun _ => rfl⟩, fun c => absurd z10 c⟩, h⟩
  · simp only [zE, k_fits, g0]
    exact ⟨M, t_X9_fits_0 _ _ ⟨_, s_X4_degreeOf M _, 0, h.pt0 g0, fun c => absurd rfl c, fun _ => rfl⟩, h⟩
theorem c_X9_maps (h : zC M0 σ M) (x y z : Int32) : zE M0 mq_X9_maps [.ref 0, .int x, .int y, .int z] M (k_maps σ x y z) := by
  have hq := h.q
  have h8 := h.g.2.1
  by_cases g0 : zpt σ.1.2.1 (zdeg x) = true
  · obtain ⟨p, p2, pl, rfl, pd, pd0, pdm, -⟩ := zpt_deg h8 g0
    have hir := s_X4_isIrreducible M p2 (show p < 1024 by omega)
    have dg := s_X4_degreeOf M (nI p)
    by_cases g1 : zirr p = true
    · rw [g1] at hir
      by_cases g2 : zel (2 ^ σ.1.2.1) y = true
      · have hd := zq256 (show p.log2 ≤ 8 by omega)
        have hsh : (1 : Int32) <<< (zdeg (nI p) &&& 31) = nI (2 ^ p.log2) := by rw [pd, zone_shl (by omega)]
        by_cases g3 : zel (2 ^ p.log2) z = true
        · obtain ⟨a, ha, rfl⟩ := h.en g2
          obtain ⟨e, he, rfl⟩ := (zel_iff (by omega)).mp g3
          simp only [zE, k_maps, g0, if_true]
          rw [zu_nI (show p < 2 ^ 31 by omega), if_pos g1, if_pos g2, if_pos g3, zu_nI (show a < 2 ^ 31 by omega), zu_nI (show e < 2 ^ 31 by omega)]
          obtain ⟨g, hG⟩ := h.fg
          have hv := zva_lt (p := p) h.g ha
          have ve := s_X0_valueAt hG ha (show e < 512 by omega)
          by_cases g4 : zva σ.1.1 σ.1.2.1 a p = 0
          · rw [if_pos g4]
            refine ⟨M, t_X9_maps_0 _ _ _ _ ⟨_, dg, 1, h.pt1 g0, fun c => absurd c z10, fun _ => ⟨1, hir, fun _ => ⟨1, h.el1 g2, fun c => absurd c z10, fun _ => ⟨fun c => absurd c (nI_pos (by omega)), fun _ => ⟨fun _ => ⟨_, s_X0_valueAt hG ha pl, fun c => absurd ?_ c, fun _ => ⟨_, ve, rfl⟩⟩, fun c => absurd ?_ c⟩⟩⟩, fun c => absurd z10 c⟩⟩, h⟩
            · rw [g4]; rfl
            · rw [hsh, zn_lt (by omega) (by omega)]
              exact he
          · rw [if_neg g4]
            refine ⟨M, t_X9_maps_0 _ _ _ _ ⟨_, dg, 1, h.pt1 g0, fun c => absurd c z10, fun _ => ⟨1, hir, fun _ => ⟨1, h.el1 g2, fun c => absurd c z10, fun _ => ⟨fun c => absurd c (nI_pos (by omega)), fun _ => ⟨fun _ => ⟨_, s_X0_valueAt hG ha pl, fun _ => rfl, fun c => absurd ?_ c⟩, fun c => absurd ?_ c⟩⟩⟩, fun c => absurd z10 c⟩⟩, h⟩
            · rw [zn_eq0 (by omega)]
              exact g4
            · rw [hsh, zn_lt (by omega) (by omega)]
              exact he
        · simp only [zE, k_maps, g0, if_true]
          rw [zu_nI (show p < 2 ^ 31 by omega), if_pos g1, if_pos g2, if_neg g3]
          refine ⟨M, t_X9_maps_0 _ _ _ _ ⟨_, dg, 1, h.pt1 g0, fun c => absurd c z10, fun _ => ⟨1, hir, fun _ => ⟨1, h.el1 g2, fun c => absurd c z10, fun _ => ⟨fun _ => rfl, fun c => ⟨fun d => absurd ?_ g3, fun _ => rfl⟩⟩⟩, fun c => absurd z10 c⟩⟩, h⟩
          rw [hsh] at d
          exact decide_eq_true ⟨Int32.not_lt.mp c, d⟩
      · simp only [zE, k_maps, g0, if_true]
        rw [zu_nI (show p < 2 ^ 31 by omega), if_pos g1, if_neg g2]
        exact ⟨M, t_X9_maps_0 _ _ _ _ ⟨_, dg, 1, h.pt1 g0, fun c => absurd c z10, fun _ => ⟨1, hir, fun _ => ⟨0, h.el0 g2, fun _ => rfl, fun c => absurd rfl c⟩, fun c => absurd z10 c⟩⟩, h⟩
    · rw [show zirr p = false by simpa using g1] at hir
      simp only [zE, k_maps, g0, if_true]
      rw [zu_nI (show p < 2 ^ 31 by omega), if_neg g1]
      exact ⟨M, t_X9_maps_0 _ _ _ _ ⟨_, dg, 1, h.pt1 g0, fun c => absurd c z10, fun _ => ⟨0, hir, fun c => absurd rfl c, fun _ => rfl⟩⟩, h⟩
  · simp only [zE, k_maps, g0]
    exact ⟨M, t_X9_maps_0 _ _ _ _ ⟨_, s_X4_degreeOf M _, 0, h.pt0 g0, fun _ => rfl, fun c => absurd rfl c⟩, h⟩
theorem s_X4_isGeneratedByX_16 {p n : Nat} (hg : fgood p n) {g : Nat} (hc : fcy p n g) (M : mz_M) (o1 : Option Value) : ∀ (f k : Nat), k + f = 2 ^ n - 1 → 1 ≤ k → (∀ j, 1 ≤ j → j < k → fpw p n 2 j ≠ 1) → mq_G mq_X4_isGeneratedByX (16, [some (.int (nI p)), o1, some (.int (nI (2 ^ n - 1))), some (.int (nI (fpw p n 2 k))), some (.int (nI k))], [], M) (some (.int (zB (zgen p n 2))), M)
  | 0, k, hk, h1, hj => by
    have hq := zq256 hg.2.1
    have h2 : 2 < 2 ^ n := by have := Nat.pow_le_pow_right (show 0 < 2 by decide) hg.1; omega
    obtain rfl : k = 2 ^ n - 1 := by omega
    refine t_X4_isGeneratedByX_16 _ _ _ _ _ _ ⟨fun _ => ⟨fun c => absurd ?_ c, fun _ => ?_⟩, fun c => absurd ?_ c⟩
    · rw [fpw_cyc hg hc (by decide) h2]; rfl
    · have e : zor p n 2 (2 ^ n - 2) 1 = 2 ^ n - 1 := by
        rw [zor_eq (2 ^ n - 2) 1 (fun j h1 h2 => hj j h1 (by omega))]
        omega
      rw [show zgen p n 2 = true from decide_eq_true ⟨by decide, e⟩]
      rfl
    · rw [zn_le (by omega) (by omega)]
      exact Nat.le_refl _
  | f + 1, k, hk, h1, hj => by
    have hq := zq256 hg.2.1
    have h8 := hg.2.1
    have h2 : 2 < 2 ^ n := by have := Nat.pow_le_pow_right (show 0 < 2 by decide) hg.1; omega
    have hl := fpw_lt hg h2 k
    have hlp : fpw p n 2 k * 2 < 2 ^ (n + 1) := by rw [Nat.pow_succ]; omega
    have c1 : ¬ nI (2 ^ n - 1) ≤ nI k := by
      rw [zn_le (by omega) (by omega)]
      omega
    by_cases e : fpw p n 2 k = 1
    · refine t_X4_isGeneratedByX_16 _ _ _ _ _ _ ⟨fun c => absurd c c1, fun _ => ⟨fun c => absurd ?_ c, fun _ => ?_⟩⟩
      · rw [e]; rfl
      · have hz := (zord_spec hg hc (show 0 < 2 by decide) h2).2.2.2 k h1
        rw [show zgen p n 2 = false from decide_eq_false (fun q => hz (by show k < zor p n 2 (2 ^ n - 2) 1; rw [q.2]; omega) e)]
        rfl
    · refine t_X4_isGeneratedByX_16 _ _ _ _ _ _ ⟨fun c => absurd c c1, fun _ => ⟨fun _ => ⟨nI (fpw p n 2 (k + 1)), ?_, ?_⟩, fun c => absurd ?_ c⟩⟩
      · rw [show (1 &&& 31 : Int32) = (nI 1 &&& 31) from rfl, zn_shl (by decide) (by omega), Nat.pow_one, show fpw p n 2 (k + 1) = zmd p n 1 (fpw p n 2 k * 2) from fm_2 _ hl]
        exact s_X4_remainder M (by omega) hg.2.2.1 hg.2.2.2.1 hlp (by decide)
      · rw [nI_1]
        exact s_X4_isGeneratedByX_16 hg hc M o1 f (k + 1) (by omega) (by omega) (fun j j1 j2 => by
          by_cases ej : j = k
          · rw [ej]; exact e
          · exact hj j j1 (by omega))
      · rw [show (1 : Int32) = nI 1 from rfl, zn_eq (by omega) (by decide)]
        exact e
theorem s_X4_isGeneratedByX {p n g : Nat} (hz : (p, n, g) ∈ zirrs) (M : mz_M) : mq_C mq_X4_isGeneratedByX [.int (nI p)] M (some (.int (zB (zgen p n 2))), M) := by
  obtain ⟨hg, hc⟩ := zirrs_ok _ hz
  dsimp only at hg hc
  have h8 := hg.2.1
  have h2 : 2 < 2 ^ n := by have := Nat.pow_le_pow_right (show 0 < 2 by decide) hg.1; omega
  have h1 := s_X4_isGeneratedByX_16 hg hc M (some (.int (nI n))) (2 ^ n - 2) 1 (by omega) (Nat.le_refl 1) (fun j a b => absurd a (by omega))
  rw [fpw_1 hg h2] at h1
  refine t_X4_isGeneratedByX_0 _ _ ⟨nI n, by rw [← zlog_good hg]; exact s_X4_degreeOf _ _, ?_⟩
  rw [zone_shl (by omega), zs1 (by omega)]
  exact h1
theorem c_X9_irreducibles_25 {n : Nat} (h : zC M0 σ M) (hn1 : 1 ≤ n) (hn8 : n ≤ 8) : ∃ M', zC M0 (zrw σ (zr2 (zNo (zfst zirr (2 ^ n) (2 ^ n))) (nI (zcnt (zpm n) (2 ^ n) (2 ^ n))))) M' ∧ ∀ (f k : Nat), k + f = 2 ^ n → mq_G mq_X9_irreducibles (25, [some (.ref 0), some (.int (nI n)), some (.int (nI (zcnt zirr k (2 ^ n)))), some (.int (zNo (zfst zirr k (2 ^ n)))), some (.int (nI (zcnt (zpm n) k (2 ^ n)))), some (.int (nI (2 ^ n + k)))], [], M) (some (.int (nI (zcnt zirr (2 ^ n) (2 ^ n)))), M') := by
  have hp : 2 ^ n ≤ 256 := zq256 hn8
  have hp2 : 2 ≤ 2 ^ n := Nat.pow_le_pow_right (show 0 < 2 by decide) hn1
  have hsh : (2 : Int32) <<< (nI n &&& 31) = nI (2 * 2 ^ n) := zn_shl (n := 2) (by omega) (by omega)
  obtain ⟨M2, M3, M4, e1, e2, e3, e4, -⟩ := s_cput2 h (zNo (zfst zirr (2 ^ n) (2 ^ n))) (nI (zcnt (zpm n) (2 ^ n) (2 ^ n)))
  refine ⟨M4, e4, fun f => ?_⟩
  induction f with
  | zero =>
    intro k hk
    obtain rfl : k = 2 ^ n := by omega
    refine t_X9_irreducibles_25 _ _ _ _ _ _ ⟨fun _ => ⟨M2, e1, M3, e2, M4, e3, rfl⟩, fun c => absurd ?_ c⟩
    rw [hsh, zn_le (by omega) (by omega)]
    omega
  | succ f ih =>
    intro k hk
    have ih := ih (k + 1) (by omega)
    have c1 : ¬ (2 : Int32) <<< (nI n &&& 31) ≤ nI (2 ^ n + k) := by
      rw [hsh, zn_le (by omega) (by omega)]
      omega
    have hir := s_X4_isIrreducible M (show 2 ≤ 2 ^ n + k by omega) (show 2 ^ n + k < 1024 by omega)
    rw [← Nat.add_assoc] at ih
    by_cases g0 : zirr (2 ^ n + k) = true
    · rw [g0] at hir
      have hpm : zpm n (2 ^ n + k) = (Nat.blt 1 n && zgen (2 ^ n + k) n 2) := by unfold zpm; rw [g0, Bool.true_and]
      have hgen : ¬ n ≤ 1 → mq_C mq_X4_isGeneratedByX [.int (nI (2 ^ n + k))] M (some (.int (zB (zgen (2 ^ n + k) n 2))), M) := by
        intro q
        have h4 : 4 ≤ 2 ^ n := Nat.pow_le_pow_right (show 0 < 2 by decide) (show 2 ≤ n by omega)
        obtain ⟨g, hz⟩ := zirr_mem (show 4 ≤ 2 ^ n + k by omega) (by omega) g0
        have hl : (2 ^ n + k).log2 = n := ztop (zlog_lo (by omega)) (zlog_hi _) (by omega) (by rw [Nat.pow_succ]; omega)
        rw [hl] at hz
        exact s_X4_isGeneratedByX hz M
      have n1 : nI n ≤ 1 ↔ n ≤ 1 := zn_le (b := 1) (by omega) (by decide)
      have pf : (n ≤ 1 ∨ zB (zgen (2 ^ n + k) n 2) = 0) → zcnt (zpm n) (k + 1) (2 ^ n) = zcnt (zpm n) k (2 ^ n) := fun q => ycnt_f rfl (by
        rw [hpm]
        rcases q with q | q
        · rw [show Nat.blt 1 n = false by rw [← Bool.not_eq_true, Nat.blt_eq]; omega, Bool.false_and]; decide
        · rw [zBv q, Bool.and_false]; decide)
      have pt : ¬ n ≤ 1 → ¬ zB (zgen (2 ^ n + k) n 2) = 0 → zcnt (zpm n) (k + 1) (2 ^ n) = zcnt (zpm n) k (2 ^ n) + 1 := fun q q2 => ycnt_t rfl (by
        rw [hpm, zBn q2, show Nat.blt 1 n = true by rw [Nat.blt_eq]; omega]; rfl)
      have e1 : ¬ zNo (zfst zirr k (2 ^ n)) = -1 → zfst zirr (k + 1) (2 ^ n) = zfst zirr k (2 ^ n) := fun q => yfst_s (fun z => q ((yfst_m1 (by omega)).mpr z))
      have e2 : ¬ ¬ zNo (zfst zirr k (2 ^ n)) = -1 → zNo (zfst zirr (k + 1) (2 ^ n)) = nI (2 ^ n + k) := fun q => by rw [yfst_n rfl ((yfst_m1 (by omega)).mp (Classical.not_not.mp q)) g0]; rfl
      rw [ycnt_t rfl g0] at ih
      refine t_X9_irreducibles_25 _ _ _ _ _ _ ⟨fun c => absurd c c1, fun _ => ⟨1, hir, fun c => absurd c z10, fun _ => ⟨fun q => ⟨fun q2 => ?_, fun q2 => ⟨_, hgen (fun z => q2 (n1.mpr z)), fun q3 => ?_, fun q3 => ?_⟩⟩, fun q => ⟨fun q2 => ?_, fun q2 => ⟨_, hgen (fun z => q2 (n1.mpr z)), fun q3 => ?_, fun q3 => ?_⟩⟩⟩⟩⟩
      · rw [e1 q, pf (Or.inl (n1.mp q2))] at ih
        rw [nI_1, nI_1, Int32.add_zero]; exact ih
      · rw [e1 q, pf (Or.inr q3)] at ih
        rw [nI_1, nI_1, Int32.add_zero]; exact ih
      · rw [e1 q, pt (fun z => q2 (n1.mpr z)) q3] at ih
        rw [nI_1, nI_1, nI_1]; exact ih
      · rw [e2 q, pf (Or.inl (n1.mp q2))] at ih
        rw [nI_1, nI_1, Int32.add_zero]; exact ih
      · rw [e2 q, pf (Or.inr q3)] at ih
        rw [nI_1, nI_1, Int32.add_zero]; exact ih
      · rw [e2 q, pt (fun z => q2 (n1.mpr z)) q3] at ih
        rw [nI_1, nI_1, nI_1]; exact ih
    · rw [show zirr (2 ^ n + k) = false by simpa using g0] at hir
      rw [ycnt_f rfl g0, yfst_f rfl g0, ycnt_f rfl (p := zpm n) (by unfold zpm; simp [g0])] at ih
      exact t_X9_irreducibles_25 _ _ _ _ _ _ ⟨fun c => absurd c c1, fun _ => ⟨0, hir, fun _ => by rw [nI_1]; exact ih, fun c => absurd rfl c⟩⟩
theorem c_X9_irreducibles (h : zC M0 σ M) (x : Int32) : zE M0 mq_X9_irreducibles [.ref 0, .int x] M (k_irreducibles σ x) := by
  by_cases g0 : zbt 1 8 x = true
  · simp only [zE, k_irreducibles, g0, if_true]
    obtain ⟨n, h1, h8, rfl⟩ := zbtn (a := 1) (b := 8) (by decide) (by decide) g0
    rw [zu_nI (by omega)]
    obtain ⟨M', k2, k1⟩ := c_X9_irreducibles_25 h h1 h8
    refine ⟨M', t_X9_irreducibles_0 _ _ ⟨fun c => ?_, fun _ => ⟨fun _ => ?_, fun c => absurd (zbt_iff.mp g0).2 c⟩⟩, k2⟩
    · exact absurd (zbt_iff.mp g0).1 (Int32.not_le.mpr c)
    · rw [zone_shl (by omega)]
      exact k1 (2 ^ n) 0 (Nat.zero_add _)
  · simp only [zE, k_irreducibles, g0]
    exact ⟨M, t_X9_irreducibles_0 _ _ ⟨fun _ => rfl, fun c => ⟨fun d => absurd (zbt_iff.mpr ⟨Int32.not_lt.mp c, d⟩) g0, fun _ => rfl⟩⟩, h⟩
/-! types -/
theorem s_X5_isPrime_2 (M : mz_M) {v : Nat} (hv : v < 300) : ∀ (f k : Nat), k + f = 18 → 2 ≤ k → mq_G mq_X5_isPrime (2, [some (.int (nI v)), some (.int (nI k))], [], M) (some (.int (zB (zprf v f k))), M)
  | 0, k, hk, h2 => by
    obtain rfl : k = 18 := by omega
    have hl : v < 18 * 18 := by omega
    refine t_X5_isPrime_2 _ _ _ ⟨fun _ => ⟨fun c => ?_, fun c => ?_⟩, fun c => absurd ?_ c⟩
    · rw [show (1 : Int32) = nI 1 from rfl, zn_le (by omega) (by decide)] at c
      rw [show zprf v 0 18 = false from by show Nat.blt 1 v = false; rw [← Bool.not_eq_true, Nat.blt_eq]; omega]
      rfl
    · rw [show (1 : Int32) = nI 1 from rfl, zn_le (by omega) (by decide)] at c
      rw [show zprf v 0 18 = true from by show Nat.blt 1 v = true; rw [Nat.blt_eq]; omega]
      rfl
    · rw [pk_mul, zn_lt (by omega) (by omega)]
      exact hl
  | f + 1, k, hk, h2 => by
    have hkk : k * k ≤ 18 * 18 := Nat.mul_le_mul (by omega) (by omega)
    have hm := Nat.mod_lt v (show 0 < k by omega)
    refine t_X5_isPrime_2 _ _ _ ⟨fun c => ?_, fun c => ⟨fun d => ?_, fun _ => ⟨?_, ?_⟩⟩⟩
    · rw [pk_mul, zn_lt (by omega) (by omega)] at c
      unfold zprf
      rw [if_pos c]
      refine ⟨fun d => ?_, fun d => ?_⟩
      · rw [show (1 : Int32) = nI 1 from rfl, zn_le (by omega) (by decide)] at d
        rw [show Nat.blt 1 v = false from by rw [← Bool.not_eq_true, Nat.blt_eq]; omega]
        rfl
      · rw [show (1 : Int32) = nI 1 from rfl, zn_le (by omega) (by decide)] at d
        rw [show Nat.blt 1 v = true from by rw [Nat.blt_eq]; omega]
        rfl
    · rw [show (1000 : Int32) = nI 1000 from rfl, zn_le (by decide) (by omega)] at d
      omega
    · rw [zn_eq0 (by omega)]
      omega
    · rw [pk_mul, zn_lt (by omega) (by omega)] at c
      rw [pk_rem (by omega) (by omega) (by omega), zn_eq0 (by omega), nI_1]
      unfold zprf
      rw [if_neg c]
      refine ⟨fun d => ?_, fun d => ?_⟩
      · rw [if_neg d]
        exact s_X5_isPrime_2 M hv f (k + 1) (by omega) (by omega)
      · rw [if_pos (Classical.not_not.mp d)]
        rfl
theorem s_X5_isPrime (M : mz_M) {v : Nat} (hv : v < 300) : mq_C mq_X5_isPrime [.int (nI v)] M (some (.int (zB (zprf v 16 2))), M) := t_X5_isPrime_0 _ _ (s_X5_isPrime_2 M hv 16 2 rfl (Nat.le_refl 2))
theorem yp2_ok : zall (fun b => match zprf b 16 2 with
  | true => Nat.blt b 3 || zp2h b (b - 1) 2
  | false => true) 202 = true := by decide +kernel
theorem yp2_more {b : Nat} : ∀ (f k n v : Nat), zp2h b f v = true → zp2f b (f + k) n v = zp2f b f n v
  | 0, 0, n, v, h => rfl
  | 0, k + 1, n, v, h => by
    rw [Nat.zero_add]
    unfold zp2f
    rw [if_pos (Nat.eq_of_beq_eq_true h)]
  | f + 1, k, n, v, h => by
    rw [show f + 1 + k = (f + k) + 1 by omega]
    unfold zp2f
    by_cases e : v = 1
    · rw [if_pos e, if_pos e]
    · rw [if_neg e, if_neg e]
      simp only [zp2h, Bool.or_eq_true] at h
      exact yp2_more f k _ _ (h.resolve_left (fun q => e (Nat.eq_of_beq_eq_true q)))
theorem s_X5_powersOfTwo_20 (M : mz_M) {b : Nat} (hb0 : 0 < b) (hb : b < 300) : ∀ (f n v k : Nat), v < b → k + f < b → zp2h b f v = true → mq_G mq_X5_powersOfTwo (20, [some (.int (nI b)), some (.int (nI v)), some (.int (nI n)), some (.int (nI k))], [], M) (some (.int (nI (zp2f b f n v))), M)
  | 0, n, v, k, hv, hk, h => by
    refine t_X5_powersOfTwo_20 _ _ _ _ _ ⟨fun _ => rfl, fun _ => ⟨fun _ => rfl, fun c => absurd ?_ c⟩⟩
    rw [Nat.eq_of_beq_eq_true h]; rfl
  | f + 1, n, v, k, hv, hk, h => by
    unfold zp2f
    refine t_X5_powersOfTwo_20 _ _ _ _ _ ⟨fun c => ?_, fun _ => ⟨fun c => ?_, fun c => ⟨fun q => ?_, ?_⟩⟩⟩
    · rw [zn_le (by omega) (by omega)] at c
      omega
    · rw [show (1 : Int32) = nI 1 from rfl, zn_eq (by omega) (by decide)] at c
      rw [if_pos c]
    · rw [zn_eq0 (by omega)] at q
      omega
    · rw [show (1 : Int32) = nI 1 from rfl, zn_eq (by omega) (by decide)] at c
      simp only [zp2h, Bool.or_eq_true] at h
      rw [if_neg c, show nI v * 2 = nI (2 * v) by rw [show (2 : Int32) = nI 2 from rfl, pk_mul, Nat.mul_comm], pk_rem (by omega) hb0 (by omega), nI_1, nI_1]
      exact s_X5_powersOfTwo_20 M hb0 hb f (n + 1) _ (k + 1) (Nat.mod_lt _ hb0) (by omega) (h.resolve_left (fun q => c (Nat.eq_of_beq_eq_true q)))
theorem s_X5_powersOfTwo (M : mz_M) {b : Nat} (h3 : 3 ≤ b) (hb : b < 202) : mq_C mq_X5_powersOfTwo [.int (nI b)] M (some (.int (nI (zp2 b))), M) := by
  have hp := s_X5_isPrime M (show b < 300 by omega)
  have hok := zall_iff yp2_ok b hb
  unfold zp2
  by_cases e : zprf b 16 2 = true
  · rw [e] at hp
    simp only [e, Bool.or_eq_true, Nat.blt_eq] at hok
    have hh : zp2h b (b - 1) 2 = true := hok.resolve_left (by omega)
    rw [if_pos e, Nat.mod_eq_of_lt (show 2 < b by omega), show zp2f b 200 1 2 = zp2f b (b - 1) 1 2 from by
      by_cases q : b - 1 ≤ 200
      · have := yp2_more (b - 1) (200 - (b - 1)) 1 2 hh
        rw [show b - 1 + (200 - (b - 1)) = 200 by omega] at this
        exact this
      · omega]
    refine t_X5_powersOfTwo_0 _ _ ⟨1, hp, fun c => absurd c z10, fun _ => ⟨fun _ => s_X5_powersOfTwo_20 M (by omega) (by omega) (b - 1) 1 2 0 (by omega) (by omega) hh, fun c => absurd ?_ c⟩⟩
    rw [show (3 : Int32) = nI 3 from rfl, zn_le (by decide) (by omega)]
    exact h3
  · rw [show zprf b 16 2 = false by simpa using e] at hp
    rw [if_neg e]
    exact t_X5_powersOfTwo_0 _ _ ⟨0, hp, fun _ => rfl, fun c => absurd rfl c⟩
theorem c_X9_types (h : zC M0 σ M) (x : Int32) : zE M0 mq_X9_types [.ref 0, .int x] M (k_types σ x) := by
  by_cases g0 : zbt 2 100 x = true
  · simp only [zE, k_types, g0, if_true]
    obtain ⟨n, h2, h100, rfl⟩ := zbtn (a := 2) (b := 100) (by decide) (by decide) g0
    rw [zu_nI (by omega)]
    have q1 := zp2_le (n + 1)
    have q2 := zp2_le (2 * n + 1)
    obtain ⟨M1, M2, M3, e1, e2, e3, e4, -⟩ := s_cput2 h (nI (zp2 (n + 1))) (nI (zp2 (2 * n + 1)))
    have fin : ∀ (z : Int32) (o1 o2 o3 : Option Value), z = nI (zty n) → mq_G mq_X9_types (75, [some (.ref 0), o1, o2, o3, some (.int (nI (zp2 (n + 1)))), some (.int (nI (zp2 (2 * n + 1)))), some (.int z)], [], M) (some (.int (nI (zty n))), M3) := by
      intro z o1 o2 o3 hz
      rw [hz]
      exact t_X9_types_75 _ _ _ _ _ _ _ ⟨M1, e1, M2, e2, M3, e3, rfl⟩
    have mid : ∀ (u : Nat) (o2 o6 : Option Value), (u = if zp2 (n + 1) = n then 1 else 0) → mq_G mq_X9_types (46, [some (.ref 0), some (.int (nI n)), o2, some (.int (nI (2 * n + 1))), some (.int (nI (zp2 (n + 1)))), some (.int (nI (zp2 (2 * n + 1)))), o6], [.int (nI u)], M) (some (.int (nI (zty n))), M3) := by
      intro u o2 o6 hu
      have hm : (2 * n + 1) % 4 < 4 := Nat.mod_lt _ (by decide)
      refine t_X9_types_46 _ _ _ _ _ _ _ _ ⟨fun c => ?_, fun c => ⟨fun d => ?_, fun d => ⟨fun e => ?_, fun e => ?_⟩⟩⟩
      · rw [show (2 : Int32) = nI 2 from rfl, pk_mul, zn_eq (by omega) (by omega)] at c
        refine t_X9_types_69 _ _ _ _ _ _ _ (fin _ _ _ _ ?_)
        unfold zty
        rw [if_pos c, ← hu]
        exact zn_or u 2
      · rw [show (2 : Int32) = nI 2 from rfl, pk_mul, zn_eq (by omega) (by omega)] at c
        rw [zn_eq (by omega) (by omega)] at d
        refine fin _ _ _ _ ?_
        unfold zty
        rw [if_neg c, if_neg d, ← hu, Nat.or_zero]
      · rw [show (2 : Int32) = nI 2 from rfl, pk_mul, zn_eq (by omega) (by omega)] at c
        rw [zn_eq (by omega) (by omega)] at d
        rw [show (3 : Int32) = nI 3 from rfl, zn_and, show (2 * n + 1) &&& 3 = (2 * n + 1) % 4 from Nat.and_two_pow_sub_one_eq_mod _ 2, zn_eq (by omega) (by decide)] at e
        refine fin _ _ _ _ ?_
        unfold zty
        rw [if_neg c, if_pos (Classical.not_not.mp d), if_neg e, ← hu, Nat.or_zero]
      · rw [show (2 : Int32) = nI 2 from rfl, pk_mul, zn_eq (by omega) (by omega)] at c
        rw [zn_eq (by omega) (by omega)] at d
        rw [show (3 : Int32) = nI 3 from rfl, zn_and, show (2 * n + 1) &&& 3 = (2 * n + 1) % 4 from Nat.and_two_pow_sub_one_eq_mod _ 2, zn_eq (by omega) (by decide)] at e
        refine t_X9_types_69 _ _ _ _ _ _ _ (fin _ _ _ _ ?_)
        unfold zty
        rw [if_neg c, if_pos (Classical.not_not.mp d), if_pos (Classical.not_not.mp e), ← hu]
        exact zn_or u 2
    have e21 : (2 * nI n) + 1 = nI (2 * n + 1) := by rw [show (2 : Int32) = nI 2 from rfl, pk_mul, nI_1]
    refine ⟨M3, t_X9_types_0 _ _ ⟨fun c => absurd (zbt_iff.mp g0).1 (Int32.not_le.mpr c), fun _ => ⟨fun _ => ⟨nI (zp2 (n + 1)), by rw [nI_1]; exact s_X5_powersOfTwo M (by omega) (by omega), nI (zp2 (2 * n + 1)), by rw [e21]; exact s_X5_powersOfTwo M (by omega) (by omega), fun c => ?_, fun c => ?_⟩, fun c => absurd (zbt_iff.mp g0).2 c⟩⟩, e4⟩
    · rw [zn_eq (by omega) (by omega)] at c
      rw [e21]
      exact mid 0 _ _ (by rw [if_neg c])
    · rw [zn_eq (by omega) (by omega)] at c
      rw [e21]
      exact mid 1 _ _ (by rw [if_pos (Classical.not_not.mp c)])
  · simp only [zE, k_types, g0]
    exact ⟨M, t_X9_types_0 _ _ ⟨fun _ => t_X9_types_11 _ _ _ _ _ _ _ _ rfl, fun c => ⟨fun d => absurd (zbt_iff.mpr ⟨Int32.not_lt.mp c, d⟩) g0, fun _ => t_X9_types_11 _ _ _ _ _ _ _ _ rfl⟩⟩, h⟩
end CC4
