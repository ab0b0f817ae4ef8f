/-! calls of the class: normal ones, bases -/
section CC2
variable {M0 M M' : mz_M} {σ : zSg}
theorem zBv {b : Bool} (h : zB b = 0) : b = false := by
  cases b with
  | true => exact absurd h z10
  | false => rfl
theorem zBn {b : Bool} (h : ¬ zB b = 0) : b = true := by
  cases b with
  | true => rfl
  | false => exact absurd rfl h
theorem zor00 (n : Nat) : nI n ||| 0 = nI n := by rw [show (0 : Int32) = nI 0 from rfl, zn_or, Nat.or_zero]
theorem c_X9_subfield (h : zC M0 σ M) (x : Int32) : zE M0 mq_X9_subfield [.ref 0, .int x] M (k_subfield σ x) := by
  have hq := h.q
  have h8 := h.g.2.1
  have h2 := h.g.1
  have hg := h.g
  by_cases g0 : zpt σ.1.2.1 x = true
  · simp only [zE, k_subfield, g0, if_true]
    obtain ⟨d, hd0, hdm, hd8, hd, rfl⟩ := h.ptn g0
    rw [zu_nI (by omega)]
    obtain ⟨g, hc⟩ := h.F.c
    have hs := zsub_len hg hc hd0 hdm hd
    obtain ⟨M3, e1, e2, e3⟩ := s_X2_fillsSubbase h.F hd8 zar76 (by decide)
    rw [hs] at e3
    have h3 := h.k e2 (by decide)
    obtain ⟨M4, f1, f2, f3, -⟩ := s_cempties h3 (fun k => (nI ((zsub σ.1.1 σ.1.2.1 d).getD k 0)).toInt64)
    obtain ⟨M5, k1, k2, -⟩ := s_cputsAll zar76 (by decide) hd8 f2 (fun j hj => by rw [f3 76 (by decide), e3 j hj])
    exact ⟨M5, t_X9_subfield_0 _ _ ⟨1, h.pt1 g0, fun _ => ⟨M3, e1, M4, f1, M5, k1, by rw [zone_shl (by omega)]⟩, fun c => absurd z10 c⟩, k2⟩
  · simp only [zE, k_subfield, g0]
    exact ⟨M, t_X9_subfield_0 _ _ ⟨0, h.pt0 g0, fun c => absurd rfl c, fun _ => rfl⟩, h⟩
theorem c_X9_normal (h : zC M0 σ M) (x : Int32) : zE M0 mq_X9_normal [.ref 0, .int x] M (k_normal σ x) := by
  have hq := h.q
  have h8 := h.g.2.1
  have h2 := h.g.1
  have hg := h.g
  by_cases g0 : zel (2 ^ σ.1.2.1) x = true
  · simp only [zE, k_normal, g0, if_true]
    obtain ⟨a, ha, rfl⟩ := h.en g0
    rw [zu_nI (by omega)]
    obtain ⟨M3, e1, e2, e3⟩ := h.F.fc ha zar75 (by decide) (by decide) (by decide)
    have h3 := h.k e2 (by decide)
    obtain ⟨M4, f1, f2, f3⟩ := s_X1_holds h8 zar75 (by decide) (fun j _ => z256 h8 (cj_lt hg ha j)) e3
    have h4 := h3.k f2 (by decide)
    obtain ⟨M5, M6, k1, k2, k3, -, k5, -⟩ := s_cput1 h4 (nI (rk (cj σ.1.1 σ.1.2.1 a) σ.1.2.1))
    have r5 : M4.1 5 2 = nI (rk (cj σ.1.1 σ.1.2.1 a) σ.1.2.1) := by obtain ⟨L, S, q⟩ := f3; exact q.1
    refine ⟨M6, t_X9_normal_0 _ _ ⟨1, h.el1 g0, fun _ => ⟨M3, e1, zB (znor σ.1.1 σ.1.2.1 a), M4, by rw [h3.m1]; exact f1, M5, k1, M6, by rw [k5 5 (by decide), r5]; exact k2, fun c => by rw [c], fun c => by rw [zBn c]; rfl⟩, fun c => absurd z10 c⟩, k3⟩
  · simp only [zE, k_normal, g0]
    exact ⟨M, t_X9_normal_0 _ _ ⟨0, h.el0 g0, fun c => absurd rfl c, fun _ => rfl⟩, h⟩
theorem s_cnorm {a : Nat} (h : zC M0 σ M) (ha : a < 2 ^ σ.1.2.1) : ∃ M5 M6, mq_C mq_X0_fillsConjugates [.ref 2, .ref 75, .int (nI a)] M (none, M5) ∧ mq_C mq_X1_holds [.ref 5, .ref 75, .int (M5.1 2 1)] M5 (some (.int (zB (znor σ.1.1 σ.1.2.1 a))), M6) ∧ zC M0 σ M6 ∧ zrow M6 75 σ.1.2.1 (cj σ.1.1 σ.1.2.1 a) ∧ zfr (cj σ.1.1 σ.1.2.1 a) σ.1.2.1 M6 := by
  have h8 := h.g.2.1
  obtain ⟨M3, e1, e2, e3⟩ := h.F.fc ha zar75 (by decide) (by decide) (by decide)
  have h3 := h.k e2 (by decide)
  obtain ⟨M4, f1, f2, f3⟩ := s_X1_holds h8 zar75 (by decide) (fun j _ => z256 h8 (cj_lt h.g ha j)) e3
  exact ⟨M3, M4, e1, by rw [h3.m1]; exact f1, h3.k f2 (by decide), e3.k f2 (by decide), f3⟩
theorem s_cpowr {a : Nat} (h : zC M0 σ M) (ha : a < 2 ^ σ.1.2.1) : ∃ M5 M6, mq_C mq_X0_fillsPowers [.ref 2, .ref 75, .int (nI a)] M (none, M5) ∧ mq_C mq_X1_holds [.ref 5, .ref 75, .int (M5.1 2 1)] M5 (some (.int (zB (zpok σ.1.1 σ.1.2.1 a))), M6) ∧ zC M0 σ M6 ∧ zrow M6 75 σ.1.2.1 (fpw σ.1.1 σ.1.2.1 a) ∧ zfr (fpw σ.1.1 σ.1.2.1 a) σ.1.2.1 M6 := by
  have h8 := h.g.2.1
  obtain ⟨M3, e1, e2, e3⟩ := h.F.fp ha zar75 (by decide) (by decide) (by decide)
  have h3 := h.k e2 (by decide)
  obtain ⟨M4, f1, f2, f3⟩ := s_X1_holds h8 zar75 (by decide) (fun j _ => z256 h8 (fpw_lt h.g ha j)) e3
  exact ⟨M3, M4, e1, by rw [h3.m1]; exact f1, h3.k f2 (by decide), e3.k f2 (by decide), f3⟩
theorem c_X9_normals_9 : ∀ (f k : Nat) (M : mz_M), zC M0 σ M → k + 1 + f = 2 ^ σ.1.2.1 → ∃ M', mq_G mq_X9_normals (9, [some (.ref 0), some (.int (nI (zcnt (znor σ.1.1 σ.1.2.1) k 1))), some (.int (zNo (zfst (znor σ.1.1 σ.1.2.1) k 1))), some (.int (zNo (zfst (zng σ.1.1 σ.1.2.1) k 1))), some (.int (nI (k + 1)))], [], M) (some (.int (k_normals σ).1), M') ∧ zC M0 (k_normals σ).2 M'
  | 0, k, M, h, hk => by
    have hq := h.q
    obtain rfl : k = 2 ^ σ.1.2.1 - 1 := by omega
    obtain ⟨M2, M3, M4, e1, e2, e3, e4, -⟩ := s_cput2 h (zNo (zfst (znor σ.1.1 σ.1.2.1) (2 ^ σ.1.2.1 - 1) 1)) (zNo (zfst (zng σ.1.1 σ.1.2.1) (2 ^ σ.1.2.1 - 1) 1))
    refine ⟨M4, t_X9_normals_9 _ _ _ _ _ ⟨fun _ => ⟨M2, e1, M3, e2, M4, e3, rfl⟩, fun c => absurd ?_ c⟩, e4⟩
    rw [h.m2, zn_le (by omega) (by omega)]
    omega
  | f + 1, k, M, h, hk => by
    have hq := h.q
    obtain ⟨M5, M6, a1, a2, h6, a4, a5⟩ := s_cnorm (a := k + 1) h (by omega)
    obtain ⟨g, hG⟩ := h6.fg
    obtain ⟨M', k1, k2⟩ := c_X9_normals_9 f (k + 1) M6 h6 (by omega)
    have c1 : ¬ M.1 2 2 ≤ nI (k + 1) := by
      rw [h.m2, zn_le (by omega) (by omega)]
      omega
    have gen := s_X0_generates hG (a := k + 1) (by omega) (by omega)
    by_cases hn : znor σ.1.1 σ.1.2.1 (k + 1) = true
    · rw [hn] at a2
      have e1 : ¬ zNo (zfst (znor σ.1.1 σ.1.2.1) k 1) = -1 → zfst (znor σ.1.1 σ.1.2.1) (k + 1) 1 = zfst (znor σ.1.1 σ.1.2.1) k 1 := fun q => yfst_s (fun z => q ((yfst_m1 (by omega)).mpr z))
      have e2 : ¬ ¬ zNo (zfst (znor σ.1.1 σ.1.2.1) k 1) = -1 → zNo (zfst (znor σ.1.1 σ.1.2.1) (k + 1) 1) = nI (k + 1) := fun q => by rw [yfst_n (Nat.add_comm 1 k) ((yfst_m1 (by omega)).mp (Classical.not_not.mp q)) hn]; rfl
      have f1 : ¬ zNo (zfst (zng σ.1.1 σ.1.2.1) k 1) = -1 → zfst (zng σ.1.1 σ.1.2.1) (k + 1) 1 = zfst (zng σ.1.1 σ.1.2.1) k 1 := fun q => yfst_s (fun z => q ((yfst_m1 (by omega)).mpr z))
      have f2 : zB (zgen σ.1.1 σ.1.2.1 (k + 1)) = 0 → zfst (zng σ.1.1 σ.1.2.1) (k + 1) 1 = zfst (zng σ.1.1 σ.1.2.1) k 1 := fun q => yfst_f (Nat.add_comm 1 k) (by unfold zng; rw [zBv q, Bool.and_false]; decide)
      have f3 : ¬ ¬ zNo (zfst (zng σ.1.1 σ.1.2.1) k 1) = -1 → ¬ zB (zgen σ.1.1 σ.1.2.1 (k + 1)) = 0 → zNo (zfst (zng σ.1.1 σ.1.2.1) (k + 1) 1) = nI (k + 1) := fun q q2 => by rw [yfst_n (Nat.add_comm 1 k) ((yfst_m1 (by omega)).mp (Classical.not_not.mp q)) (by unfold zng; rw [hn, zBn q2]; rfl)]; rfl
      rw [ycnt_t (Nat.add_comm 1 k) hn] at k1
      refine ⟨M', t_X9_normals_9 _ _ _ _ _ ⟨fun c => absurd c c1, fun _ => ⟨M5, a1, _, M6, a2, fun c => absurd c z10, fun _ => ⟨fun q => ⟨fun q2 => ?_, fun q2 => ⟨_, gen, fun q3 => ?_, fun q3 => ?_⟩⟩, fun q => ⟨fun q2 => ?_, fun q2 => ⟨_, gen, fun q3 => ?_, fun q3 => ?_⟩⟩⟩⟩⟩, k2⟩
      · rw [e1 q, f1 q2] at k1; rw [nI_1, nI_1]; exact k1
      · rw [e1 q, f2 q3] at k1; rw [nI_1, nI_1]; exact k1
      · rw [e1 q, f3 q2 q3] at k1; rw [nI_1, nI_1]; exact k1
      · rw [e2 q, f1 q2] at k1; rw [nI_1, nI_1]; exact k1
      · rw [e2 q, f2 q3] at k1; rw [nI_1, nI_1]; exact k1
      · rw [e2 q, f3 q2 q3] at k1; rw [nI_1, nI_1]; exact k1
    · rw [show znor σ.1.1 σ.1.2.1 (k + 1) = false by simpa using hn] at a2
      rw [ycnt_f (Nat.add_comm 1 k) hn, yfst_f (Nat.add_comm 1 k) hn, yfst_f (Nat.add_comm 1 k) (p := zng σ.1.1 σ.1.2.1) (by unfold zng; simp [hn])] at k1
      exact ⟨M', t_X9_normals_9 _ _ _ _ _ ⟨fun c => absurd c c1, fun _ => ⟨M5, a1, _, M6, a2, fun _ => by rw [nI_1]; exact k1, fun c => absurd rfl c⟩⟩, k2⟩
theorem c_X9_normals (h : zC M0 σ M) : zE M0 mq_X9_normals [.ref 0] M (k_normals σ) := by
  have h1 := f1_lt h.g
  obtain ⟨M', k1, k2⟩ := c_X9_normals_9 (2 ^ σ.1.2.1 - 1) 0 M h (by omega)
  exact ⟨M', t_X9_normals_0 _ k1, k2⟩
theorem c_X9_complete_14 {a : Nat} (ha : a < 2 ^ σ.1.2.1) : ∀ (f d s : Nat) (M : mz_M), zC M0 σ M → d + f = σ.1.2.1 → 1 ≤ d → ∃ M', mq_G mq_X9_complete (14, [some (.ref 0), some (.int (nI a)), some (.int (nI s)), some (.int (nI d))], [], M) (some (.int (nI (zcmp σ.1.1 σ.1.2.1 a f d s))), M') ∧ zC M0 σ M'
  | 0, d, s, M, h, hd, h1 => by
    have h8 := h.g.2.1
    refine ⟨M, t_X9_complete_14 _ _ _ _ ⟨fun _ => rfl, fun c => absurd ?_ c⟩, h⟩
    rw [h.m1, zn_le (by omega) (by omega)]
    omega
  | f + 1, d, s, M, h, hd, h1 => by
    have h8 := h.g.2.1
    have hg := h.g
    have c1 : ¬ M.1 2 1 ≤ nI d := by
      rw [h.m1, zn_le (by omega) (by omega)]
      omega
    have hz : zcmp σ.1.1 σ.1.2.1 a (f + 1) d s = zcmp σ.1.1 σ.1.2.1 a f (d + 1) (if zpt σ.1.2.1 (nI d) = true then (if znov σ.1.1 σ.1.2.1 a d = true then s ||| 2 ^ d else s) else s) := rfl
    by_cases hp : zpt σ.1.2.1 (nI d) = true
    · rw [hz, if_pos hp]
      obtain ⟨g, hc⟩ := h.F.c
      obtain ⟨d', hd0, hdm, hd8, hmd, hdd⟩ := h.ptn hp
      rw [zn_eq (by omega) (by omega)] at hdd
      subst hdd
      have hs := zsub_len hg hc hd0 hdm hmd
      obtain ⟨M3, e1, e2, e3⟩ := s_X2_fillsSubbase h.F hd8 zar76 (by decide)
      rw [hs] at e3
      have h3 := h.k e2 (by decide)
      obtain ⟨M4, f1, f2, f3⟩ := s_X2_fillsOverSubbase h3.F ha hd0 hdm hs zar75 zar76 (by decide) (by decide) e3
      have h4 := h3.k f2 (by decide)
      obtain ⟨M6, g1, g2, g3⟩ := s_X1_holds h8 zar75 (by decide) (fun j _ => z256 h8 (zno_lt hg hd0 hs)) f3
      have h6 := h4.k g2 (by decide)
      by_cases hn : znov σ.1.1 σ.1.2.1 a d = true
      · rw [if_pos hn]
        rw [show zind (zno σ.1.1 σ.1.2.1 a d) σ.1.2.1 = true from hn] at g1
        obtain ⟨M', k1, k2⟩ := c_X9_complete_14 ha f (d + 1) (s ||| 2 ^ d) M6 h6 (by omega) (by omega)
        exact ⟨M', t_X9_complete_14 _ _ _ _ ⟨fun c => absurd c c1, fun _ => ⟨1, h.pt1 hp, fun c => absurd c z10, fun _ => ⟨M3, e1, M4, f1, 1, M6, by rw [h4.m1]; exact g1, fun c => absurd c z10, fun _ => by rw [zone_shl (by omega), zn_or, nI_1]; exact k1⟩⟩⟩, k2⟩
      · rw [if_neg hn]
        rw [show zind (zno σ.1.1 σ.1.2.1 a d) σ.1.2.1 = false from by
          have hn' : znov σ.1.1 σ.1.2.1 a d = false := by simpa using hn
          exact hn'] at g1
        obtain ⟨M', k1, k2⟩ := c_X9_complete_14 ha f (d + 1) s M6 h6 (by omega) (by omega)
        exact ⟨M', t_X9_complete_14 _ _ _ _ ⟨fun c => absurd c c1, fun _ => ⟨1, h.pt1 hp, fun c => absurd c z10, fun _ => ⟨M3, e1, M4, f1, 0, M6, by rw [h4.m1]; exact g1, fun _ => by rw [zor00, nI_1]; exact k1, fun c => absurd rfl c⟩⟩⟩, k2⟩
    · rw [hz, if_neg hp]
      obtain ⟨M', k1, k2⟩ := c_X9_complete_14 ha f (d + 1) s M h (by omega) (by omega)
      exact ⟨M', t_X9_complete_14 _ _ _ _ ⟨fun c => absurd c c1, fun _ => ⟨0, h.pt0 hp, fun _ => by rw [nI_1]; exact k1, fun c => absurd rfl c⟩⟩, k2⟩
theorem c_X9_complete (h : zC M0 σ M) (x : Int32) : zE M0 mq_X9_complete [.ref 0, .int x] M (k_complete σ x) := by
  have hq := h.q
  have h8 := h.g.2.1
  have h2 := h.g.1
  have hg := h.g
  by_cases g0 : zel (2 ^ σ.1.2.1) x = true
  · simp only [zE, k_complete, g0, if_true]
    obtain ⟨a, ha, rfl⟩ := h.en g0
    rw [zu_nI (by omega)]
    obtain ⟨M', k1, k2⟩ := c_X9_complete_14 ha (σ.1.2.1 - 1) 1 0 M h (by omega) (Nat.le_refl 1)
    exact ⟨M', t_X9_complete_0 _ _ ⟨1, h.el1 g0, fun _ => k1, fun c => absurd z10 c⟩, k2⟩
  · simp only [zE, k_complete, g0]
    exact ⟨M, t_X9_complete_0 _ _ ⟨0, h.el0 g0, fun c => absurd rfl c, fun _ => rfl⟩, h⟩
theorem c_X9_leastNormal_9 : ∀ (f a : Nat) (t : Nat × Option Nat × Nat) (M : mz_M), zC M0 σ M → a + f = 2 ^ σ.1.2.1 → t.1 < 1000 → (∀ x, t.2.1 = some x → x < 2 ^ 31) → ∃ M', (∀ o : Option Value, mq_G mq_X9_leastNormal (9, [some (.ref 0), some (.int (nI t.1)), some (.int (zNo t.2.1)), some (.int (nI t.2.2)), some (.int (nI a)), o], [], M) (some (.int (nI (zbst (znor σ.1.1 σ.1.2.1) (zcn σ.1.1 σ.1.2.1) f a t).1)), M')) ∧ zC M0 (zrw σ (zr2 (zNo (zbst (znor σ.1.1 σ.1.2.1) (zcn σ.1.1 σ.1.2.1) f a t).2.1) (nI (zbst (znor σ.1.1 σ.1.2.1) (zcn σ.1.1 σ.1.2.1) f a t).2.2))) M'
  | 0, a, t, M, h, hf, ht1, ht2 => by
    have hq := h.q
    obtain ⟨M2, M3, M4, e1, e2, e3, e4, -⟩ := s_cput2 h (zNo t.2.1) (nI t.2.2)
    refine ⟨M4, fun o => t_X9_leastNormal_9 _ _ _ _ _ _ ⟨fun _ => ⟨M2, e1, M3, e2, M4, e3, rfl⟩, fun c => absurd ?_ c⟩, e4⟩
    rw [h.m2, zn_le (by omega) (by omega)]
    omega
  | f + 1, a, t, M, h, hf, ht1, ht2 => by
    have hq := h.q
    have h8 := h.g.2.1
    have hal : a < 2 ^ σ.1.2.1 := by omega
    obtain ⟨M5, M6, a1, a2, h6, a4, a5⟩ := s_cnorm (a := a) h hal
    have c1 : ¬ M.1 2 2 ≤ nI a := by
      rw [h.m2, zn_le (by omega) (by omega)]
      omega
    have hz : zbst (znor σ.1.1 σ.1.2.1) (zcn σ.1.1 σ.1.2.1) (f + 1) a t = zbst (znor σ.1.1 σ.1.2.1) (zcn σ.1.1 σ.1.2.1) f (a + 1) (if znor σ.1.1 σ.1.2.1 a = true then zbs1 (zcn σ.1.1 σ.1.2.1 a) a t else t) := rfl
    by_cases hn : znor σ.1.1 σ.1.2.1 a = true
    · rw [hz, if_pos hn]
      rw [hn] at a2
      have hcl : zcn σ.1.1 σ.1.2.1 a < 1000 := Nat.lt_of_le_of_lt (zcx_le _ h8) (by decide)
      obtain ⟨z1, z2⟩ := zbs1_ok hcl (show a < 2 ^ 31 by omega) ht1 ht2
      obtain ⟨M', k1, k2⟩ := c_X9_leastNormal_9 f (a + 1) (zbs1 (zcn σ.1.1 σ.1.2.1 a) a t) M6 h6 (by omega) z1 z2
      have bt : mq_C mq_X2_bitsOfFirst [.ref 1, .ref 75] M6 (some (.int (nI (zcn σ.1.1 σ.1.2.1 a))), M6) := s_X2_bitsOfFirst h6.F ⟨znor_iff.mp hn, fun i _ => cj_lt h.g hal i⟩ zar75 a4 a5
      refine ⟨M', fun o => t_X9_leastNormal_9 _ _ _ _ _ _ ⟨fun c => absurd c c1, fun _ => ⟨M5, a1, _, M6, a2, fun c => absurd c z10, fun _ => ⟨_, bt, fun q => ⟨fun q2 => absurd rfl q2, fun _ => ?_⟩, fun q => ⟨fun q2 => ⟨fun q3 => ?_, fun q3 => ?_⟩, fun q2 => ⟨fun q3 => absurd rfl q3, fun _ => ?_⟩⟩⟩⟩⟩, k2⟩
      · rw [zNo_m1 ht2] at q
        obtain ⟨t1, o2, t3⟩ := t
        dsimp only at q
        subst q
        rw [nI_1, show (0 + 1 : Int32) = nI 1 by decide]
        exact k1 _
      all_goals
        rw [zNo_m1 ht2] at q
        obtain ⟨t1, o2, t3⟩ := t
        cases o2 with
        | none => exact absurd rfl q
        | some x => ?_
      · dsimp only at q2 q3 ht1 ⊢
        rw [zn_le (by omega) (by omega)] at q2
        rw [zn_eq (by omega) (by omega)] at q3
        have e : zbs1 (zcn σ.1.1 σ.1.2.1 a) a (t1, some x, t3) = (t1, some x, t3) := by
          show (if zcn σ.1.1 σ.1.2.1 a < t1 then _ else if zcn σ.1.1 σ.1.2.1 a = t1 then _ else _) = _
          rw [if_neg (by omega), if_neg q3]
        rw [e] at k1 ⊢
        rw [nI_1, Int32.add_zero]
        exact k1 _
      · dsimp only at q2 q3 ht1 ⊢
        rw [zn_le (by omega) (by omega)] at q2
        rw [zn_eq (by omega) (by omega)] at q3
        have e : zbs1 (zcn σ.1.1 σ.1.2.1 a) a (t1, some x, t3) = (t1, some x, t3 + 1) := by
          show (if zcn σ.1.1 σ.1.2.1 a < t1 then _ else if zcn σ.1.1 σ.1.2.1 a = t1 then _ else _) = _
          rw [if_neg (by omega), if_pos (Classical.not_not.mp q3)]
        rw [e] at k1 ⊢
        rw [nI_1, nI_1]
        exact k1 _
      · dsimp only at q2 ht1 ⊢
        rw [zn_le (by omega) (by omega)] at q2
        have e : zbs1 (zcn σ.1.1 σ.1.2.1 a) a (t1, some x, t3) = (zcn σ.1.1 σ.1.2.1 a, some a, 1) := by
          show (if zcn σ.1.1 σ.1.2.1 a < t1 then _ else if zcn σ.1.1 σ.1.2.1 a = t1 then _ else _) = _
          rw [if_pos (by omega)]
        rw [e] at k1 ⊢
        rw [nI_1, show (0 + 1 : Int32) = nI 1 by decide]
        exact k1 _
    · rw [hz, if_neg hn]
      rw [show znor σ.1.1 σ.1.2.1 a = false by simpa using hn] at a2
      obtain ⟨M', k1, k2⟩ := c_X9_leastNormal_9 f (a + 1) t M6 h6 (by omega) ht1 ht2
      exact ⟨M', fun o => t_X9_leastNormal_9 _ _ _ _ _ _ ⟨fun c => absurd c c1, fun _ => ⟨M5, a1, _, M6, a2, fun _ => by rw [nI_1]; exact k1 _, fun c => absurd rfl c⟩⟩, k2⟩
theorem c_X9_leastNormal (h : zC M0 σ M) : zE M0 mq_X9_leastNormal [.ref 0] M (k_leastNormal σ) := by
  have h1 := f1_lt h.g
  obtain ⟨M', k1, k2⟩ := c_X9_leastNormal_9 (2 ^ σ.1.2.1 - 1) 1 (0, none, 0) M h (by omega) (by decide) (fun x q => (by cases q))
  exact ⟨M', t_X9_leastNormal_0 _ (k1 none), k2⟩
theorem c_X9_leastPowers_9 : ∀ (f a : Nat) (t : Nat × Option Nat × Nat) (M : mz_M), zC M0 σ M → a + f = 2 ^ σ.1.2.1 → t.1 < 1000 → (∀ x, t.2.1 = some x → x < 2 ^ 31) → ∃ M', (∀ o : Option Value, mq_G mq_X9_leastPowers (9, [some (.ref 0), some (.int (nI t.1)), some (.int (zNo t.2.1)), some (.int (nI t.2.2)), some (.int (nI a)), o], [], M) (some (.int (nI (zbst (zpok σ.1.1 σ.1.2.1) (zwp σ.1.1 σ.1.2.1) f a t).1)), M')) ∧ zC M0 (zrw σ (zr2 (zNo (zbst (zpok σ.1.1 σ.1.2.1) (zwp σ.1.1 σ.1.2.1) f a t).2.1) (nI (zbst (zpok σ.1.1 σ.1.2.1) (zwp σ.1.1 σ.1.2.1) f a t).2.2))) M'
  | 0, a, t, M, h, hf, ht1, ht2 => by
    have hq := h.q
    obtain ⟨M2, M3, M4, e1, e2, e3, e4, -⟩ := s_cput2 h (zNo t.2.1) (nI t.2.2)
    refine ⟨M4, fun o => t_X9_leastPowers_9 _ _ _ _ _ _ ⟨fun _ => ⟨M2, e1, M3, e2, M4, e3, rfl⟩, fun c => absurd ?_ c⟩, e4⟩
    rw [h.m2, zn_le (by omega) (by omega)]
    omega
  | f + 1, a, t, M, h, hf, ht1, ht2 => by
    have hq := h.q
    have h8 := h.g.2.1
    have hal : a < 2 ^ σ.1.2.1 := by omega
    obtain ⟨M5, M6, a1, a2, h6, a4, a5⟩ := s_cpowr (a := a) h hal
    have c1 : ¬ M.1 2 2 ≤ nI a := by
      rw [h.m2, zn_le (by omega) (by omega)]
      omega
    have hz : zbst (zpok σ.1.1 σ.1.2.1) (zwp σ.1.1 σ.1.2.1) (f + 1) a t = zbst (zpok σ.1.1 σ.1.2.1) (zwp σ.1.1 σ.1.2.1) f (a + 1) (if zpok σ.1.1 σ.1.2.1 a = true then zbs1 (zwp σ.1.1 σ.1.2.1 a) a t else t) := rfl
    by_cases hn : zpok σ.1.1 σ.1.2.1 a = true
    · rw [hz, if_pos hn]
      rw [hn] at a2
      have hcl : zwp σ.1.1 σ.1.2.1 a < 1000 := Nat.lt_of_le_of_lt (zwt_le _ h8) (by decide)
      obtain ⟨z1, z2⟩ := zbs1_ok hcl (show a < 2 ^ 31 by omega) ht1 ht2
      obtain ⟨M', k1, k2⟩ := c_X9_leastPowers_9 f (a + 1) (zbs1 (zwp σ.1.1 σ.1.2.1 a) a t) M6 h6 (by omega) z1 z2
      have bt : mq_C mq_X2_bitsOfAll [.ref 1, .ref 75] M6 (some (.int (nI (zwp σ.1.1 σ.1.2.1 a))), M6) := s_X2_bitsOfAll h6.F ⟨zpok_iff.mp hn, fun i _ => fpw_lt h.g hal i⟩ zar75 a4 a5
      refine ⟨M', fun o => t_X9_leastPowers_9 _ _ _ _ _ _ ⟨fun c => absurd c c1, fun _ => ⟨M5, a1, _, M6, a2, fun c => absurd c z10, fun _ => ⟨_, bt, fun q => ⟨fun q2 => absurd rfl q2, fun _ => ?_⟩, fun q => ⟨fun q2 => ⟨fun q3 => ?_, fun q3 => ?_⟩, fun q2 => ⟨fun q3 => absurd rfl q3, fun _ => ?_⟩⟩⟩⟩⟩, k2⟩
      · rw [zNo_m1 ht2] at q
        obtain ⟨t1, o2, t3⟩ := t
        dsimp only at q
        subst q
        rw [nI_1, show (0 + 1 : Int32) = nI 1 by decide]
        exact k1 _
      all_goals
        rw [zNo_m1 ht2] at q
        obtain ⟨t1, o2, t3⟩ := t
        cases o2 with
        | none => exact absurd rfl q
        | some x => ?_
      · dsimp only at q2 q3 ht1 ⊢
        rw [zn_le (by omega) (by omega)] at q2
        rw [zn_eq (by omega) (by omega)] at q3
        have e : zbs1 (zwp σ.1.1 σ.1.2.1 a) a (t1, some x, t3) = (t1, some x, t3) := by
          show (if zwp σ.1.1 σ.1.2.1 a < t1 then _ else if zwp σ.1.1 σ.1.2.1 a = t1 then _ else _) = _
          rw [if_neg (by omega), if_neg q3]
        rw [e] at k1 ⊢
        rw [nI_1, Int32.add_zero]
        exact k1 _
      · dsimp only at q2 q3 ht1 ⊢
        rw [zn_le (by omega) (by omega)] at q2
        rw [zn_eq (by omega) (by omega)] at q3
        have e : zbs1 (zwp σ.1.1 σ.1.2.1 a) a (t1, some x, t3) = (t1, some x, t3 + 1) := by
          show (if zwp σ.1.1 σ.1.2.1 a < t1 then _ else if zwp σ.1.1 σ.1.2.1 a = t1 then _ else _) = _
          rw [if_neg (by omega), if_pos (Classical.not_not.mp q3)]
        rw [e] at k1 ⊢
        rw [nI_1, nI_1]
        exact k1 _
      · dsimp only at q2 ht1 ⊢
        rw [zn_le (by omega) (by omega)] at q2
        have e : zbs1 (zwp σ.1.1 σ.1.2.1 a) a (t1, some x, t3) = (zwp σ.1.1 σ.1.2.1 a, some a, 1) := by
          show (if zwp σ.1.1 σ.1.2.1 a < t1 then _ else if zwp σ.1.1 σ.1.2.1 a = t1 then _ else _) = _
          rw [if_pos (by omega)]
        rw [e] at k1 ⊢
        rw [nI_1, show (0 + 1 : Int32) = nI 1 by decide]
        exact k1 _
    · rw [hz, if_neg hn]
      rw [show zpok σ.1.1 σ.1.2.1 a = false by simpa using hn] at a2
      obtain ⟨M', k1, k2⟩ := c_X9_leastPowers_9 f (a + 1) t M6 h6 (by omega) ht1 ht2
      exact ⟨M', fun o => t_X9_leastPowers_9 _ _ _ _ _ _ ⟨fun c => absurd c c1, fun _ => ⟨M5, a1, _, M6, a2, fun _ => by rw [nI_1]; exact k1 _, fun c => absurd rfl c⟩⟩, k2⟩
theorem c_X9_leastPowers (h : zC M0 σ M) : zE M0 mq_X9_leastPowers [.ref 0] M (k_leastPowers σ) := by
  have h1 := f1_lt h.g
  obtain ⟨M', k1, k2⟩ := c_X9_leastPowers_9 (2 ^ σ.1.2.1 - 1) 1 (0, none, 0) M h (by omega) (by decide) (fun x q => (by cases q))
  exact ⟨M', t_X9_leastPowers_0 _ (k1 none), k2⟩
theorem c_X9_makes1 {s a w : Nat} (h : zC M0 σ M) (hs : s < 4) (ha : a < 2 ^ σ.1.2.1) (hw : w ≤ 1) : ∃ M', zC M0 (k_makes1 σ s a w).2 M' ∧ (
            ((¬ nI w = 0 →
              (∃ (M8 : mz_M), (mq_C mq_X0_fillsConjugates [.ref 2, .ref 75, .int (nI a)] M (none, M8)) ∧
              (∃ (r9 : Int32) (M9 : mz_M), (mq_C mq_X1_holds [.ref 5, .ref 75, .int (M8.1 2 1)] M8 (some (.int r9), M9)) ∧
              ((r9 = 0 →
                ((some (Value.int (k_makes1 σ s a w).1), M') : mz_O) = (some (.int (-2)), M9)) ∧
              (¬ (r9 = 0) →
                (∃ (r11 : Int32) (M11 : mz_M), (mq_C mq_X9_setsSlot [.ref 0, .int (nI s), .ref 75] M9 (some (.int r11), M11)) ∧
                ((some (Value.int (k_makes1 σ s a w).1), M') : mz_O) = (some (.int r11), M11))))))) ∧
            (¬ (¬ nI w = 0) →
              (∃ (M12 : mz_M), (mq_C mq_X0_fillsPowers [.ref 2, .ref 75, .int (nI a)] M (none, M12)) ∧
              (∃ (r13 : Int32) (M13 : mz_M), (mq_C mq_X1_holds [.ref 5, .ref 75, .int (M12.1 2 1)] M12 (some (.int r13), M13)) ∧
              ((r13 = 0 →
                ((some (Value.int (k_makes1 σ s a w).1), M') : mz_O) = (some (.int (-2)), M13)) ∧
              (¬ (r13 = 0) →
                (∃ (r15 : Int32) (M15 : mz_M), (mq_C mq_X9_setsSlot [.ref 0, .int (nI s), .ref 75] M13 (some (.int r15), M15)) ∧
                ((some (Value.int (k_makes1 σ s a w).1), M') : mz_O) = (some (.int r15), M15)))))))) ) := by
  unfold k_makes1
  by_cases hw0 : w = 0
  · subst hw0
    simp only [if_true]
    obtain ⟨M5, M6, a1, a2, h6, a4, a5⟩ := s_cpowr h ha
    by_cases e : zpok σ.1.1 σ.1.2.1 a = true
    · rw [if_pos e]
      rw [e] at a2
      obtain ⟨M', k1, k2, -⟩ := s_X9_setsSlot h6 hs ⟨zpok_iff.mp e, fun i _ => fpw_lt h.g ha i⟩ a4
      exact ⟨M', k2, fun c => absurd rfl c, fun _ => ⟨M5, a1, 1, M6, a2, fun c => absurd c z10, fun _ => ⟨_, M', k1, rfl⟩⟩⟩
    · rw [if_neg e]
      rw [show zpok σ.1.1 σ.1.2.1 a = false by simpa using e] at a2
      exact ⟨M6, h6, fun c => absurd rfl c, fun _ => ⟨M5, a1, 0, M6, a2, fun _ => rfl, fun c => absurd rfl c⟩⟩
  · have hw1 : w = 1 := by omega
    subst hw1
    rw [if_neg (by decide)]
    obtain ⟨M5, M6, a1, a2, h6, a4, a5⟩ := s_cnorm h ha
    by_cases e : znor σ.1.1 σ.1.2.1 a = true
    · rw [if_pos e]
      rw [e] at a2
      obtain ⟨M', k1, k2, -⟩ := s_X9_setsSlot h6 hs ⟨znor_iff.mp e, fun i _ => cj_lt h.g ha i⟩ a4
      exact ⟨M', k2, fun _ => ⟨M5, a1, 1, M6, a2, fun c => absurd c z10, fun _ => ⟨_, M', k1, rfl⟩⟩, fun c => absurd z10 c⟩
    · rw [if_neg e]
      rw [show znor σ.1.1 σ.1.2.1 a = false by simpa using e] at a2
      exact ⟨M6, h6, fun _ => ⟨M5, a1, 0, M6, a2, fun _ => rfl, fun c => absurd rfl c⟩, fun c => absurd z10 c⟩
theorem c_X9_makes (h : zC M0 σ M) (s x w : Int32) : zE M0 mq_X9_makes [.ref 0, .int s, .int x, .int w] M (k_makes σ s x w) := by
  have hq := h.q
  have h8 := h.g.2.1
  have h2 := h.g.1
  have hg := h.g
  by_cases g0 : zel 4 s = true
  · by_cases g1 : zel (2 ^ σ.1.2.1) x = true
    · simp only [zE, k_makes, g0, g1, if_true]
      obtain ⟨s, hs, rfl⟩ := zsln g0
      obtain ⟨a, ha, rfl⟩ := h.en g1
      by_cases g2 : zbt 0 1 w = true
      · rw [if_pos g2]
        obtain ⟨w, -, hw, rfl⟩ := zbtn (a := 0) (b := 1) (by decide) (by decide) g2
        rw [zu_nI (by omega), zu_nI (by omega), zu_nI (by omega)]
        obtain ⟨M', k2, k1⟩ := c_X9_makes1 h hs ha hw
        exact ⟨M', t_X9_makes_0 _ _ _ _ ⟨1, zCs1 _ g0, fun c => absurd c z10, fun _ => ⟨1, h.el1 g1, fun c => absurd c z10, fun _ => ⟨fun c => absurd c (nI_pos (by omega)), fun _ => ⟨fun _ => k1, fun c => absurd (zbt_iff.mp g2).2 c⟩⟩⟩⟩, k2⟩
      · rw [if_neg g2]
        exact ⟨M, t_X9_makes_0 _ _ _ _ ⟨1, zCs1 _ g0, fun c => absurd c z10, fun _ => ⟨1, h.el1 g1, fun c => absurd c z10, fun _ => ⟨fun _ => rfl, fun c => ⟨fun d => absurd (zbt_iff.mpr ⟨Int32.not_lt.mp c, d⟩) g2, fun _ => rfl⟩⟩⟩⟩, h⟩
    · simp only [zE, k_makes, g0, g1, if_true]
      exact ⟨M, t_X9_makes_0 _ _ _ _ ⟨1, zCs1 _ g0, fun c => absurd c z10, fun _ => ⟨0, h.el0 g1, fun _ => rfl, fun c => absurd rfl c⟩⟩, h⟩
  · simp only [zE, k_makes, g0]
    exact ⟨M, t_X9_makes_0 _ _ _ _ ⟨0, zCs0 _ g0, fun _ => rfl, fun c => absurd rfl c⟩, h⟩
theorem zunl_s (v w : Nat → Nat) (n : Nat) : zunl v w (n + 1) = (zunl v w n || !(Nat.beq (v n) (w n))) := rfl
theorem c_X9_copies_23 {s t : Nat} (hs : s < 4) (ht : t < 4) : ∀ (f i : Nat) (M : mz_M), i + f = σ.1.2.1 → zC M0 σ M → zrow M 75 i (σ.1.2.2 s) → ∃ M', mq_G mq_X9_copies (23, [some (.ref 0), some (.int (nI s)), some (.int (nI t)), some (.int (zB (zunl (σ.1.2.2 s) (σ.1.2.2 t) i))), some (.int (nI i))], [], M) (some (.int (zB (zunl (σ.1.2.2 s) (σ.1.2.2 t) σ.1.2.1))), M') ∧ zC M0 (zhold σ t (σ.1.2.2 s)) M'
  | 0, i, M, hi, h, hr => by
    have h8 := h.g.2.1
    obtain rfl : i = σ.1.2.1 := by omega
    obtain ⟨M', k1, k2, -⟩ := s_X9_setsSlot h ht (h.b hs) hr
    refine ⟨M', t_X9_copies_23 _ _ _ _ _ ⟨fun _ => ⟨_, M', k1, rfl⟩, fun c => absurd ?_ c⟩, k2⟩
    rw [h.m1, zn_le (by omega) (by omega)]
    exact Nat.le_refl _
  | f + 1, i, M, hi, h, hr => by
    have h8 := h.g.2.1
    have l1 := z31 h8 ((h.b hs).2 i (by omega))
    have l2 := z31 h8 ((h.b ht).2 i (by omega))
    have r1 := h.s hs i (by omega)
    have r2 := h.s ht i (by omega)
    have hk : zK [75] M (mz_wr M 75 (upd (M.1 75) i (nI (σ.1.2.2 s i)))) := zK.wr (by simp)
    obtain ⟨M', k1, k2⟩ := c_X9_copies_23 hs ht f (i + 1) _ (by omega) (h.k hk (by decide)) hr.put
    refine ⟨M', t_X9_copies_23 _ _ _ _ _ ⟨fun c => ?_, fun _ => ⟨zn_in (by omega) (by decide), rfl, by rw [zgd8 hs]; exact zar10 hs, zn_in (by omega) (by decide), zn_in (by omega) (by decide), fun M7 e7 => ⟨zn_in (by omega) (by decide), zn_in (by omega) (by decide), rfl, by rw [zgd8 ht]; exact zar10 ht, zn_in (by omega) (by decide), ?_⟩⟩⟩, k2⟩
    · rw [h.m1, zn_le (by omega) (by omega)] at c
      omega
    · rw [zgd8 hs, zn_cl (by omega), r1] at e7
      rw [zgd8 ht, zn_cl (by omega), e7, zwr_s, zupd_s, zwr_n (by omega), r2, zn_eq l1 l2, nI_1]
      refine ⟨fun c => ?_, fun c => ?_⟩
      · rw [zunl_s, show Nat.beq (σ.1.2.2 s i) (σ.1.2.2 t i) = true by rw [c]; exact Nat.beq_refl _, Bool.not_true, Bool.or_false] at k1
        exact k1
      · rw [zunl_s, show Nat.beq (σ.1.2.2 s i) (σ.1.2.2 t i) = false by cases q : Nat.beq (σ.1.2.2 s i) (σ.1.2.2 t i) with | false => rfl | true => exact absurd (Nat.eq_of_beq_eq_true q) c, Bool.not_false, Bool.or_true] at k1
        exact k1
theorem c_X9_copies (h : zC M0 σ M) (s t : Int32) : zE M0 mq_X9_copies [.ref 0, .int s, .int t] M (k_copies σ s t) := by
  have hq := h.q
  have h8 := h.g.2.1
  have h2 := h.g.1
  have hg := h.g
  by_cases g0 : zel 4 s = true
  · by_cases g1 : zel 4 t = true
    · simp only [zE, k_copies, g0, g1, if_true]
      obtain ⟨s, hs, rfl⟩ := zsln g0
      obtain ⟨t, ht, rfl⟩ := zsln g1
      rw [zu_nI (by omega), zu_nI (by omega)]
      obtain ⟨M', k1, k2⟩ := c_X9_copies_23 hs ht σ.1.2.1 0 M (Nat.zero_add _) h (fun j hj => absurd hj (Nat.not_lt_zero j))
      exact ⟨M', t_X9_copies_0 _ _ _ ⟨1, zCs1 _ g0, fun c => absurd c z10, fun _ => ⟨1, zCs1 _ g1, fun _ => k1, fun c => absurd z10 c⟩⟩, k2⟩
    · simp only [zE, k_copies, g0, g1, if_true]
      exact ⟨M, t_X9_copies_0 _ _ _ ⟨1, zCs1 _ g0, fun c => absurd c z10, fun _ => ⟨0, zCs0 _ g1, fun c => absurd rfl c, fun _ => rfl⟩⟩, h⟩
  · simp only [zE, k_copies, g0]
    exact ⟨M, t_X9_copies_0 _ _ _ ⟨0, zCs0 _ g0, fun _ => rfl, fun c => absurd rfl c⟩, h⟩
theorem c_X9_scales_27 {s a : Nat} (hs : s < 4) (h0 : 0 < a) (ha : a < 2 ^ σ.1.2.1) : ∀ (f i : Nat) (M : mz_M), i + f = σ.1.2.1 → zC M0 σ M → zrow M 75 i (fun k => fm σ.1.1 σ.1.2.1 a (σ.1.2.2 s k)) → ∃ M', mq_G mq_X9_scales (27, [some (.ref 0), some (.int (nI s)), some (.int (nI a)), some (.int (nI i))], [], M) (some (.int (nI (zs (ztb σ.1.1 σ.1.2.1 (fun k => fm σ.1.1 σ.1.2.1 a (σ.1.2.2 s k)) 0) σ.1.2.1))), M') ∧ zC M0 (zhold σ s (fun k => fm σ.1.1 σ.1.2.1 a (σ.1.2.2 s k))) M'
  | 0, i, M, hi, h, hr => by
    have h8 := h.g.2.1
    obtain rfl : i = σ.1.2.1 := by omega
    obtain ⟨g, hc⟩ := h.F.c
    obtain ⟨M', k1, k2, -⟩ := s_X9_setsSlot h hs (zbas_scale h.g hc (h.b hs) h0 ha) hr
    refine ⟨M', t_X9_scales_27 _ _ _ _ ⟨fun _ => ⟨_, M', k1, rfl⟩, fun c => absurd ?_ c⟩, k2⟩
    rw [h.m1, zn_le (by omega) (by omega)]
    exact Nat.le_refl _
  | f + 1, i, M, hi, h, hr => by
    have h8 := h.g.2.1
    have l1 := (h.b hs).2 i (by omega)
    have r1 := h.s hs i (by omega)
    have hk : zK [75] M (mz_wr M 75 (upd (M.1 75) i (nI (fm σ.1.1 σ.1.2.1 a (σ.1.2.2 s i))))) := zK.wr (by simp)
    obtain ⟨M', k1, k2⟩ := c_X9_scales_27 hs h0 ha f (i + 1) _ (by omega) (h.k hk (by decide)) hr.put
    refine ⟨M', t_X9_scales_27 _ _ _ _ ⟨fun c => ?_, fun _ => ⟨zn_in (by omega) (by decide), rfl, by rw [zgd8 hs]; exact zar10 hs, zn_in (by omega) (by decide), nI (fm σ.1.1 σ.1.2.1 a (σ.1.2.2 s i)), ?_, zn_in (by omega) (by decide), fun M8 e8 => ?_⟩⟩, k2⟩
    · rw [h.m1, zn_le (by omega) (by omega)] at c
      omega
    · rw [zgd8 hs, zn_cl (by omega), r1, fm_comm h.g ha l1]
      exact h.F.t l1 ha
    · rw [zn_cl (by omega)] at e8
      rw [e8, nI_1]
      exact k1
theorem c_X9_scales (h : zC M0 σ M) (s x : Int32) : zE M0 mq_X9_scales [.ref 0, .int s, .int x] M (k_scales σ s x) := by
  have hq := h.q
  have h8 := h.g.2.1
  have h2 := h.g.1
  have hg := h.g
  by_cases g0 : zel 4 s = true
  · by_cases g1 : zel (2 ^ σ.1.2.1) x = true
    · simp only [zE, k_scales, g0, g1, if_true]
      obtain ⟨s, hs, rfl⟩ := zsln g0
      obtain ⟨a, ha, rfl⟩ := h.en g1
      by_cases hx : nI a = 0
      · rw [if_pos hx]
        exact ⟨M, t_X9_scales_0 _ _ _ ⟨1, zCs1 _ g0, fun c => absurd c z10, fun _ => ⟨1, h.el1 g1, fun _ => ⟨fun c => absurd hx c, fun _ => rfl⟩, fun c => absurd z10 c⟩⟩, h⟩
      · have h0 : 0 < a := by rw [zn_eq0 (by omega)] at hx; omega
        rw [if_neg hx, zu_nI (by omega), zu_nI (by omega)]
        obtain ⟨M', k1, k2⟩ := c_X9_scales_27 hs h0 ha σ.1.2.1 0 M (Nat.zero_add _) h (fun j hj => absurd hj (Nat.not_lt_zero j))
        exact ⟨M', t_X9_scales_0 _ _ _ ⟨1, zCs1 _ g0, fun c => absurd c z10, fun _ => ⟨1, h.el1 g1, fun _ => ⟨fun _ => k1, fun c => absurd hx c⟩, fun c => absurd z10 c⟩⟩, k2⟩
    · simp only [zE, k_scales, g0, g1, if_true]
      exact ⟨M, t_X9_scales_0 _ _ _ ⟨1, zCs1 _ g0, fun c => absurd c z10, fun _ => ⟨0, h.el0 g1, fun c => absurd rfl c, fun _ => rfl⟩⟩, h⟩
  · simp only [zE, k_scales, g0]
    exact ⟨M, t_X9_scales_0 _ _ _ ⟨0, zCs0 _ g0, fun _ => rfl, fun c => absurd rfl c⟩, h⟩
/-- a slot is copied, to be changed -/
theorem s_ccopy (h : zC M0 σ M) {s : Nat} (hs : s < 4) : ∃ M', mq_C mq_X7_copiesSlot [.ref 8, .int (nI s), .ref 75] M (none, M') ∧ zC M0 σ M' ∧ zrow M' 75 σ.1.2.1 (σ.1.2.2 s) := by
  have h8 := h.g.2.1
  obtain ⟨M', g1, g2, g3⟩ := s_X7_copiesSlot (b := 75) ycs8 hs zar75 M
  exact ⟨M', g1, h.k g2 (by decide), fun j hj => by rw [g3 j (by omega)]; exact h.s hs j hj⟩
theorem zrow.up {c n i x : Nat} {v : Nat → Nat} (h : zrow M c n v) (hi : i < n) : zrow (mz_wr M c (upd (M.1 c) i (nI x))) c n (fun k => if k = i then x else v k) := fun j hj => by
  rw [zwr_s]
  show upd (M.1 c) i (nI x) j = nI (if j = i then x else v j)
  by_cases e : j = i
  · rw [e, zupd_s, if_pos rfl]
  · rw [zupd_n e, if_neg e]; exact h j hj
theorem c_X9_moves (h : zC M0 σ M) (s x y : Int32) : zE M0 mq_X9_moves [.ref 0, .int s, .int x, .int y] M (k_moves σ s x y) := by
  have hq := h.q
  have h8 := h.g.2.1
  have h2 := h.g.1
  have hg := h.g
  by_cases g0 : zel 4 s = true
  · by_cases g1 : zel σ.1.2.1 x = true
    · by_cases g2 : zel σ.1.2.1 y = true
      · simp only [zE, k_moves, g0, g1, g2, if_true]
        obtain ⟨s, hs, rfl⟩ := zsln g0
        obtain ⟨i, hi, hi8, rfl⟩ := h.pn g1
        obtain ⟨j, hj, hj8, rfl⟩ := h.pn g2
        by_cases hx : nI i = nI j
        · rw [if_pos hx]
          exact ⟨M, t_X9_moves_0 _ _ _ _ ⟨1, zCs1 _ g0, fun c => absurd c z10, fun _ => ⟨1, h.pl1 g1, fun c => absurd c z10, fun _ => ⟨1, h.pl1 g2, fun _ => ⟨fun c => absurd hx c, fun _ => rfl⟩, fun c => absurd z10 c⟩⟩⟩, h⟩
        · have hij : i ≠ j := fun q => hx (by rw [q])
          rw [if_neg hx, zu_nI (by omega), zu_nI (by omega), zu_nI (by omega)]
          obtain ⟨M8, e1, h8c, e3⟩ := s_ccopy h hs
          have hk13 : zK [75] M8 (mz_wr M8 75 (upd (M8.1 75) i (nI (σ.1.2.2 s j)))) := zK.wr (by simp)
          have h13 := h8c.k hk13 (by decide)
          have r13 := e3.up (x := σ.1.2.2 s j) hi
          obtain ⟨M13, d13⟩ : ∃ y, y = mz_wr M8 75 (upd (M8.1 75) i (nI (σ.1.2.2 s j))) := ⟨_, rfl⟩
          rw [← d13] at h13 r13
          have hk19 : zK [75] M13 (mz_wr M13 75 (upd (M13.1 75) j (nI (σ.1.2.2 s i)))) := zK.wr (by simp)
          have h19 := h13.k hk19 (by decide)
          have r19 := r13.up (x := σ.1.2.2 s i) hj
          obtain ⟨M', k1, k2, -⟩ := s_X9_setsSlot h19 hs (zbas_swap (h.b hs) hi hj hij) r19
          refine ⟨M', t_X9_moves_0 _ _ _ _ ⟨1, zCs1 _ g0, fun c => absurd c z10, fun _ => ⟨1, h.pl1 g1, fun c => absurd c z10, fun _ => ⟨1, h.pl1 g2, fun _ => ⟨fun _ => ⟨M8, e1, zn_in (by omega) (by decide), rfl, by rw [zgd8 hs]; exact zar10 hs, zn_in (by omega) (by decide), zn_in (by omega) (by decide), fun N n13 => ⟨zn_in (by omega) (by decide), rfl, by rw [zgd8 hs]; exact zar10 hs, zn_in (by omega) (by decide), zn_in (by omega) (by decide), fun N2 n19 => ?_⟩⟩, fun c => absurd hx c⟩, fun c => absurd z10 c⟩⟩⟩, k2⟩
          rw [zgd8 hs, zn_cl (by omega), zn_cl (by omega), h8c.s hs j hj, ← d13] at n13
          rw [n13, zgd8 hs, zn_cl (by omega), zn_cl (by omega), h13.s hs i hi] at n19
          rw [n19]
          exact ⟨_, M', k1, rfl⟩
      · simp only [zE, k_moves, g0, g1, g2, if_true]
        exact ⟨M, t_X9_moves_0 _ _ _ _ ⟨1, zCs1 _ g0, fun c => absurd c z10, fun _ => ⟨1, h.pl1 g1, fun c => absurd c z10, fun _ => ⟨0, h.pl0 g2, fun c => absurd rfl c, fun _ => rfl⟩⟩⟩, h⟩
    · simp only [zE, k_moves, g0, g1, if_true]
      exact ⟨M, t_X9_moves_0 _ _ _ _ ⟨1, zCs1 _ g0, fun c => absurd c z10, fun _ => ⟨0, h.pl0 g1, fun _ => rfl, fun c => absurd rfl c⟩⟩, h⟩
  · simp only [zE, k_moves, g0]
    exact ⟨M, t_X9_moves_0 _ _ _ _ ⟨0, zCs0 _ g0, fun _ => rfl, fun c => absurd rfl c⟩, h⟩
theorem c_X9_adds (h : zC M0 σ M) (s x y : Int32) : zE M0 mq_X9_adds [.ref 0, .int s, .int x, .int y] M (k_adds σ s x y) := by
  have hq := h.q
  have h8 := h.g.2.1
  have h2 := h.g.1
  have hg := h.g
  by_cases g0 : zel 4 s = true
  · by_cases g1 : zel σ.1.2.1 x = true
    · by_cases g2 : zel σ.1.2.1 y = true
      · simp only [zE, k_adds, g0, g1, g2, if_true]
        obtain ⟨s, hs, rfl⟩ := zsln g0
        obtain ⟨i, hi, hi8, rfl⟩ := h.pn g1
        obtain ⟨j, hj, hj8, rfl⟩ := h.pn g2
        by_cases hx : nI i = nI j
        · rw [if_pos hx]
          exact ⟨M, t_X9_adds_0 _ _ _ _ ⟨1, zCs1 _ g0, fun c => absurd c z10, fun _ => ⟨1, h.pl1 g1, fun c => absurd c z10, fun _ => ⟨1, h.pl1 g2, fun _ => ⟨fun c => absurd hx c, fun _ => rfl⟩, fun c => absurd z10 c⟩⟩⟩, h⟩
        · have hij : i ≠ j := fun q => hx (by rw [q])
          rw [if_neg hx, zu_nI (by omega), zu_nI (by omega), zu_nI (by omega)]
          obtain ⟨M8, e1, h8c, e3⟩ := s_ccopy h hs
          have hk13 : zK [75] M8 (mz_wr M8 75 (upd (M8.1 75) i (nI (σ.1.2.2 s i ^^^ σ.1.2.2 s j)))) := zK.wr (by simp)
          have h13 := h8c.k hk13 (by decide)
          have r13 := e3.up (x := σ.1.2.2 s i ^^^ σ.1.2.2 s j) hi
          obtain ⟨M', k1, k2, -⟩ := s_X9_setsSlot h13 hs (zbas_add (h.b hs) hi hj hij) r13
          refine ⟨M', t_X9_adds_0 _ _ _ _ ⟨1, zCs1 _ g0, fun c => absurd c z10, fun _ => ⟨1, h.pl1 g1, fun c => absurd c z10, fun _ => ⟨1, h.pl1 g2, fun _ => ⟨fun _ => ⟨M8, e1, zn_in (by omega) (by decide), zn_in (by omega) (by decide), zn_in (by omega) (by decide), fun N n9 => ?_⟩, fun c => absurd hx c⟩, fun c => absurd z10 c⟩⟩⟩, k2⟩
          rw [zn_cl (by omega), zn_cl (by omega), e3 i hi, e3 j hj, zn_xor] at n9
          rw [n9]
          exact ⟨_, M', k1, rfl⟩
      · simp only [zE, k_adds, g0, g1, g2, if_true]
        exact ⟨M, t_X9_adds_0 _ _ _ _ ⟨1, zCs1 _ g0, fun c => absurd c z10, fun _ => ⟨1, h.pl1 g1, fun c => absurd c z10, fun _ => ⟨0, h.pl0 g2, fun c => absurd rfl c, fun _ => rfl⟩⟩⟩, h⟩
    · simp only [zE, k_adds, g0, g1, if_true]
      exact ⟨M, t_X9_adds_0 _ _ _ _ ⟨1, zCs1 _ g0, fun c => absurd c z10, fun _ => ⟨0, h.pl0 g1, fun _ => rfl, fun c => absurd rfl c⟩⟩, h⟩
  · simp only [zE, k_adds, g0]
    exact ⟨M, t_X9_adds_0 _ _ _ _ ⟨0, zCs0 _ g0, fun _ => rfl, fun c => absurd rfl c⟩, h⟩
end CC2
