/-! calls of the class: what is asked of bases -/
section CC3
variable {M0 M M' : mz_M} {σ : zSg}
theorem zn10 {s : Nat} : 10 + s ∉ [5, 6, 7] := by simp; omega
theorem c_X9_at (h : zC M0 σ M) (s i : Int32) : zE M0 mq_X9_at [.ref 0, .int s, .int i] M (k_at σ s i) := by
  have hq := h.q
  have h8 := h.g.2.1
  have h2 := h.g.1
  have hg := h.g
  by_cases g0 : zel 4 s = true
  · by_cases g1 : zel σ.1.2.1 i = true
    · simp only [zE, k_at, g0, g1, if_true]
      obtain ⟨s, hs, rfl⟩ := zsln g0
      obtain ⟨i, hi, hi8, rfl⟩ := h.pn g1
      rw [zu_nI (by omega), zu_nI (by omega)]
      refine ⟨M, t_X9_at_0 _ _ _ ⟨1, zCs1 _ g0, fun c => absurd c z10, fun _ => ⟨1, h.pl1 g1, fun c => absurd c z10, fun _ => ⟨zn_in (by omega) (by decide), rfl, by rw [zgd8 hs]; exact zar10 hs, zn_in (by omega) (by decide), ?_⟩⟩⟩, h⟩
      rw [zgd8 hs, zn_cl (by omega), h.s hs i hi]
    · simp only [zE, k_at, g0, g1, if_true]
      exact ⟨M, t_X9_at_0 _ _ _ ⟨1, zCs1 _ g0, fun c => absurd c z10, fun _ => ⟨0, h.pl0 g1, fun _ => rfl, fun c => absurd rfl c⟩⟩, h⟩
  · simp only [zE, k_at, g0]
    exact ⟨M, t_X9_at_0 _ _ _ ⟨0, zCs0 _ g0, fun _ => rfl, fun c => absurd rfl c⟩, h⟩
theorem c_X9_coordinates (h : zC M0 σ M) (s x : Int32) : zE M0 mq_X9_coordinates [.ref 0, .int s, .int x] M (k_coordinates σ s x) := by
  have hq := h.q
  have h8 := h.g.2.1
  have h2 := h.g.1
  have hg := h.g
  by_cases g0 : zel 4 s = true
  · by_cases g1 : zel (2 ^ σ.1.2.1) x = true
    · simp only [zE, k_coordinates, g0, g1, if_true]
      obtain ⟨s, hs, rfl⟩ := zsln g0
      obtain ⟨a, ha, rfl⟩ := h.en g1
      rw [zu_nI (by omega), zu_nI (by omega)]
      obtain ⟨r, M7, e1, e2, e3, e4⟩ := s_cholds h hs
      obtain ⟨M9, M11, f1, f2, f3, -⟩ := s_cput1 e2 (nI (zpop 10 (crd (σ.1.2.2 s) σ.1.2.1 a)))
      exact ⟨M11, t_X9_coordinates_0 _ _ _ ⟨1, zCs1 _ g0, fun c => absurd c z10, fun _ => ⟨1, h.el1 g1, fun _ => ⟨zn_in (by omega) (by decide), rfl, r, M7, by rw [zgd8 hs]; exact e1, _, s_located e3 (h.b hs) h8 ha, M9, f1, _, s_bitCount M9 (z256 h8 crd_lt), M11, f2, rfl⟩, fun c => absurd z10 c⟩⟩, f3⟩
    · simp only [zE, k_coordinates, g0, g1, if_true]
      exact ⟨M, t_X9_coordinates_0 _ _ _ ⟨1, zCs1 _ g0, fun c => absurd c z10, fun _ => ⟨0, h.el0 g1, fun c => absurd rfl c, fun _ => rfl⟩⟩, h⟩
  · simp only [zE, k_coordinates, g0]
    exact ⟨M, t_X9_coordinates_0 _ _ _ ⟨0, zCs0 _ g0, fun _ => rfl, fun c => absurd rfl c⟩, h⟩
theorem c_X9_made (h : zC M0 σ M) (s x : Int32) : zE M0 mq_X9_made [.ref 0, .int s, .int x] M (k_made σ s x) := by
  have hq := h.q
  have h8 := h.g.2.1
  have h2 := h.g.1
  have hg := h.g
  by_cases g0 : zel 4 s = true
  · by_cases g1 : zel (2 ^ σ.1.2.1) x = true
    · simp only [zE, k_made, g0, g1, if_true]
      obtain ⟨s, hs, rfl⟩ := zsln g0
      obtain ⟨a, ha, rfl⟩ := h.en g1
      rw [zu_nI (by omega), zu_nI (by omega)]
      exact ⟨M, t_X9_made_0 _ _ _ ⟨1, zCs1 _ g0, fun c => absurd c z10, fun _ => ⟨1, h.el1 g1, fun c => absurd c z10, fun _ => ⟨zn_in (by omega) (by decide), rfl, nI (zcb (σ.1.2.2 s) σ.1.2.1 a), by rw [zgd8 hs]; exact s_X2_sumAt h.F ha (zar10 hs) (h.s hs), rfl⟩⟩⟩, h⟩
    · simp only [zE, k_made, g0, g1, if_true]
      exact ⟨M, t_X9_made_0 _ _ _ ⟨1, zCs1 _ g0, fun c => absurd c z10, fun _ => ⟨0, h.el0 g1, fun _ => rfl, fun c => absurd rfl c⟩⟩, h⟩
  · simp only [zE, k_made, g0]
    exact ⟨M, t_X9_made_0 _ _ _ ⟨0, zCs0 _ g0, fun _ => rfl, fun c => absurd rfl c⟩, h⟩
theorem c_X9_change (h : zC M0 σ M) (s t : Int32) : zE M0 mq_X9_change [.ref 0, .int s, .int t] M (k_change σ s t) := by
  have hq := h.q
  have h8 := h.g.2.1
  have h2 := h.g.1
  have hg := h.g
  by_cases g0 : zel 4 s = true
  · by_cases g1 : zel 4 t = true
    · simp only [zE, k_change, g0, g1, if_true]
      obtain ⟨s, hs, rfl⟩ := zsln g0
      obtain ⟨t, ht, rfl⟩ := zsln g1
      rw [zu_nI (by omega), zu_nI (by omega)]
      obtain ⟨r, M7, e1, e2, e3, e4⟩ := s_cholds h ht
      obtain ⟨M', k1, k2⟩ := s_X9_tellsLocated e2 (h.b ht) (h.b hs).2 (zar10 hs) (by omega) e3 ((h.s hs).k e4 zn10)
      exact ⟨M', t_X9_change_0 _ _ _ ⟨1, zCs1 _ g0, fun c => absurd c z10, fun _ => ⟨1, zCs1 _ g1, fun _ => ⟨zn_in (by omega) (by decide), rfl, r, M7, by rw [zgd8 ht]; exact e1, zn_in (by omega) (by decide), rfl, nI (zs (zcp (σ.1.2.2 t) (σ.1.2.2 s) σ.1.2.1) σ.1.2.1), M', by rw [zgd8 hs]; exact k1, rfl⟩, fun c => absurd z10 c⟩⟩, k2⟩
    · simp only [zE, k_change, g0, g1, if_true]
      exact ⟨M, t_X9_change_0 _ _ _ ⟨1, zCs1 _ g0, fun c => absurd c z10, fun _ => ⟨0, zCs0 _ g1, fun c => absurd rfl c, fun _ => rfl⟩⟩, h⟩
  · simp only [zE, k_change, g0]
    exact ⟨M, t_X9_change_0 _ _ _ ⟨0, zCs0 _ g0, fun _ => rfl, fun c => absurd rfl c⟩, h⟩
theorem c_X9_table (h : zC M0 σ M) (s i j : Int32) : zE M0 mq_X9_table [.ref 0, .int s, .int i, .int j] M (k_table σ s i j) := by
  have hq := h.q
  have h8 := h.g.2.1
  have h2 := h.g.1
  have hg := h.g
  by_cases g0 : zel 4 s = true
  · by_cases g1 : zel σ.1.2.1 i = true
    · by_cases g2 : zel σ.1.2.1 j = true
      · simp only [zE, k_table, g0, g1, g2, if_true]
        obtain ⟨s, hs, rfl⟩ := zsln g0
        obtain ⟨i, hi, hi8, rfl⟩ := h.pn g1
        obtain ⟨j, hj, hj8, rfl⟩ := h.pn g2
        rw [zu_nI (by omega), zu_nI (by omega), zu_nI (by omega)]
        obtain ⟨r, M9, e1, e2, e3, e4⟩ := s_cholds h hs
        have li := (h.b hs).2 i hi
        have lj := (h.b hs).2 j hj
        refine ⟨M9, t_X9_table_0 _ _ _ _ ⟨1, zCs1 _ g0, fun c => absurd c z10, fun _ => ⟨1, h.pl1 g1, fun c => absurd c z10, fun _ => ⟨1, h.pl1 g2, fun _ => ⟨zn_in (by omega) (by decide), rfl, r, M9, by rw [zgd8 hs]; exact e1, zn_in (by omega) (by decide), rfl, by rw [zgd8 hs]; exact zar10 hs, zn_in (by omega) (by decide), zn_in (by omega) (by decide), rfl, by rw [zgd8 hs]; exact zar10 hs, zn_in (by omega) (by decide), nI (fm σ.1.1 σ.1.2.1 (σ.1.2.2 s i) (σ.1.2.2 s j)), ?_, _, s_located e3 (h.b hs) h8 (fm_lt hg li), rfl⟩, fun c => absurd z10 c⟩⟩⟩, e2⟩
        rw [zgd8 hs, zn_cl (by omega), zn_cl (by omega), e2.s hs i hi, e2.s hs j hj]
        exact e2.F.t li lj
      · simp only [zE, k_table, g0, g1, g2, if_true]
        exact ⟨M, t_X9_table_0 _ _ _ _ ⟨1, zCs1 _ g0, fun c => absurd c z10, fun _ => ⟨1, h.pl1 g1, fun c => absurd c z10, fun _ => ⟨0, h.pl0 g2, fun c => absurd rfl c, fun _ => rfl⟩⟩⟩, h⟩
    · simp only [zE, k_table, g0, g1, if_true]
      exact ⟨M, t_X9_table_0 _ _ _ _ ⟨1, zCs1 _ g0, fun c => absurd c z10, fun _ => ⟨0, h.pl0 g1, fun _ => rfl, fun c => absurd rfl c⟩⟩, h⟩
  · simp only [zE, k_table, g0]
    exact ⟨M, t_X9_table_0 _ _ _ _ ⟨0, zCs0 _ g0, fun _ => rfl, fun c => absurd rfl c⟩, h⟩
theorem c_X9_complexity (h : zC M0 σ M) (s : Int32) : zE M0 mq_X9_complexity [.ref 0, .int s] M (k_complexity σ s) := by
  have hq := h.q
  have h8 := h.g.2.1
  have h2 := h.g.1
  have hg := h.g
  by_cases g0 : zel 4 s = true
  · simp only [zE, k_complexity, g0, if_true]
    obtain ⟨s, hs, rfl⟩ := zsln g0
    rw [zu_nI (by omega)]
    obtain ⟨r, M5, e1, e2, e3, e4⟩ := s_cholds h hs
    have hcx := zcx_le (P := σ.1.1) (σ.1.2.2 s) h8
    have l0 := z31 h8 ((h.b hs).2 0 (by omega))
    have r5 := e2.s hs
    obtain ⟨M8, f1, f2, f3, -⟩ := s_cempties e2 (zr3 (nI (zwt σ.1.1 σ.1.2.1 (σ.1.2.2 s))) (zB (znb σ.1.1 σ.1.2.1 (σ.1.2.2 s) && Nat.beq (zs (ztb σ.1.1 σ.1.2.1 (σ.1.2.2 s) 0) σ.1.2.1) (2 * σ.1.2.1 - 1))) (if znb σ.1.1 σ.1.2.1 (σ.1.2.2 s) = true then nI (σ.1.2.2 s 0) else -1)).2
    have F8 : zCF σ.1.1 σ.1.2.1 M8 := f2.F
    have r8 := r5.e (f3 (10 + s) (by omega))
    obtain ⟨M10, g1, g2, g3⟩ := s_cputs f2 (by decide) (x := (nI (zwt σ.1.1 σ.1.2.1 (σ.1.2.2 s))).toInt64) rfl
    have m10 : M10.1 2 1 = nI σ.1.2.1 := g2.m1
    obtain ⟨M12, i1, i2, i3⟩ := s_cputs g2 (by decide) (x := (zB (znb σ.1.1 σ.1.2.1 (σ.1.2.2 s) && Nat.beq (zs (ztb σ.1.1 σ.1.2.1 (σ.1.2.2 s) 0) σ.1.2.1) (2 * σ.1.2.1 - 1))).toInt64) rfl
    obtain ⟨M13, j1, j2, j3⟩ := s_cputs i2 (by decide) (x := (if znb σ.1.1 σ.1.2.1 (σ.1.2.2 s) = true then nI (σ.1.2.2 s 0) else (-1 : Int32)).toInt64) rfl
    refine ⟨M13, t_X9_complexity_0 _ _ ⟨1, zCs1 _ g0, fun _ => ⟨zn_in (by omega) (by decide), rfl, r, M5, by rw [zgd8 hs]; exact e1, nI (zs (ztb σ.1.1 σ.1.2.1 (σ.1.2.2 s) 0) σ.1.2.1), by rw [zgd8 hs]; exact s_X2_bitsOfFirst e2.F (h.b hs) (zar10 hs) r5 e3, if znb σ.1.1 σ.1.2.1 (σ.1.2.2 s) = true then nI (σ.1.2.2 s 0) else -1, by rw [zgd8 hs]; exact s_X2_whoseNormal e2.F (h.b hs).2 (zar10 hs) r5, M8, f1, nI (zwt σ.1.1 σ.1.2.1 (σ.1.2.2 s)), by rw [zgd8 hs]; exact s_X2_bitsOfAll F8 (h.b hs) (zar10 hs) r8 (e3.e (f3 5 (by decide)) (f3 6 (by decide)) (f3 7 (by decide))), M10, g1, fun q => ?_, fun q => ⟨fun q2 => ?_, fun q2 => ?_⟩⟩, fun c => absurd z10 c⟩, j2⟩
    · have hb : znb σ.1.1 σ.1.2.1 (σ.1.2.2 s) = false := by
        cases hb : znb σ.1.1 σ.1.2.1 (σ.1.2.2 s) with
        | false => rfl
        | true =>
          rw [hb, if_pos rfl] at q
          exact absurd (by rw [q]; decide) (nI_pos l0)
      rw [hb] at i1
      exact ⟨M12, i1, M13, j1, rfl⟩
    · rw [m10, show (2 : Int32) = nI 2 from rfl, pk_mul, zs1 (by omega), zn_eq (by omega) (by omega)] at q2
      rw [show Nat.beq (zs (ztb σ.1.1 σ.1.2.1 (σ.1.2.2 s) 0) σ.1.2.1) (2 * σ.1.2.1 - 1) = false by cases z : Nat.beq (zs (ztb σ.1.1 σ.1.2.1 (σ.1.2.2 s) 0) σ.1.2.1) (2 * σ.1.2.1 - 1) with | false => rfl | true => exact absurd (Nat.eq_of_beq_eq_true z) q2, Bool.and_false] at i1
      exact ⟨M12, i1, M13, j1, rfl⟩
    · rw [m10, show (2 : Int32) = nI 2 from rfl, pk_mul, zs1 (by omega), zn_eq (by omega) (by omega)] at q2
      have hb : znb σ.1.1 σ.1.2.1 (σ.1.2.2 s) = true := by
        cases hb : znb σ.1.1 σ.1.2.1 (σ.1.2.2 s) with
        | true => rfl
        | false =>
          rw [hb] at q
          exact absurd rfl q
      rw [hb, Classical.not_not.mp q2, Nat.beq_refl] at i1
      exact ⟨M12, i1, M13, j1, rfl⟩
  · simp only [zE, k_complexity, g0]
    exact ⟨M, t_X9_complexity_0 _ _ ⟨0, zCs0 _ g0, fun c => absurd rfl c, fun _ => rfl⟩, h⟩
theorem c_X9_by_47 {s a : Nat} (hs : s < 4) (ha : a < 2 ^ σ.1.2.1) : ∀ (f i : Nat) (M : mz_M), i + f = σ.1.2.1 → zC M0 σ M → zfr (σ.1.2.2 s) σ.1.2.1 M → zrow M 75 i (fun k => fm σ.1.1 σ.1.2.1 a (σ.1.2.2 s k)) → ∃ M', mq_G mq_X9_by (47, [some (.ref 0), some (.int (nI s)), some (.int (nI a)), some (.int (nI (zs (zbo σ.1.1 σ.1.2.1 (σ.1.2.2 s) a) i))), some (.int (nI i))], [], M) (some (.int (nI (zs (zcp (σ.1.2.2 s) (fun k => fm σ.1.1 σ.1.2.1 a (σ.1.2.2 s k)) σ.1.2.1) σ.1.2.1))), M') ∧ zC M0 (zrw σ (σ.1.2.1 + 1, zbf σ.1.1 σ.1.2.1 (σ.1.2.2 s) a)) M'
  | 0, i, M, hi, h, hF, hr => by
    have h8 := h.g.2.1
    obtain rfl : i = σ.1.2.1 := by omega
    obtain ⟨M2, k1, k2⟩ := s_X9_tellsLocated h (h.b hs) (fun i _ => fm_lt h.g ha) zar75 (by decide) hF hr
    have k3 : zC M0 (zrw σ (σ.1.2.1, zbf σ.1.1 σ.1.2.1 (σ.1.2.2 s) a)) M2 := k2.ext (fun k hk => by unfold zbf; rw [if_neg (by omega)])
    obtain ⟨M3, l1, l2, -⟩ := s_cputs k3 (by omega) (x := (nI (zs (zbo σ.1.1 σ.1.2.1 (σ.1.2.2 s) a) σ.1.2.1)).toInt64) (by unfold zbf; rw [if_pos rfl])
    refine ⟨M3, t_X9_by_47 _ _ _ _ _ ⟨fun _ => ⟨_, M2, k1, M3, l1, rfl⟩, fun c => absurd ?_ c⟩, l2⟩
    rw [h.m1, zn_le (by omega) (by omega)]
    exact Nat.le_refl _
  | f + 1, i, M, hi, h, hF, hr => by
    have h8 := h.g.2.1
    have l1 := (h.b hs).2 i (by omega)
    have hl := fm_lt h.g ha (b := σ.1.2.2 s i)
    have r1 := h.s hs i (by omega)
    have hk : zK [75] M (mz_wr M 75 (upd (M.1 75) i (nI (fm σ.1.1 σ.1.2.1 a (σ.1.2.2 s i))))) := zK.wr (by simp)
    have hF9 := hF.k hk (by decide) (by decide) (by decide)
    obtain ⟨M', k1, k2⟩ := c_X9_by_47 hs ha f (i + 1) _ (by omega) (h.k hk (by decide)) hF9 hr.put
    refine ⟨M', t_X9_by_47 _ _ _ _ _ ⟨fun c => ?_, fun _ => ⟨zn_in (by omega) (by decide), rfl, by rw [zgd8 hs]; exact zar10 hs, zn_in (by omega) (by decide), nI (fm σ.1.1 σ.1.2.1 a (σ.1.2.2 s i)), ?_, zn_in (by omega) (by decide), fun M9 e9 => ⟨zn_in (by omega) (by decide), nI (crd (σ.1.2.2 s) σ.1.2.1 (fm σ.1.1 σ.1.2.1 a (σ.1.2.2 s i))), ?_, ?_⟩⟩⟩, k2⟩
    · rw [h.m1, zn_le (by omega) (by omega)] at c
      omega
    · rw [zgd8 hs, zn_cl (by omega), r1]
      exact h.F.t ha l1
    · rw [zn_cl (by omega)] at e9
      rw [e9, zn_cl (by omega), zwr_s, zupd_s]
      exact s_located hF9 (h.b hs) h8 hl
    · rw [zn_cl (by omega)] at e9
      rw [e9, zn_bit (z31 h8 crd_lt) (by omega), nI_add, nI_1]
      exact k1
theorem c_X9_by (h : zC M0 σ M) (s x : Int32) : zE M0 mq_X9_by [.ref 0, .int s, .int x] M (k_by σ s x) := by
  have hq := h.q
  have h8 := h.g.2.1
  have h2 := h.g.1
  have hg := h.g
  by_cases g0 : zel 4 s = true
  · by_cases g1 : zel (2 ^ σ.1.2.1) x = true
    · simp only [zE, k_by, g0, g1, if_true]
      obtain ⟨s, hs, rfl⟩ := zsln g0
      obtain ⟨a, ha, rfl⟩ := h.en g1
      rw [zu_nI (by omega), zu_nI (by omega)]
      obtain ⟨r, M7, e1, e2, e3, e4⟩ := s_cholds h hs
      obtain ⟨M', k1, k2⟩ := c_X9_by_47 hs ha σ.1.2.1 0 M7 (Nat.zero_add _) e2 e3 (fun j hj => absurd hj (Nat.not_lt_zero j))
      exact ⟨M', t_X9_by_0 _ _ _ ⟨1, zCs1 _ g0, fun c => absurd c z10, fun _ => ⟨1, h.el1 g1, fun _ => ⟨zn_in (by omega) (by decide), rfl, r, M7, by rw [zgd8 hs]; exact e1, k1⟩, fun c => absurd z10 c⟩⟩, k2⟩
    · simp only [zE, k_by, g0, g1, if_true]
      exact ⟨M, t_X9_by_0 _ _ _ ⟨1, zCs1 _ g0, fun c => absurd c z10, fun _ => ⟨0, h.el0 g1, fun c => absurd rfl c, fun _ => rfl⟩⟩, h⟩
  · simp only [zE, k_by, g0]
    exact ⟨M, t_X9_by_0 _ _ _ ⟨0, zCs0 _ g0, fun _ => rfl, fun c => absurd rfl c⟩, h⟩
theorem c_X9_squares_36 {s : Nat} (hs : s < 4) : ∀ (f i : Nat) (M : mz_M), i + f = σ.1.2.1 → zC M0 σ M → zfr (σ.1.2.2 s) σ.1.2.1 M → zrow M 75 i (fun k => fm σ.1.1 σ.1.2.1 (σ.1.2.2 s k) (σ.1.2.2 s k)) → ∃ M', mq_G mq_X9_squares (36, [some (.ref 0), some (.int (nI s)), some (.int (nI i))], [], M) (some (.int (nI (zs (zcp (σ.1.2.2 s) (fun k => fm σ.1.1 σ.1.2.1 (σ.1.2.2 s k) (σ.1.2.2 s k)) σ.1.2.1) σ.1.2.1))), M') ∧ zC M0 (zrw σ (σ.1.2.1, zcf (σ.1.2.2 s) (fun k => fm σ.1.1 σ.1.2.1 (σ.1.2.2 s k) (σ.1.2.2 s k)) σ.1.2.1)) M'
  | 0, i, M, hi, h, hF, hr => by
    have h8 := h.g.2.1
    obtain rfl : i = σ.1.2.1 := by omega
    obtain ⟨M2, k1, k2⟩ := s_X9_tellsLocated h (h.b hs) (fun i hi => fm_lt h.g ((h.b hs).2 i hi)) zar75 (by decide) hF hr
    refine ⟨M2, t_X9_squares_36 _ _ _ ⟨fun _ => ⟨_, M2, k1, rfl⟩, fun c => absurd ?_ c⟩, k2⟩
    rw [h.m1, zn_le (by omega) (by omega)]
    exact Nat.le_refl _
  | f + 1, i, M, hi, h, hF, hr => by
    have h8 := h.g.2.1
    have l1 := (h.b hs).2 i (by omega)
    have r1 := h.s hs i (by omega)
    have hk : zK [75] M (mz_wr M 75 (upd (M.1 75) i (nI (fm σ.1.1 σ.1.2.1 (σ.1.2.2 s i) (σ.1.2.2 s i))))) := zK.wr (by simp)
    obtain ⟨M', k1, k2⟩ := c_X9_squares_36 hs f (i + 1) _ (by omega) (h.k hk (by decide)) (hF.k hk (by decide) (by decide) (by decide)) hr.put
    refine ⟨M', t_X9_squares_36 _ _ _ ⟨fun c => ?_, fun _ => ⟨zn_in (by omega) (by decide), rfl, by rw [zgd8 hs]; exact zar10 hs, zn_in (by omega) (by decide), zn_in (by omega) (by decide), rfl, by rw [zgd8 hs]; exact zar10 hs, zn_in (by omega) (by decide), nI (fm σ.1.1 σ.1.2.1 (σ.1.2.2 s i) (σ.1.2.2 s i)), ?_, zn_in (by omega) (by decide), fun M12 e12 => ?_⟩⟩, k2⟩
    · rw [h.m1, zn_le (by omega) (by omega)] at c
      omega
    · rw [zgd8 hs, zn_cl (by omega), r1]
      exact h.F.t l1 l1
    · rw [zn_cl (by omega)] at e12
      rw [e12, nI_1]
      exact k1
theorem c_X9_squares (h : zC M0 σ M) (s : Int32) : zE M0 mq_X9_squares [.ref 0, .int s] M (k_squares σ s) := by
  have hq := h.q
  have h8 := h.g.2.1
  have h2 := h.g.1
  have hg := h.g
  by_cases g0 : zel 4 s = true
  · simp only [zE, k_squares, g0, if_true]
    obtain ⟨s, hs, rfl⟩ := zsln g0
    rw [zu_nI (by omega)]
    obtain ⟨r, M5, e1, e2, e3, e4⟩ := s_cholds h hs
    obtain ⟨M', k1, k2⟩ := c_X9_squares_36 hs σ.1.2.1 0 M5 (Nat.zero_add _) e2 e3 (fun j hj => absurd hj (Nat.not_lt_zero j))
    exact ⟨M', t_X9_squares_0 _ _ ⟨1, zCs1 _ g0, fun _ => ⟨zn_in (by omega) (by decide), rfl, r, M5, by rw [zgd8 hs]; exact e1, k1⟩, fun c => absurd z10 c⟩, k2⟩
  · simp only [zE, k_squares, g0]
    exact ⟨M, t_X9_squares_0 _ _ ⟨0, zCs0 _ g0, fun c => absurd rfl c, fun _ => rfl⟩, h⟩
theorem c_X9_productIn (h : zC M0 σ M) (s x y : Int32) : zE M0 mq_X9_productIn [.ref 0, .int s, .int x, .int y] M (k_productIn σ s x y) := by
  have hq := h.q
  have h8 := h.g.2.1
  have h2 := h.g.1
  have hg := h.g
  by_cases g0 : zel 4 s = true
  · by_cases g1 : zel (2 ^ σ.1.2.1) x = true
    · by_cases g2 : zel (2 ^ σ.1.2.1) y = true
      · simp only [zE, k_productIn, g0, g1, g2, if_true]
        obtain ⟨s, hs, rfl⟩ := zsln g0
        obtain ⟨a, ha, rfl⟩ := h.en g1
        obtain ⟨b, hb, rfl⟩ := h.en g2
        rw [zu_nI (by omega), zu_nI (by omega), zu_nI (by omega)]
        obtain ⟨r, M9, e1, e2, e3, e4⟩ := s_cholds h hs
        have la := zcb_lt (n := σ.1.2.1) (h.b hs).2 a
        have lb := zcb_lt (n := σ.1.2.1) (h.b hs).2 b
        exact ⟨M9, t_X9_productIn_0 _ _ _ _ ⟨1, zCs1 _ g0, fun c => absurd c z10, fun _ => ⟨1, h.el1 g1, fun c => absurd c z10, fun _ => ⟨1, h.el1 g2, fun _ => ⟨zn_in (by omega) (by decide), rfl, r, M9, by rw [zgd8 hs]; exact e1, nI (zcb (σ.1.2.2 s) σ.1.2.1 a), by rw [zgd8 hs]; exact s_X2_sumAt e2.F ha (zar10 hs) (e2.s hs), nI (zcb (σ.1.2.2 s) σ.1.2.1 b), by rw [zgd8 hs]; exact s_X2_sumAt e2.F hb (zar10 hs) (e2.s hs), _, e2.F.t la lb, _, s_located e3 (h.b hs) h8 (fm_lt hg la), rfl⟩, fun c => absurd z10 c⟩⟩⟩, e2⟩
      · simp only [zE, k_productIn, g0, g1, g2, if_true]
        exact ⟨M, t_X9_productIn_0 _ _ _ _ ⟨1, zCs1 _ g0, fun c => absurd c z10, fun _ => ⟨1, h.el1 g1, fun c => absurd c z10, fun _ => ⟨0, h.el0 g2, fun c => absurd rfl c, fun _ => rfl⟩⟩⟩, h⟩
    · simp only [zE, k_productIn, g0, g1, if_true]
      exact ⟨M, t_X9_productIn_0 _ _ _ _ ⟨1, zCs1 _ g0, fun c => absurd c z10, fun _ => ⟨0, h.el0 g1, fun _ => rfl, fun c => absurd rfl c⟩⟩, h⟩
  · simp only [zE, k_productIn, g0]
    exact ⟨M, t_X9_productIn_0 _ _ _ _ ⟨0, zCs0 _ g0, fun _ => rfl, fun c => absurd rfl c⟩, h⟩
theorem c_X9_far (h : zC M0 σ M) (s x y : Int32) : zE M0 mq_X9_far [.ref 0, .int s, .int x, .int y] M (k_far σ s x y) := by
  have hq := h.q
  have h8 := h.g.2.1
  have h2 := h.g.1
  have hg := h.g
  by_cases g0 : zel 4 s = true
  · by_cases g1 : zel (2 ^ σ.1.2.1) x = true
    · by_cases g2 : zel (2 ^ σ.1.2.1) y = true
      · simp only [zE, k_far, g0, g1, g2, if_true]
        obtain ⟨s, hs, rfl⟩ := zsln g0
        obtain ⟨a, ha, rfl⟩ := h.en g1
        obtain ⟨b, hb, rfl⟩ := h.en g2
        rw [zu_nI (by omega), zu_nI (by omega), zu_nI (by omega)]
        obtain ⟨r, M9, e1, e2, e3, e4⟩ := s_cholds h hs
        have lx := Nat.xor_lt_two_pow (crd_lt (v := σ.1.2.2 s) (m := σ.1.2.1) (e := a)) (crd_lt (v := σ.1.2.2 s) (m := σ.1.2.1) (e := b))
        obtain ⟨M12, M13, M14, f1, f2, f3, f4, -⟩ := s_cput2 e2 (nI (crd (σ.1.2.2 s) σ.1.2.1 a ^^^ crd (σ.1.2.2 s) σ.1.2.1 b)) (nI (crd (σ.1.2.2 s) σ.1.2.1 a &&& crd (σ.1.2.2 s) σ.1.2.1 b))
        exact ⟨M14, t_X9_far_0 _ _ _ _ ⟨1, zCs1 _ g0, fun c => absurd c z10, fun _ => ⟨1, h.el1 g1, fun c => absurd c z10, fun _ => ⟨1, h.el1 g2, fun _ => ⟨zn_in (by omega) (by decide), rfl, r, M9, by rw [zgd8 hs]; exact e1, _, s_located e3 (h.b hs) h8 ha, _, s_located e3 (h.b hs) h8 hb, M12, f1, M13, by rw [zn_xor]; exact f2, M14, by rw [zn_and]; exact f3, nI (zpop 10 (crd (σ.1.2.2 s) σ.1.2.1 a ^^^ crd (σ.1.2.2 s) σ.1.2.1 b)), by rw [zn_xor]; exact s_bitCount M14 (z256 h8 lx), rfl⟩, fun c => absurd z10 c⟩⟩⟩, f4⟩
      · simp only [zE, k_far, g0, g1, g2, if_true]
        exact ⟨M, t_X9_far_0 _ _ _ _ ⟨1, zCs1 _ g0, fun c => absurd c z10, fun _ => ⟨1, h.el1 g1, fun c => absurd c z10, fun _ => ⟨0, h.el0 g2, fun c => absurd rfl c, fun _ => rfl⟩⟩⟩, h⟩
    · simp only [zE, k_far, g0, g1, if_true]
      exact ⟨M, t_X9_far_0 _ _ _ _ ⟨1, zCs1 _ g0, fun c => absurd c z10, fun _ => ⟨0, h.el0 g1, fun _ => rfl, fun c => absurd rfl c⟩⟩, h⟩
  · simp only [zE, k_far, g0]
    exact ⟨M, t_X9_far_0 _ _ _ _ ⟨0, zCs0 _ g0, fun _ => rfl, fun c => absurd rfl c⟩, h⟩
theorem c_X9_steady_41 {v : Nat → Nat} (h : zC M0 σ M) (hb : zbas σ.1.2.1 v) (hF : zfr v σ.1.2.1 M) : ∃ M', zC M0 (zrw σ (zr1 (zNo (zfst (zsdn σ.1.1 σ.1.2.1 v) (2 ^ σ.1.2.1) 0)))) M' ∧ ∀ (f k : Nat) (o1 o5 : Option Value), k + f = 2 ^ σ.1.2.1 → mq_G mq_X9_steady (41, [some (.ref 0), o1, some (.int (nI (zcnt (zsd σ.1.1 σ.1.2.1 v) k 0))), some (.int (zNo (zfst (zsdn σ.1.1 σ.1.2.1 v) k 0))), some (.int (nI k)), o5], [], M) (some (.int (nI (zcnt (zsd σ.1.1 σ.1.2.1 v) (2 ^ σ.1.2.1) 0))), M') := by
  have hq := h.q
  have h8 := h.g.2.1
  obtain ⟨M2, M3, e1, e2, e3, -⟩ := s_cput1 h (zNo (zfst (zsdn σ.1.1 σ.1.2.1 v) (2 ^ σ.1.2.1) 0))
  refine ⟨M3, e3, fun f => ?_⟩
  induction f with
  | zero =>
    intro k o1 o5 hk
    obtain rfl : k = 2 ^ σ.1.2.1 := by omega
    refine t_X9_steady_41 _ _ _ _ _ _ ⟨fun _ => ⟨M2, e1, M3, e2, rfl⟩, fun c => absurd ?_ c⟩
    rw [h.m2, zn_le (by omega) (by omega)]
    exact Nat.le_refl _
  | succ f ih =>
    intro k o1 o5 hk
    have hkl : k < 2 ^ σ.1.2.1 := by omega
    have hl := fm_lt h.g hkl (b := k)
    have p1 := zpop_le 10 (crd v σ.1.2.1 k)
    have p2 := zpop_le 10 (crd v σ.1.2.1 (fm σ.1.1 σ.1.2.1 k k))
    refine t_X9_steady_41 _ _ _ _ _ _ ⟨fun c => ?_, fun _ => ⟨_, s_located hF hb h8 hkl, _, s_bitCount M (z256 h8 crd_lt), _, h.F.t hkl hkl, _, s_located hF hb h8 hl, _, s_bitCount M (z256 h8 crd_lt), fun c => ⟨fun e => ?_, fun e => ?_⟩, fun c => ?_⟩⟩
    · rw [h.m2, zn_le (by omega) (by omega)] at c
      omega
    · rw [zn_eq (by omega) (by omega)] at c
      have hp : ¬ zsd σ.1.1 σ.1.2.1 v k = true := fun q => c (Nat.eq_of_beq_eq_true q)
      have ih := ih (k + 1) o1 (some (.int (nI (zpop 10 (crd v σ.1.2.1 k))))) (by omega)
      rw [yfst_m1 (by omega)] at e
      rw [ycnt_f (Nat.zero_add k) hp, yfst_s e] at ih
      rw [nI_1]
      exact ih
    · rw [zn_eq (by omega) (by omega)] at c
      have hp : ¬ zsd σ.1.1 σ.1.2.1 v k = true := fun q => c (Nat.eq_of_beq_eq_true q)
      have hp2 : zsdn σ.1.1 σ.1.2.1 v k = true := by unfold zsdn; simp [hp]
      have ih := ih (k + 1) o1 (some (.int (nI (zpop 10 (crd v σ.1.2.1 k))))) (by omega)
      rw [yfst_m1 (by omega)] at e
      rw [ycnt_f (Nat.zero_add k) hp, yfst_n (Nat.zero_add k) (Classical.not_not.mp e) hp2] at ih
      rw [nI_1]
      exact ih
    · rw [zn_eq (by omega) (by omega)] at c
      have hp : zsd σ.1.1 σ.1.2.1 v k = true := by unfold zsd; rw [Classical.not_not.mp c]; exact Nat.beq_refl _
      have hp2 : ¬ zsdn σ.1.1 σ.1.2.1 v k = true := by unfold zsdn; simp [hp]
      have ih := ih (k + 1) (mz_nw o1) (some (.int (nI (zpop 10 (crd v σ.1.2.1 k))))) (by omega)
      rw [ycnt_t (Nat.zero_add k) hp, yfst_f (Nat.zero_add k) hp2] at ih
      rw [nI_1, nI_1]
      exact ih
theorem c_X9_steady (h : zC M0 σ M) (s : Int32) : zE M0 mq_X9_steady [.ref 0, .int s] M (k_steady σ s) := by
  have hq := h.q
  have h8 := h.g.2.1
  have h2 := h.g.1
  have hg := h.g
  by_cases g0 : zel 4 s = true
  · simp only [zE, k_steady, g0, if_true]
    obtain ⟨s, hs, rfl⟩ := zsln g0
    rw [zu_nI (by omega)]
    obtain ⟨r, M5, e1, e2, e3, e4⟩ := s_cholds h hs
    obtain ⟨M', k2, k1⟩ := c_X9_steady_41 e2 (h.b hs) e3
    exact ⟨M', t_X9_steady_0 _ _ ⟨1, zCs1 _ g0, fun _ => ⟨zn_in (by omega) (by decide), rfl, r, M5, by rw [zgd8 hs]; exact e1, k1 (2 ^ σ.1.2.1) 0 _ _ (Nat.zero_add _)⟩, fun c => absurd z10 c⟩, k2⟩
  · simp only [zE, k_steady, g0]
    exact ⟨M, t_X9_steady_0 _ _ ⟨0, zCs0 _ g0, fun c => absurd rfl c, fun _ => rfl⟩, h⟩
theorem c_X9_bestScale_32 {s a : Nat} (hs : s < 4) (h0 : 0 < a) (ha : a < 2 ^ σ.1.2.1) (t : Option Nat × Nat) (ht1 : t.2 < 1000) (ht2 : ∀ x, t.1 = some x → x < 2 ^ 31) : ∀ (f i : Nat) (M : mz_M), i + f = σ.1.2.1 → zC M0 σ M → zrow M 75 i (fun k => fm σ.1.1 σ.1.2.1 a (σ.1.2.2 s k)) → ∃ M2, zC M0 σ M2 ∧ ∀ res, (∀ o5 : Option Value, mq_G mq_X9_bestScale (17, [some (.ref 0), some (.int (nI s)), some (.int (nI (zbe1 (zsc σ.1.1 σ.1.2.1 (σ.1.2.2 s) a) a t).2)), some (.int (zNo (zbe1 (zsc σ.1.1 σ.1.2.1 (σ.1.2.2 s) a) a t).1)), some (.int (nI (a + 1))), o5], [], M2) res) → mq_G mq_X9_bestScale (32, [some (.ref 0), some (.int (nI s)), some (.int (nI t.2)), some (.int (zNo t.1)), some (.int (nI a)), some (.int (nI i))], [], M) res
  | 0, i, M, hi, h, hr => by
    have h8 := h.g.2.1
    obtain rfl : i = σ.1.2.1 := by omega
    obtain ⟨g, hc⟩ := h.F.c
    obtain ⟨M2, k1, k2, -⟩ := s_X2_complexityOf h.F (zbas_scale h.g hc (h.b hs) h0 ha) zar75 (by decide) hr
    have hcl : zsc σ.1.1 σ.1.2.1 (σ.1.2.2 s) a ≤ 80 := zcx_le _ h8
    refine ⟨M2, h.k k2 (by decide), fun res kk => t_X9_bestScale_32 _ _ _ _ _ _ ⟨fun _ => ⟨nI (zsc σ.1.1 σ.1.2.1 (σ.1.2.2 s) a), M2, k1, fun q => ?_, fun q => ⟨fun q2 => ?_, fun q2 => ?_⟩⟩, fun c => absurd ?_ c⟩⟩
    · rw [zNo_m1 ht2] at q
      obtain ⟨o, t2⟩ := t
      dsimp only at q
      subst q
      rw [nI_1]
      exact kk _
    · rw [zNo_m1 ht2] at q
      obtain ⟨o, t2⟩ := t
      cases o with
      | none => exact absurd rfl q
      | some x =>
        dsimp only at q2 ht1 ⊢
        rw [zn_le (by omega) (by omega)] at q2
        have e : zbe1 (zsc σ.1.1 σ.1.2.1 (σ.1.2.2 s) a) a (some x, t2) = (some x, t2) := by
          show (if _ < t2 then _ else _) = _
          rw [if_neg (by omega)]
        rw [e] at kk
        rw [nI_1]
        exact kk _
    · rw [zNo_m1 ht2] at q
      obtain ⟨o, t2⟩ := t
      cases o with
      | none => exact absurd rfl q
      | some x =>
        dsimp only at q2 ht1 ⊢
        rw [zn_le (by omega) (by omega)] at q2
        have e : zbe1 (zsc σ.1.1 σ.1.2.1 (σ.1.2.2 s) a) a (some x, t2) = (some a, zsc σ.1.1 σ.1.2.1 (σ.1.2.2 s) a) := by
          show (if _ < t2 then _ else _) = _
          rw [if_pos (by omega)]
        rw [e] at kk
        rw [nI_1]
        exact kk _
    · rw [h.m1, zn_le (by omega) (by omega)]
      exact Nat.le_refl _
  | f + 1, i, M, hi, h, hr => by
    have h8 := h.g.2.1
    have l1 := (h.b hs).2 i (by omega)
    have r1 := h.s hs i (by omega)
    have hk : zK [75] M (mz_wr M 75 (upd (M.1 75) i (nI (fm σ.1.1 σ.1.2.1 a (σ.1.2.2 s i))))) := zK.wr (by simp)
    obtain ⟨M2, k1, k2⟩ := c_X9_bestScale_32 hs h0 ha t ht1 ht2 f (i + 1) _ (by omega) (h.k hk (by decide)) hr.put
    refine ⟨M2, k1, fun res kk => t_X9_bestScale_32 _ _ _ _ _ _ ⟨fun c => ?_, fun _ => ⟨zn_in (by omega) (by decide), rfl, by rw [zgd8 hs]; exact zar10 hs, zn_in (by omega) (by decide), nI (fm σ.1.1 σ.1.2.1 a (σ.1.2.2 s i)), ?_, zn_in (by omega) (by decide), fun M8 e8 => ?_⟩⟩⟩
    · rw [h.m1, zn_le (by omega) (by omega)] at c
      omega
    · rw [zgd8 hs, zn_cl (by omega), r1, fm_comm h.g ha l1]
      exact h.F.t l1 ha
    · rw [zn_cl (by omega)] at e8
      rw [e8, nI_1]
      exact k2 res kk
theorem c_X9_bestScale_17 {s : Nat} (hs : s < 4) : ∀ (f a : Nat) (t : Option Nat × Nat) (M : mz_M), zC M0 σ M → a + f = 2 ^ σ.1.2.1 → 0 < a → t.2 < 1000 → (∀ x, t.1 = some x → x < 2 ^ 31) → ∃ M', (∀ o5 : Option Value, mq_G mq_X9_bestScale (17, [some (.ref 0), some (.int (nI s)), some (.int (nI t.2)), some (.int (zNo t.1)), some (.int (nI a)), o5], [], M) (some (.int (zNo (zbe (zsc σ.1.1 σ.1.2.1 (σ.1.2.2 s)) f a t).1)), M')) ∧ zC M0 (zrw σ (zr1 (nI (zbe (zsc σ.1.1 σ.1.2.1 (σ.1.2.2 s)) f a t).2))) M'
  | 0, a, t, M, h, hf, h0, h1, h2 => by
    have hq := h.q
    obtain ⟨M2, M3, e1, e2, e3, -⟩ := s_cput1 h (nI t.2)
    refine ⟨M3, fun o5 => t_X9_bestScale_17 _ _ _ _ _ _ ⟨fun _ => ⟨M2, e1, M3, e2, rfl⟩, fun c => absurd ?_ c⟩, e3⟩
    rw [h.m2, zn_le (by omega) (by omega)]
    omega
  | f + 1, a, t, M, h, hf, h0, h1, h2 => by
    have hq := h.q
    have h8 := h.g.2.1
    have hcl : zsc σ.1.1 σ.1.2.1 (σ.1.2.2 s) a ≤ 80 := zcx_le _ h8
    obtain ⟨M2, k1, k2⟩ := c_X9_bestScale_32 hs h0 (show a < 2 ^ σ.1.2.1 by omega) t h1 h2 σ.1.2.1 0 M (Nat.zero_add _) h (fun j hj => absurd hj (Nat.not_lt_zero j))
    obtain ⟨z1, z2⟩ := zbe1_ok (show zsc σ.1.1 σ.1.2.1 (σ.1.2.2 s) a < 1000 by omega) (show a < 2 ^ 31 by omega) h1 h2
    obtain ⟨M', l1, l2⟩ := c_X9_bestScale_17 hs f (a + 1) (zbe1 (zsc σ.1.1 σ.1.2.1 (σ.1.2.2 s) a) a t) M2 k1 (by omega) (by omega) z1 z2
    refine ⟨M', fun o5 => t_X9_bestScale_17 _ _ _ _ _ _ ⟨fun c => ?_, fun _ => k2 _ l1⟩, l2⟩
    rw [h.m2, zn_le (by omega) (by omega)] at c
    omega
theorem c_X9_bestScale (h : zC M0 σ M) (s : Int32) : zE M0 mq_X9_bestScale [.ref 0, .int s] M (k_bestScale σ s) := by
  have hq := h.q
  have h8 := h.g.2.1
  have h2 := h.g.1
  have hg := h.g
  by_cases g0 : zel 4 s = true
  · simp only [zE, k_bestScale, g0, if_true]
    obtain ⟨s, hs, rfl⟩ := zsln g0
    rw [zu_nI (by omega)]
    have h1 := f1_lt hg
    obtain ⟨M', k1, k2⟩ := c_X9_bestScale_17 hs (2 ^ σ.1.2.1 - 1) 1 (none, 0) M h (by omega) (by decide) (by decide) (fun x q => (by cases q))
    exact ⟨M', t_X9_bestScale_0 _ _ ⟨1, zCs1 _ g0, fun _ => k1 none, fun c => absurd z10 c⟩, k2⟩
  · simp only [zE, k_bestScale, g0]
    exact ⟨M, t_X9_bestScale_0 _ _ ⟨0, zCs0 _ g0, fun c => absurd rfl c, fun _ => rfl⟩, h⟩
theorem zpl_none {m : Nat} {v : Nat → Nat} {a : Nat} : ∀ {f i : Nat}, zpl m v a f i = none ↔ ∀ j, i ≤ j → j < i + f → ¬ v j = a
  | 0, i => ⟨fun _ j h1 h2 => absurd h1 (by omega), fun _ => rfl⟩
  | f + 1, i => by
    unfold zpl
    by_cases e : v i = a
    · rw [if_pos e]
      exact ⟨fun q => (by cases q), fun q => absurd e (q i (Nat.le_refl _) (by omega))⟩
    · rw [if_neg e, zpl_none]
      exact ⟨fun q j h1 h2 => by
        by_cases ej : j = i
        · rw [ej]; exact e
        · exact q j (by omega) (by omega), fun q j h1 h2 => q j (by omega) (by omega)⟩
theorem ind_ne {v : Nat → Nat} {n i j : Nat} (h : ind v n) (hi : i < n) (hj : j < n) (e : v i = v j) : i = j := by
  rcases Nat.lt_trichotomy i j with q | q | q
  · exact absurd (by rw [← e]; exact sp_mem v q) (h j hj)
  · exact q
  · exact absurd (by rw [e]; exact sp_mem v q) (h i hi)
theorem zcom_pl {m x : Nat} {w : Nat → Nat} (h : ind w m) : ∀ n, n ≤ m → zs (fun j => zeq1 x (w j)) n = if zpl m w x n 0 = none then 0 else 1
  | 0, _ => by rw [if_pos (show zpl m w x 0 0 = none from rfl)]; rfl
  | n + 1, hn => by
    show zs _ n + zeq1 x (w n) = _
    rw [zcom_pl h n (by omega)]
    unfold zeq1
    by_cases e : x = w n
    · rw [if_pos e, if_pos (zpl_none.mpr (fun j h1 h2 q => by have := ind_ne h (show j < m by omega) (show n < m by omega) (q.trans e); omega)), if_neg (fun q => zpl_none.mp q n (by omega) (by omega) e.symm)]
    · rw [if_neg e]
      by_cases q : zpl m w x n 0 = none
      · rw [if_pos q, if_pos (zpl_none.mpr (fun j h1 h2 => by
          by_cases ej : j = n
          · rw [ej]; exact fun z => e z.symm
          · exact zpl_none.mp q j h1 (by omega)))]
      · rw [if_neg q, if_neg (fun z => q (zpl_none.mpr (fun j h1 h2 => zpl_none.mp z j h1 (by omega))))]
theorem zsam_le (v w : Nat → Nat) (m : Nat) : ∀ n, zs (zcom v w m) n ≤ n * m
  | 0 => Nat.zero_le _
  | n + 1 => by
    have h1 := zsam_le v w m n
    have h2 := zcom_le v w m n
    show zs (zcom v w m) n + zcom v w m n ≤ (n + 1) * m
    rw [Nat.add_mul, Nat.one_mul]
    omega
theorem zplc_le (v w : Nat → Nat) : ∀ n, zs (zplc v w) n ≤ n
  | 0 => Nat.zero_le _
  | n + 1 => by
    have h1 := zplc_le v w n
    have h2 := zeq1_le (v n) (w n)
    show zs (zplc v w) n + zeq1 (v n) (w n) ≤ n + 1
    omega
theorem c_X9_same_26 {s t : Nat} (h : zC M0 σ M) (hs : s < 4) (ht : t < 4) : ∃ M', zC M0 (zrw σ (zr2 (nI (zsam (σ.1.2.2 s) (σ.1.2.2 t) σ.1.2.1)) (nI (zsap (σ.1.2.2 s) (σ.1.2.2 t) σ.1.2.1)))) M' ∧ ∀ (f i : Nat) (o : Option Value), i + f = σ.1.2.1 → mq_G mq_X9_same (26, [some (.ref 0), some (.int (nI s)), some (.int (nI t)), some (.int (nI (zs (zcom (σ.1.2.2 s) (σ.1.2.2 t) σ.1.2.1) i))), some (.int (nI (zs (zplc (σ.1.2.2 s) (σ.1.2.2 t)) i))), some (.int (nI i)), o], [], M) (some (.int (zB (Nat.beq (zsam (σ.1.2.2 s) (σ.1.2.2 t) σ.1.2.1) σ.1.2.1))), M') := by
  have h8 := h.g.2.1
  obtain ⟨M2, M3, M4, e1, e2, e3, e4, -⟩ := s_cput2 h (nI (zsam (σ.1.2.2 s) (σ.1.2.2 t) σ.1.2.1)) (nI (zsap (σ.1.2.2 s) (σ.1.2.2 t) σ.1.2.1))
  refine ⟨M4, e4, fun f => ?_⟩
  induction f with
  | zero =>
    intro i o hi
    obtain rfl : i = σ.1.2.1 := by omega
    have hle := zsam_le (σ.1.2.2 s) (σ.1.2.2 t) σ.1.2.1 σ.1.2.1
    have hle2 : σ.1.2.1 * σ.1.2.1 ≤ 64 := Nat.mul_le_mul h8 h8
    have m4 : M4.1 2 1 = nI σ.1.2.1 := e4.m1
    refine t_X9_same_26 _ _ _ _ _ _ _ ⟨fun _ => ⟨M2, e1, M3, e2, M4, e3, ?_⟩, fun c => absurd ?_ c⟩
    · rw [m4, zn_eq (by omega) (by omega)]
      refine ⟨fun c => ?_, fun c => ?_⟩
      · rw [show Nat.beq (zsam (σ.1.2.2 s) (σ.1.2.2 t) σ.1.2.1) σ.1.2.1 = false by cases z : Nat.beq (zsam (σ.1.2.2 s) (σ.1.2.2 t) σ.1.2.1) σ.1.2.1 with | false => rfl | true => exact absurd (Nat.eq_of_beq_eq_true z) c]
        rfl
      · rw [show Nat.beq (zsam (σ.1.2.2 s) (σ.1.2.2 t) σ.1.2.1) σ.1.2.1 = true by rw [show zsam (σ.1.2.2 s) (σ.1.2.2 t) σ.1.2.1 = σ.1.2.1 from Classical.not_not.mp c]; exact Nat.beq_refl _]
        rfl
    · rw [h.m1, zn_le (by omega) (by omega)]
      exact Nat.le_refl _
  | succ f ih =>
    intro i o hi
    have l1 := (h.b hs).2 i (by omega)
    have l2 := (h.b ht).2 i (by omega)
    have r1 := h.s hs i (by omega)
    have r2 := h.s ht i (by omega)
    have z1 := z31 h8 l1
    have z2 := z31 h8 l2
    have hc : zcom (σ.1.2.2 s) (σ.1.2.2 t) σ.1.2.1 i = if zpl σ.1.2.1 (σ.1.2.2 t) (σ.1.2.2 s i) σ.1.2.1 0 = none then 0 else 1 := zcom_pl (h.b ht).1 σ.1.2.1 (Nat.le_refl _)
    have hm1 : zNo (zpl σ.1.2.1 (σ.1.2.2 t) (σ.1.2.2 s i) σ.1.2.1 0) = -1 ↔ zpl σ.1.2.1 (σ.1.2.2 t) (σ.1.2.2 s i) σ.1.2.1 0 = none := zNo_m1 (fun x e => by have := (zpl_lt e).2; omega)
    have ih := ih (i + 1) (some (.int (nI (σ.1.2.2 s i)))) (by omega)
    rw [show zs (zcom (σ.1.2.2 s) (σ.1.2.2 t) σ.1.2.1) (i + 1) = zs (zcom (σ.1.2.2 s) (σ.1.2.2 t) σ.1.2.1) i + zcom (σ.1.2.2 s) (σ.1.2.2 t) σ.1.2.1 i from rfl, show zs (zplc (σ.1.2.2 s) (σ.1.2.2 t)) (i + 1) = zs (zplc (σ.1.2.2 s) (σ.1.2.2 t)) i + zeq1 (σ.1.2.2 s i) (σ.1.2.2 t i) from rfl, hc] at ih
    have pl := s_X2_placeOf h.F (h.b ht).2 l1 (zar10 ht) (h.s ht)
    have c1 : ¬ M.1 2 1 ≤ nI i := by
      rw [h.m1, zn_le (by omega) (by omega)]
      omega
    refine t_X9_same_26 _ _ _ _ _ _ _ ⟨fun c => absurd c c1, fun _ => ⟨zn_in (by omega) (by decide), rfl, by rw [zgd8 hs]; exact zar10 hs, zn_in (by omega) (by decide), zn_in (by omega) (by decide), rfl, zNo (zpl σ.1.2.1 (σ.1.2.2 t) (σ.1.2.2 s i) σ.1.2.1 0), ?_, fun q => ⟨zn_in (by omega) (by decide), rfl, by rw [zgd8 ht]; exact zar10 ht, zn_in (by omega) (by decide), ?_⟩, fun q => ⟨zn_in (by omega) (by decide), rfl, by rw [zgd8 ht]; exact zar10 ht, zn_in (by omega) (by decide), ?_⟩⟩⟩
    · rw [zgd8 hs, zgd8 ht, zn_cl (by omega), r1]
      exact pl
    all_goals
      rw [zgd8 hs, zgd8 ht, zn_cl (by omega), r1, r2, zn_eq z2 z1]
      try rw [nI_1]
      try rw [nI_1]
      try rw [nI_1]
      try rw [Int32.add_zero]
      try rw [Int32.add_zero]
      rw [hm1] at q
    · rw [if_neg q] at ih
      refine ⟨fun c => ?_, fun c => ?_⟩
      · rw [show zeq1 (σ.1.2.2 s i) (σ.1.2.2 t i) = 0 from if_neg (fun z => c z.symm)] at ih
        exact ih
      · rw [show zeq1 (σ.1.2.2 s i) (σ.1.2.2 t i) = 1 from if_pos (Classical.not_not.mp c).symm] at ih
        exact ih
    · rw [if_pos (Classical.not_not.mp q)] at ih
      refine ⟨fun c => ?_, fun c => ?_⟩
      · rw [show zeq1 (σ.1.2.2 s i) (σ.1.2.2 t i) = 0 from if_neg (fun z => c z.symm)] at ih
        exact ih
      · rw [show zeq1 (σ.1.2.2 s i) (σ.1.2.2 t i) = 1 from if_pos (Classical.not_not.mp c).symm] at ih
        exact ih
theorem c_X9_same (h : zC M0 σ M) (s t : Int32) : zE M0 mq_X9_same [.ref 0, .int s, .int t] M (k_same σ s t) := by
  have hq := h.q
  have h8 := h.g.2.1
  have h2 := h.g.1
  have hg := h.g
  by_cases g0 : zel 4 s = true
  · by_cases g1 : zel 4 t = true
    · simp only [zE, k_same, g0, g1, if_true]
      obtain ⟨s, hs, rfl⟩ := zsln g0
      obtain ⟨t, ht, rfl⟩ := zsln g1
      rw [zu_nI (by omega), zu_nI (by omega)]
      obtain ⟨M', k2, k1⟩ := c_X9_same_26 h hs ht
      exact ⟨M', t_X9_same_0 _ _ _ ⟨1, zCs1 _ g0, fun c => absurd c z10, fun _ => ⟨1, zCs1 _ g1, fun _ => k1 σ.1.2.1 0 none (Nat.zero_add _), fun c => absurd z10 c⟩⟩, k2⟩
    · simp only [zE, k_same, g0, g1, if_true]
      exact ⟨M, t_X9_same_0 _ _ _ ⟨1, zCs1 _ g0, fun c => absurd c z10, fun _ => ⟨0, zCs0 _ g1, fun c => absurd rfl c, fun _ => rfl⟩⟩, h⟩
  · simp only [zE, k_same, g0]
    exact ⟨M, t_X9_same_0 _ _ _ ⟨0, zCs0 _ g0, fun _ => rfl, fun c => absurd rfl c⟩, h⟩
theorem c_X9_dual (h : zC M0 σ M) (s t : Int32) : zE M0 mq_X9_dual [.ref 0, .int s, .int t] M (k_dual σ s t) := by
  have hq := h.q
  have h8 := h.g.2.1
  have h2 := h.g.1
  have hg := h.g
  by_cases g0 : zel 4 s = true
  · by_cases g1 : zel 4 t = true
    · simp only [zE, k_dual, g0, g1, if_true]
      obtain ⟨s, hs, rfl⟩ := zsln g0
      obtain ⟨t, ht, rfl⟩ := zsln g1
      rw [zu_nI (by omega), zu_nI (by omega)]
      obtain ⟨g, hz⟩ := h.tb
      obtain ⟨M7, e1, e2, e3⟩ := s_X2_fillsDual (b := 75) h.F hz (h.b hs) zar75 (zar10 hs) (by omega) (by decide) (h.s hs)
      have h7 := h.k e2 (by decide)
      obtain ⟨M8, f1, f2, f3⟩ := s_X9_setsSlot h7 ht (zbas_dual hz (h.b hs)) e3
      obtain ⟨M9, w1, w2, w3, -⟩ := s_cempties f2 (fun k => (nI (zdl σ.1.1 σ.1.2.1 (σ.1.2.2 s) k)).toInt64)
      have m9 : M9.1 2 1 = nI σ.1.2.1 := w2.m1
      obtain ⟨M10, k1, k2, -⟩ := s_cputsAll zar75 (by decide) h8 w2 (fun j hj => by rw [w3 75 (by decide), f3, e3 j hj])
      exact ⟨M10, t_X9_dual_0 _ _ _ ⟨1, zCs1 _ g0, fun c => absurd c z10, fun _ => ⟨1, zCs1 _ g1, fun _ => ⟨zn_in (by omega) (by decide), rfl, M7, by rw [zgd8 hs]; exact e1, _, M8, f1, M9, w1, M10, by rw [m9]; exact k1, rfl⟩, fun c => absurd z10 c⟩⟩, k2⟩
    · simp only [zE, k_dual, g0, g1, if_true]
      exact ⟨M, t_X9_dual_0 _ _ _ ⟨1, zCs1 _ g0, fun c => absurd c z10, fun _ => ⟨0, zCs0 _ g1, fun c => absurd rfl c, fun _ => rfl⟩⟩, h⟩
  · simp only [zE, k_dual, g0]
    exact ⟨M, t_X9_dual_0 _ _ _ ⟨0, zCs0 _ g0, fun _ => rfl, fun c => absurd rfl c⟩, h⟩
theorem c_X9_weakly_32 {s : Nat} {w : Nat → Nat} (hw : ∀ i, i < σ.1.2.1 → w i < 2 ^ σ.1.2.1) (hs : s < 4) : ∀ (f a : Nat) (M : mz_M), a + f = 2 ^ σ.1.2.1 → zC M0 σ M → zrow M 75 σ.1.2.1 w → ∃ M', mq_G mq_X9_weakly (32, [some (.ref 0), some (.int (nI s)), some (.int (nI a))], [], M) (some (.int (k_weakly1 σ s w f a).1), M') ∧ zC M0 (k_weakly1 σ s w f a).2 M'
  | 0, a, M, hf, h, hr => by
    have hq := h.q
    refine ⟨M, t_X9_weakly_32 _ _ _ ⟨fun _ => rfl, fun c => absurd ?_ c⟩, h⟩
    rw [h.m2, zn_le (by omega) (by omega)]
    omega
  | f + 1, a, M, hf, h, hr => by
    have hq := h.q
    have h8 := h.g.2.1
    have c1 : ¬ M.1 2 2 ≤ nI a := by
      rw [h.m2, zn_le (by omega) (by omega)]
      omega
    obtain ⟨M4, e1, e2, e3⟩ := s_X2_fillsPlaces (b := 76) h.F (h.b hs).2 hw (show a < 2 ^ σ.1.2.1 by omega) zar76 zar75 (zar10 hs) (by decide) (by omega) (by decide) hr (h.s hs)
    have h4 := h.k e2 (by decide)
    have hz : zwk σ.1.1 σ.1.2.1 (σ.1.2.2 s) w (f + 1) a = if zwa σ.1.1 σ.1.2.1 (σ.1.2.2 s) w a σ.1.2.1 = true then some a else zwk σ.1.1 σ.1.2.1 (σ.1.2.2 s) w f (a + 1) := rfl
    unfold k_weakly1
    by_cases e : zwa σ.1.1 σ.1.2.1 (σ.1.2.2 s) w a σ.1.2.1 = true
    · rw [hz, if_pos e]
      dsimp only
      rw [e] at e1
      obtain ⟨M6, f1, f2, f3, -⟩ := s_cempties h4 (fun k => (zNo (zwo σ.1.1 σ.1.2.1 (σ.1.2.2 s) w a k)).toInt64)
      have m6 : M6.1 2 1 = nI σ.1.2.1 := f2.m1
      obtain ⟨M7, k1, k2, -⟩ := s_cputsAll zar76 (by decide) h8 f2 (fun j hj => by rw [f3 76 (by decide), e3 e j hj])
      exact ⟨M7, t_X9_weakly_32 _ _ _ ⟨fun c => absurd c c1, fun _ => ⟨zn_in (by omega) (by decide), rfl, 1, M4, by rw [zgd8 hs]; exact e1, fun c => absurd c z10, fun _ => ⟨M6, f1, M7, by rw [m6]; exact k1, rfl⟩⟩⟩, k2⟩
    · rw [hz, if_neg e]
      rw [show zwa σ.1.1 σ.1.2.1 (σ.1.2.2 s) w a σ.1.2.1 = false by simpa using e] at e1
      obtain ⟨M', k1, k2⟩ := c_X9_weakly_32 hw hs f (a + 1) M4 (by omega) h4 (hr.k e2 (by decide))
      exact ⟨M', t_X9_weakly_32 _ _ _ ⟨fun c => absurd c c1, fun _ => ⟨zn_in (by omega) (by decide), rfl, 0, M4, by rw [zgd8 hs]; exact e1, fun _ => by rw [nI_1]; exact k1, fun c => absurd rfl c⟩⟩, k2⟩
theorem c_X9_weakly (h : zC M0 σ M) (s : Int32) : zE M0 mq_X9_weakly [.ref 0, .int s] M (k_weakly σ s) := by
  have hq := h.q
  have h8 := h.g.2.1
  have h2 := h.g.1
  have hg := h.g
  by_cases g0 : zel 4 s = true
  · simp only [zE, k_weakly, g0, if_true]
    obtain ⟨s, hs, rfl⟩ := zsln g0
    rw [zu_nI (by omega)]
    obtain ⟨g, hz⟩ := h.tb
    have h1 := f1_lt hg
    obtain ⟨M5, e1, e2, e3⟩ := s_X2_fillsDual (b := 75) h.F hz (h.b hs) zar75 (zar10 hs) (by omega) (by decide) (h.s hs)
    obtain ⟨M', k1, k2⟩ := c_X9_weakly_32 (zbas_dual hz (h.b hs)).2 hs (2 ^ σ.1.2.1 - 1) 1 M5 (by omega) (h.k e2 (by decide)) e3
    exact ⟨M', t_X9_weakly_0 _ _ ⟨1, zCs1 _ g0, fun _ => ⟨zn_in (by omega) (by decide), rfl, M5, by rw [zgd8 hs]; exact e1, k1⟩, fun c => absurd z10 c⟩, k2⟩
  · simp only [zE, k_weakly, g0]
    exact ⟨M, t_X9_weakly_0 _ _ ⟨0, zCs0 _ g0, fun c => absurd rfl c, fun _ => rfl⟩, h⟩
theorem ztm_cmb {P m g i : Nat} {v : Nat → Nat} (hg : fgood P m) (hc : fcy P m g) (hv : ∀ i, i < m → v i < 2 ^ m) (hi : i < m) : ∀ n, n ≤ m → zcmb (ztv P m v (v i)) n = ztm P m v i n
  | 0, _ => rfl
  | n + 1, hn => by
    rw [← zcmb_or (ztv_lt v (v i)) n, ztm_cmb hg hc hv hi n (by omega), ztv_eq hg hc (hv n (by omega)), fm_comm hg (hv n (by omega)) (hv i hi)]
    rfl
theorem c_X9_traces_21 {s : Nat} (hs : s < 4) : ∀ (f i : Nat) (M : mz_M), i + f = σ.1.2.1 → zC M0 (zrw σ (i, ztf σ.1.1 σ.1.2.1 (σ.1.2.2 s))) M → ∃ M', (∀ o4 : Option Value, mq_G mq_X9_traces (21, [some (.ref 0), some (.int (nI s)), some (.int (zB (zow σ.1.1 σ.1.2.1 (σ.1.2.2 s) i))), some (.int (nI i)), o4], [], M) (some (.int (zB (zow σ.1.1 σ.1.2.1 (σ.1.2.2 s) σ.1.2.1))), M')) ∧ zC M0 (zrw σ (σ.1.2.1, ztf σ.1.1 σ.1.2.1 (σ.1.2.2 s))) M'
  | 0, i, M, hi, h => by
    have h8 : σ.1.2.1 ≤ 8 := h.g.2.1
    have hm1 : M.1 2 1 = nI σ.1.2.1 := h.m1
    obtain rfl : i = σ.1.2.1 := by omega
    refine ⟨M, fun o4 => t_X9_traces_21 _ _ _ _ _ ⟨fun _ => rfl, fun c => absurd ?_ c⟩, h⟩
    rw [hm1, zn_le (by omega) (by omega)]
    exact Nat.le_refl _
  | f + 1, i, M, hi, h => by
    have h8 : σ.1.2.1 ≤ 8 := h.g.2.1
    have hg : fgood σ.1.1 σ.1.2.1 := h.g
    have hm1 : M.1 2 1 = nI σ.1.2.1 := h.m1
    have hF : zCF σ.1.1 σ.1.2.1 M := h.F
    obtain ⟨g, hz⟩ : ∃ g, (σ.1.1, σ.1.2.1, g) ∈ zirrs := h.tb
    obtain ⟨-, hc⟩ := zirrs_ok _ hz
    dsimp only at hc
    have hb : zbas σ.1.2.1 (σ.1.2.2 s) := h.b hs
    have hr : zrow M (10 + s) σ.1.2.1 (σ.1.2.2 s) := h.s hs
    have hl := ztm_lt hz hb.2 (show i < σ.1.2.1 by omega) σ.1.2.1 (Nat.le_refl _)
    have hq := zq256 h8
    have hp : 2 ^ i ≤ 256 := zq256 (show i ≤ 8 by omega)
    obtain ⟨M9, g1, g2, g3⟩ := s_cputs h (by omega) (x := (nI (ztm σ.1.1 σ.1.2.1 (σ.1.2.2 s) i σ.1.2.1)).toInt64) rfl
    obtain ⟨M', k1, k2⟩ := c_X9_traces_21 hs f (i + 1) M9 (by omega) g2
    have hzo : zow σ.1.1 σ.1.2.1 (σ.1.2.2 s) (i + 1) = (zow σ.1.1 σ.1.2.1 (σ.1.2.2 s) i && Nat.beq (ztm σ.1.1 σ.1.2.1 (σ.1.2.2 s) i σ.1.2.1) (2 ^ i)) := rfl
    refine ⟨M', fun o4 => t_X9_traces_21 _ _ _ _ _ ⟨fun c => ?_, fun _ => ⟨zn_in (by omega) (by decide), rfl, zn_in (by omega) (by decide), rfl, by rw [zgd8 hs]; exact zar10 hs, zn_in (by omega) (by decide), nI (ztm σ.1.1 σ.1.2.1 (σ.1.2.2 s) i σ.1.2.1), ?_, M9, g1, fun q => ?_, fun q => ?_⟩⟩, k2⟩
    · rw [hm1, zn_le (by omega) (by omega)] at c
      omega
    · rw [zgd8 hs, zn_cl (by omega), hr i (by omega), ← ztm_cmb hg hc hb.2 (show i < σ.1.2.1 by omega) σ.1.2.1 (Nat.le_refl _)]
      exact s_X2_traceBits hF hb.2 (hb.2 i (by omega)) (zar10 hs) hr
    · rw [zone_shl (by omega), zn_eq (by omega) (by omega)] at q
      rw [hzo, q, Nat.beq_refl, Bool.and_true] at k1
      rw [nI_1]
      exact k1 _
    · rw [zone_shl (by omega), zn_eq (by omega) (by omega)] at q
      rw [hzo, show Nat.beq (ztm σ.1.1 σ.1.2.1 (σ.1.2.2 s) i σ.1.2.1) (2 ^ i) = false by cases z : Nat.beq (ztm σ.1.1 σ.1.2.1 (σ.1.2.2 s) i σ.1.2.1) (2 ^ i) with | false => rfl | true => exact absurd (Nat.eq_of_beq_eq_true z) q, Bool.and_false] at k1
      rw [nI_1]
      exact k1 _
theorem c_X9_traces (h : zC M0 σ M) (s : Int32) : zE M0 mq_X9_traces [.ref 0, .int s] M (k_traces σ s) := by
  have hq := h.q
  have h8 := h.g.2.1
  have h2 := h.g.1
  have hg := h.g
  by_cases g0 : zel 4 s = true
  · simp only [zE, k_traces, g0, if_true]
    obtain ⟨s, hs, rfl⟩ := zsln g0
    rw [zu_nI (by omega)]
    obtain ⟨M3, e1, e2, e3, -⟩ := s_cempties h (ztf σ.1.1 σ.1.2.1 (σ.1.2.2 s))
    obtain ⟨M', k1, k2⟩ := c_X9_traces_21 hs σ.1.2.1 0 M3 (Nat.zero_add _) e2
    exact ⟨M', t_X9_traces_0 _ _ ⟨1, zCs1 _ g0, fun _ => ⟨M3, e1, k1 none⟩, fun c => absurd z10 c⟩, k2⟩
  · simp only [zE, k_traces, g0]
    exact ⟨M, t_X9_traces_0 _ _ ⟨0, zCs0 _ g0, fun c => absurd rfl c, fun _ => rfl⟩, h⟩
theorem c_X9_tower (h : zC M0 σ M) (s x y : Int32) : zE M0 mq_X9_tower [.ref 0, .int s, .int x, .int y] M (k_tower σ s x y) := by
  have hq := h.q
  have h8 := h.g.2.1
  have h2 := h.g.1
  have hg := h.g
  by_cases g0 : zel 4 s = true
  · by_cases g1 : zpt σ.1.2.1 x = true
    · by_cases g2 : zel (2 ^ σ.1.2.1) y = true
      · simp only [zE, k_tower, g0, g1, g2, if_true]
        obtain ⟨s, hs, rfl⟩ := zsln g0
        obtain ⟨d, hd0, hdm, hd8, hd, rfl⟩ := h.ptn g1
        obtain ⟨a, ha, rfl⟩ := h.en g2
        rw [zu_nI (by omega), zu_nI (by omega), zu_nI (by omega)]
        obtain ⟨g, hc⟩ := h.F.c
        have hsl := zsub_len hg hc hd0 hdm hd
        obtain ⟨M7, e1, e2, e3⟩ := s_X2_fillsSubbase h.F hd8 zar76 (by decide)
        rw [hsl] at e3
        have h7 := h.k e2 (by decide)
        obtain ⟨M8, f1, f2, f3⟩ := s_X2_fillsTower (b := 75) h7.F ha hd0 hdm hsl zar75 zar76 (by decide) (by decide) e3
        have h8c := h7.k f2 (by decide)
        obtain ⟨M9, w1, w2, w3⟩ := s_X1_holds h8 zar75 (by decide) (fun j _ => z256 h8 (zto_lt hg hd0 hsl)) f3
        have h9 := h8c.k w2 (by decide)
        have w1 : mq_C mq_X1_holds [.ref 5, .ref 75, .int (M8.1 2 1)] M8 (some (.int (zB (ztok σ.1.1 σ.1.2.1 a d))), M9) := by rw [h8c.m1]; exact w1
        unfold k_tower1
        by_cases e : ztok σ.1.1 σ.1.2.1 a d = true
        · rw [if_pos e]
          rw [e] at w1
          obtain ⟨M', k1, k2, -⟩ := s_X9_setsSlot h9 hs ⟨ztok_iff.mp e, fun i _ => zto_lt hg hd0 hsl⟩ (f3.k w2 (by decide))
          exact ⟨M', t_X9_tower_0 _ _ _ _ ⟨1, zCs1 _ g0, fun c => absurd c z10, fun _ => ⟨1, h.pt1 g1, fun c => absurd c z10, fun _ => ⟨1, h.el1 g2, fun _ => ⟨M7, e1, M8, f1, 1, M9, w1, fun c => absurd c z10, fun _ => ⟨_, M', k1, rfl⟩⟩, fun c => absurd z10 c⟩⟩⟩, k2⟩
        · rw [if_neg e]
          rw [show ztok σ.1.1 σ.1.2.1 a d = false by simpa using e] at w1
          exact ⟨M9, t_X9_tower_0 _ _ _ _ ⟨1, zCs1 _ g0, fun c => absurd c z10, fun _ => ⟨1, h.pt1 g1, fun c => absurd c z10, fun _ => ⟨1, h.el1 g2, fun _ => ⟨M7, e1, M8, f1, 0, M9, w1, fun _ => rfl, fun c => absurd rfl c⟩, fun c => absurd z10 c⟩⟩⟩, h9⟩
      · simp only [zE, k_tower, g0, g1, g2, if_true]
        exact ⟨M, t_X9_tower_0 _ _ _ _ ⟨1, zCs1 _ g0, fun c => absurd c z10, fun _ => ⟨1, h.pt1 g1, fun c => absurd c z10, fun _ => ⟨0, h.el0 g2, fun c => absurd rfl c, fun _ => rfl⟩⟩⟩, h⟩
    · simp only [zE, k_tower, g0, g1, if_true]
      exact ⟨M, t_X9_tower_0 _ _ _ _ ⟨1, zCs1 _ g0, fun c => absurd c z10, fun _ => ⟨0, h.pt0 g1, fun _ => rfl, fun c => absurd rfl c⟩⟩, h⟩
  · simp only [zE, k_tower, g0]
    exact ⟨M, t_X9_tower_0 _ _ _ _ ⟨0, zCs0 _ g0, fun _ => rfl, fun c => absurd rfl c⟩, h⟩
end CC3
