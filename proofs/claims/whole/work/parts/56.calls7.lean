/-! calls of the reference: bases -/
section ZC7
variable {M0 M M' : mz_M} {σ : zSg}
def k_at (σ : zSg) (s i : Int32) : Int32 × zSg := if zel 4 s = true then (if zel σ.1.2.1 i = true then ((nI (σ.1.2.2 (zu s) (zu i)), σ)) else (-1, σ)) else (-1, σ)
theorem c_X10_at (h : zP M0 σ M) (s i : Int32) : zA M0 mq_X10_at [.ref 77, .int s, .int i] M (k_at σ s i) := by
  obtain ⟨M1, eM, h1, -⟩ := h.thr
  have hq := h.q
  have h8 := h.g.2.1
  have h2 := h.g.1
  have hg := h.g
  by_cases g0 : zel 4 s = true
  · by_cases g1 : zel σ.1.2.1 i = true
    · simp only [zA, k_at, g0, g1, if_true]
      obtain ⟨s, hs, rfl⟩ := zsln g0
      obtain ⟨i, hi, hi8, rfl⟩ := h1.pn g1
      rw [zu_nI (by omega), zu_nI (by omega)]
      have k1 := s_X10_baseAt M1 hs hi8
      rw [h1.s hs i hi] at k1
      have k2 := h1
      obtain ⟨M', eM'⟩ : ∃ M', M' = M1 := ⟨_, rfl⟩
      rw [← eM'] at k2
      subst eM'
      refine ⟨M', t_X10_at_0 _ _ _ (fun M2 e2 => ?_), k2⟩
      obtain rfl := e2.trans eM
      exact ⟨1, zsl1 _ g0, fun c => absurd c z10, fun _ => ⟨1, h1.pl1 g1, fun c => absurd c z10, fun _ => ⟨_, k1, rfl⟩⟩⟩
    · simp only [zA, k_at, g0, g1, if_true]
      refine ⟨M1, t_X10_at_0 _ _ _ (fun M2 e2 => ?_), h1⟩
      obtain rfl := e2.trans eM
      exact ⟨1, zsl1 _ g0, fun c => absurd c z10, fun _ => ⟨0, h1.pl0 g1, fun _ => rfl, fun c => absurd rfl c⟩⟩
  · simp only [zA, k_at, g0, if_true]
    refine ⟨M1, t_X10_at_0 _ _ _ (fun M2 e2 => ?_), h1⟩
    obtain rfl := e2.trans eM
    exact ⟨0, zsl0 _ g0, fun _ => rfl, fun c => absurd rfl c⟩
noncomputable def k_coordinates (σ : zSg) (s x : Int32) : Int32 × zSg := if zel 4 s = true then (if zel (2 ^ σ.1.2.1) x = true then ((nI (crd (σ.1.2.2 (zu s)) σ.1.2.1 (zu x)), zrw σ (zr1 (nI (zpop 10 (crd (σ.1.2.2 (zu s)) σ.1.2.1 (zu x))))))) else (-1, σ)) else (-1, σ)
theorem c_X10_coordinates (h : zP M0 σ M) (s x : Int32) : zA M0 mq_X10_coordinates [.ref 77, .int s, .int x] M (k_coordinates σ s x) := by
  obtain ⟨M1, eM, h1, -⟩ := h.thr
  have hq := h.q
  have h8 := h.g.2.1
  have h2 := h.g.1
  have hg := h.g
  by_cases g0 : zel 4 s = true
  · by_cases g1 : zel (2 ^ σ.1.2.1) x = true
    · simp only [zA, k_coordinates, g0, g1, if_true]
      obtain ⟨s, hs, rfl⟩ := zsln g0
      rw [zu_nI (by omega)]
      obtain ⟨M6, l1, l2, l3⟩ := s_X10_looksAt (h1.b hs) hs h1.F (h1.s hs)
      have h6 := h1.k l2 (by decide)
      have hb := h1.b hs
      obtain ⟨a, ha, rfl⟩ := h1.en g1
      rw [zu_nI (by omega)]
      have hc := crd_lt (v := σ.1.2.2 s) (m := σ.1.2.1) (e := a)
      obtain ⟨M7, M', e7, k1, k2, k3, k4⟩ := s_tell1 h6 (nI (zpop 10 (crd (σ.1.2.2 s) σ.1.2.1 a)))
      have e88 : M6.1 88 a = nI (crd (σ.1.2.2 s) σ.1.2.1 a) := l3.2.2 a ha
      refine ⟨M', t_X10_coordinates_0 _ _ _ (fun M2 e2 => ?_), k2⟩
      obtain rfl := e2.trans eM
      refine ⟨1, zsl1 _ g0, fun c => absurd c z10, fun _ => ⟨1, h1.el1 g1, fun _ => ⟨M6, l1, fun M9 e9 => ?_⟩, fun c => absurd z10 c⟩⟩
      obtain rfl := e9.trans e7
      have e7' : M9.1 88 = M6.1 88 := by rw [← e7]; exact zwr_n (by decide)
      refine ⟨zn_in (by omega) (by decide), nI (zpop 10 (crd (σ.1.2.2 s) σ.1.2.1 a)), ?_, M', k1, zn_in (by omega) (by decide), ?_⟩
      · rw [zn_cl (by omega), e7', e88]
        exact s_X10_bits _ (by omega)
      · rw [zn_cl (by omega), k4 88 (by decide), e88]
    · simp only [zA, k_coordinates, g0, g1, if_true]
      refine ⟨M1, t_X10_coordinates_0 _ _ _ (fun M2 e2 => ?_), h1⟩
      obtain rfl := e2.trans eM
      exact ⟨1, zsl1 _ g0, fun c => absurd c z10, fun _ => ⟨0, h1.el0 g1, fun c => absurd rfl c, fun _ => rfl⟩⟩
  · simp only [zA, k_coordinates, g0, if_true]
    refine ⟨M1, t_X10_coordinates_0 _ _ _ (fun M2 e2 => ?_), h1⟩
    obtain rfl := e2.trans eM
    exact ⟨0, zsl0 _ g0, fun _ => rfl, fun c => absurd rfl c⟩
def k_made (σ : zSg) (s x : Int32) : Int32 × zSg := if zel 4 s = true then (if zel (2 ^ σ.1.2.1) x = true then ((nI (zcb (σ.1.2.2 (zu s)) σ.1.2.1 (zu x)), σ)) else (-1, σ)) else (-1, σ)
theorem c_X10_made (h : zP M0 σ M) (s x : Int32) : zA M0 mq_X10_made [.ref 77, .int s, .int x] M (k_made σ s x) := by
  obtain ⟨M1, eM, h1, -⟩ := h.thr
  have hq := h.q
  have h8 := h.g.2.1
  have h2 := h.g.1
  have hg := h.g
  by_cases g0 : zel 4 s = true
  · by_cases g1 : zel (2 ^ σ.1.2.1) x = true
    · simp only [zA, k_made, g0, g1, if_true]
      obtain ⟨s, hs, rfl⟩ := zsln g0
      rw [zu_nI (by omega)]
      obtain ⟨M6, l1, l2, l3⟩ := s_X10_looksAt (h1.b hs) hs h1.F (h1.s hs)
      have h6 := h1.k l2 (by decide)
      have hb := h1.b hs
      obtain ⟨a, ha, rfl⟩ := h1.en g1
      rw [zu_nI (by omega)]
      have k1 := s_X10_madeOf h6.F l3.2.1 ha
      obtain ⟨M', eM', k2⟩ : ∃ M', M' = M6 ∧ zP M0 σ M' := ⟨_, rfl, h6⟩
      subst eM'
      refine ⟨M', t_X10_made_0 _ _ _ (fun M2 e2 => ?_), k2⟩
      obtain rfl := e2.trans eM
      exact ⟨1, zsl1 _ g0, fun c => absurd c z10, fun _ => ⟨1, h1.el1 g1, fun _ => ⟨M', l1, _, k1, rfl⟩, fun c => absurd z10 c⟩⟩
    · simp only [zA, k_made, g0, g1, if_true]
      refine ⟨M1, t_X10_made_0 _ _ _ (fun M2 e2 => ?_), h1⟩
      obtain rfl := e2.trans eM
      exact ⟨1, zsl1 _ g0, fun c => absurd c z10, fun _ => ⟨0, h1.el0 g1, fun c => absurd rfl c, fun _ => rfl⟩⟩
  · simp only [zA, k_made, g0, if_true]
    refine ⟨M1, t_X10_made_0 _ _ _ (fun M2 e2 => ?_), h1⟩
    obtain rfl := e2.trans eM
    exact ⟨0, zsl0 _ g0, fun _ => rfl, fun c => absurd rfl c⟩
noncomputable def k_table (σ : zSg) (s i j : Int32) : Int32 × zSg := if zel 4 s = true then (if zel σ.1.2.1 i = true then (if zel σ.1.2.1 j = true then ((nI (crd (σ.1.2.2 (zu s)) σ.1.2.1 (fm σ.1.1 σ.1.2.1 (σ.1.2.2 (zu s) (zu i)) (σ.1.2.2 (zu s) (zu j)))), σ)) else (-1, σ)) else (-1, σ)) else (-1, σ)
theorem c_X10_table (h : zP M0 σ M) (s i j : Int32) : zA M0 mq_X10_table [.ref 77, .int s, .int i, .int j] M (k_table σ s i j) := by
  obtain ⟨M1, eM, h1, -⟩ := h.thr
  have hq := h.q
  have h8 := h.g.2.1
  have h2 := h.g.1
  have hg := h.g
  by_cases g0 : zel 4 s = true
  · by_cases g1 : zel σ.1.2.1 i = true
    · by_cases g2 : zel σ.1.2.1 j = true
      · simp only [zA, k_table, g0, g1, g2, if_true]
        obtain ⟨s, hs, rfl⟩ := zsln g0
        rw [zu_nI (by omega)]
        obtain ⟨M6, l1, l2, l3⟩ := s_X10_looksAt (h1.b hs) hs h1.F (h1.s hs)
        have h6 := h1.k l2 (by decide)
        have hb := h1.b hs
        obtain ⟨i, hi, hi8, rfl⟩ := h1.pn g1
        obtain ⟨j, hj, hj8, rfl⟩ := h1.pn g2
        rw [zu_nI (by omega), zu_nI (by omega)]
        have hl := fm_lt hg (b := σ.1.2.2 s j) (hb.2 i hi)
        have k1 := s_X10_times M6 hg h6.F.2.1 (hb.2 i hi) (hb.2 j hj)
        have e88 := l3.2.2 _ hl
        obtain ⟨M', eM', k2⟩ : ∃ M', M' = M6 ∧ zP M0 σ M' := ⟨_, rfl, h6⟩
        subst eM'
        refine ⟨M', t_X10_table_0 _ _ _ _ (fun M2 e2 => ?_), k2⟩
        obtain rfl := e2.trans eM
        refine ⟨1, zsl1 _ g0, fun c => absurd c z10, fun _ => ⟨1, h1.pl1 g1, fun c => absurd c z10, fun _ => ⟨1, h1.pl1 g2, fun _ => ⟨M', l1, zn_in (by omega) (by decide), zn_in (by omega) (by decide), nI (fm σ.1.1 σ.1.2.1 (σ.1.2.2 s i) (σ.1.2.2 s j)), ?_, zn_in (by omega) (by decide), ?_⟩, fun c => absurd z10 c⟩⟩⟩
        · rw [zn_cl (by omega), zn_cl (by omega), l3.2.1 i hi, l3.2.1 j hj]
          exact k1
        · rw [zn_cl (by omega), e88]
      · simp only [zA, k_table, g0, g1, g2, if_true]
        refine ⟨M1, t_X10_table_0 _ _ _ _ (fun M2 e2 => ?_), h1⟩
        obtain rfl := e2.trans eM
        exact ⟨1, zsl1 _ g0, fun c => absurd c z10, fun _ => ⟨1, h1.pl1 g1, fun c => absurd c z10, fun _ => ⟨0, h1.pl0 g2, fun c => absurd rfl c, fun _ => rfl⟩⟩⟩
    · simp only [zA, k_table, g0, g1, if_true]
      refine ⟨M1, t_X10_table_0 _ _ _ _ (fun M2 e2 => ?_), h1⟩
      obtain rfl := e2.trans eM
      exact ⟨1, zsl1 _ g0, fun c => absurd c z10, fun _ => ⟨0, h1.pl0 g1, fun _ => rfl, fun c => absurd rfl c⟩⟩
  · simp only [zA, k_table, g0, if_true]
    refine ⟨M1, t_X10_table_0 _ _ _ _ (fun M2 e2 => ?_), h1⟩
    obtain rfl := e2.trans eM
    exact ⟨0, zsl0 _ g0, fun _ => rfl, fun c => absurd rfl c⟩
noncomputable def k_productIn (σ : zSg) (s x y : Int32) : Int32 × zSg := if zel 4 s = true then (if zel (2 ^ σ.1.2.1) x = true then (if zel (2 ^ σ.1.2.1) y = true then ((nI (crd (σ.1.2.2 (zu s)) σ.1.2.1 (fm σ.1.1 σ.1.2.1 (zcb (σ.1.2.2 (zu s)) σ.1.2.1 (zu x)) (zcb (σ.1.2.2 (zu s)) σ.1.2.1 (zu y)))), σ)) else (-1, σ)) else (-1, σ)) else (-1, σ)
theorem c_X10_productIn (h : zP M0 σ M) (s x y : Int32) : zA M0 mq_X10_productIn [.ref 77, .int s, .int x, .int y] M (k_productIn σ s x y) := by
  obtain ⟨M1, eM, h1, -⟩ := h.thr
  have hq := h.q
  have h8 := h.g.2.1
  have h2 := h.g.1
  have hg := h.g
  by_cases g0 : zel 4 s = true
  · by_cases g1 : zel (2 ^ σ.1.2.1) x = true
    · by_cases g2 : zel (2 ^ σ.1.2.1) y = true
      · simp only [zA, k_productIn, g0, g1, g2, if_true]
        obtain ⟨s, hs, rfl⟩ := zsln g0
        rw [zu_nI (by omega)]
        obtain ⟨M6, l1, l2, l3⟩ := s_X10_looksAt (h1.b hs) hs h1.F (h1.s hs)
        have h6 := h1.k l2 (by decide)
        have hb := h1.b hs
        obtain ⟨a, ha, rfl⟩ := h1.en g1
        obtain ⟨b, hb2, rfl⟩ := h1.en g2
        rw [zu_nI (by omega), zu_nI (by omega)]
        have q1 := s_X10_madeOf h6.F l3.2.1 ha
        have q2 := s_X10_madeOf h6.F l3.2.1 hb2
        have la := zcb_lt hb.2 a
        have lb := zcb_lt hb.2 b
        have hl := fm_lt hg (b := zcb (σ.1.2.2 s) σ.1.2.1 b) la
        have k1 := s_X10_times M6 hg h6.F.2.1 la lb
        have e88 := l3.2.2 _ hl
        obtain ⟨M', eM', k2⟩ : ∃ M', M' = M6 ∧ zP M0 σ M' := ⟨_, rfl, h6⟩
        subst eM'
        refine ⟨M', t_X10_productIn_0 _ _ _ _ (fun M2 e2 => ?_), k2⟩
        obtain rfl := e2.trans eM
        refine ⟨1, zsl1 _ g0, fun c => absurd c z10, fun _ => ⟨1, h1.el1 g1, fun c => absurd c z10, fun _ => ⟨1, h1.el1 g2, fun _ => ⟨M', l1, _, q1, _, q2, _, k1, zn_in (by omega) (by decide), ?_⟩, fun c => absurd z10 c⟩⟩⟩
        rw [zn_cl (by omega), e88]
      · simp only [zA, k_productIn, g0, g1, g2, if_true]
        refine ⟨M1, t_X10_productIn_0 _ _ _ _ (fun M2 e2 => ?_), h1⟩
        obtain rfl := e2.trans eM
        exact ⟨1, zsl1 _ g0, fun c => absurd c z10, fun _ => ⟨1, h1.el1 g1, fun c => absurd c z10, fun _ => ⟨0, h1.el0 g2, fun c => absurd rfl c, fun _ => rfl⟩⟩⟩
    · simp only [zA, k_productIn, g0, g1, if_true]
      refine ⟨M1, t_X10_productIn_0 _ _ _ _ (fun M2 e2 => ?_), h1⟩
      obtain rfl := e2.trans eM
      exact ⟨1, zsl1 _ g0, fun c => absurd c z10, fun _ => ⟨0, h1.el0 g1, fun _ => rfl, fun c => absurd rfl c⟩⟩
  · simp only [zA, k_productIn, g0, if_true]
    refine ⟨M1, t_X10_productIn_0 _ _ _ _ (fun M2 e2 => ?_), h1⟩
    obtain rfl := e2.trans eM
    exact ⟨0, zsl0 _ g0, fun _ => rfl, fun c => absurd rfl c⟩
noncomputable def k_far (σ : zSg) (s x y : Int32) : Int32 × zSg := if zel 4 s = true then (if zel (2 ^ σ.1.2.1) x = true then (if zel (2 ^ σ.1.2.1) y = true then ((nI (zpop 10 (crd (σ.1.2.2 (zu s)) σ.1.2.1 (zu x) ^^^ crd (σ.1.2.2 (zu s)) σ.1.2.1 (zu y))), zrw σ (zr2 (nI (crd (σ.1.2.2 (zu s)) σ.1.2.1 (zu x) ^^^ crd (σ.1.2.2 (zu s)) σ.1.2.1 (zu y))) (nI (crd (σ.1.2.2 (zu s)) σ.1.2.1 (zu x) &&& crd (σ.1.2.2 (zu s)) σ.1.2.1 (zu y)))))) else (-1, σ)) else (-1, σ)) else (-1, σ)
theorem c_X10_far (h : zP M0 σ M) (s x y : Int32) : zA M0 mq_X10_far [.ref 77, .int s, .int x, .int y] M (k_far σ s x y) := by
  obtain ⟨M1, eM, h1, -⟩ := h.thr
  have hq := h.q
  have h8 := h.g.2.1
  have h2 := h.g.1
  have hg := h.g
  by_cases g0 : zel 4 s = true
  · by_cases g1 : zel (2 ^ σ.1.2.1) x = true
    · by_cases g2 : zel (2 ^ σ.1.2.1) y = true
      · simp only [zA, k_far, g0, g1, g2, if_true]
        obtain ⟨s, hs, rfl⟩ := zsln g0
        rw [zu_nI (by omega)]
        obtain ⟨M6, l1, l2, l3⟩ := s_X10_looksAt (h1.b hs) hs h1.F (h1.s hs)
        have h6 := h1.k l2 (by decide)
        have hb := h1.b hs
        obtain ⟨a, ha, rfl⟩ := h1.en g1
        obtain ⟨b, hb2, rfl⟩ := h1.en g2
        rw [zu_nI (by omega), zu_nI (by omega)]
        have ca := crd_lt (v := σ.1.2.2 s) (m := σ.1.2.1) (e := a)
        have cb := crd_lt (v := σ.1.2.2 s) (m := σ.1.2.1) (e := b)
        have ea : M6.1 88 a = nI (crd (σ.1.2.2 s) σ.1.2.1 a) := l3.2.2 a ha
        have eb : M6.1 88 b = nI (crd (σ.1.2.2 s) σ.1.2.1 b) := l3.2.2 b hb2
        have hx := Nat.xor_lt_two_pow ca cb
        have t1 := h6.row0 (zr2 (nI (crd (σ.1.2.2 s) σ.1.2.1 a ^^^ crd (σ.1.2.2 s) σ.1.2.1 b)) (nI (crd (σ.1.2.2 s) σ.1.2.1 a &&& crd (σ.1.2.2 s) σ.1.2.1 b))).2
        obtain ⟨M8, p1, p2, p3⟩ := s_X10_tell t1 (by decide) (x := (nI (crd (σ.1.2.2 s) σ.1.2.1 a ^^^ crd (σ.1.2.2 s) σ.1.2.1 b)).toInt64) rfl
        obtain ⟨M', r1, k2, r3⟩ := s_X10_tell p2 (by decide) (x := (nI (crd (σ.1.2.2 s) σ.1.2.1 a &&& crd (σ.1.2.2 s) σ.1.2.1 b)).toInt64) rfl
        have z7 : (mz_wr M6 77 (upd (M6.1 77) 9 0)).1 88 = M6.1 88 := zwr_n (by decide)
        have z8 : M8.1 88 = M6.1 88 := (p3 88 (by decide)).trans z7
        have z9 : M'.1 88 = M6.1 88 := (r3 88 (by decide)).trans z8
        refine ⟨M', t_X10_far_0 _ _ _ _ (fun M2 e2 => ?_), k2⟩
        obtain rfl := e2.trans eM
        refine ⟨1, zsl1 _ g0, fun c => absurd c z10, fun _ => ⟨1, h1.el1 g1, fun c => absurd c z10, fun _ => ⟨1, h1.el1 g2, fun _ => ⟨M6, l1, fun M9 e9 => ?_⟩, fun c => absurd z10 c⟩⟩⟩
        subst e9
        refine ⟨zn_in (by omega) (by decide), zn_in (by omega) (by decide), M8, ?_, zn_in (by omega) (by decide), zn_in (by omega) (by decide), M', ?_, zn_in (by omega) (by decide), zn_in (by omega) (by decide), _, ?_, rfl⟩
        · rw [zn_cl (by omega), zn_cl (by omega), z7, ea, eb, zn_xor]
          exact p1
        · rw [zn_cl (by omega), zn_cl (by omega), z8, ea, eb, zn_and]
          exact r1
        · rw [zn_cl (by omega), zn_cl (by omega), z9, ea, eb, zn_xor]
          exact s_X10_bits _ (by omega)
      · simp only [zA, k_far, g0, g1, g2, if_true]
        refine ⟨M1, t_X10_far_0 _ _ _ _ (fun M2 e2 => ?_), h1⟩
        obtain rfl := e2.trans eM
        exact ⟨1, zsl1 _ g0, fun c => absurd c z10, fun _ => ⟨1, h1.el1 g1, fun c => absurd c z10, fun _ => ⟨0, h1.el0 g2, fun c => absurd rfl c, fun _ => rfl⟩⟩⟩
    · simp only [zA, k_far, g0, g1, if_true]
      refine ⟨M1, t_X10_far_0 _ _ _ _ (fun M2 e2 => ?_), h1⟩
      obtain rfl := e2.trans eM
      exact ⟨1, zsl1 _ g0, fun c => absurd c z10, fun _ => ⟨0, h1.el0 g1, fun _ => rfl, fun c => absurd rfl c⟩⟩
  · simp only [zA, k_far, g0, if_true]
    refine ⟨M1, t_X10_far_0 _ _ _ _ (fun M2 e2 => ?_), h1⟩
    obtain rfl := e2.trans eM
    exact ⟨0, zsl0 _ g0, fun _ => rfl, fun c => absurd rfl c⟩
/-- COORDINATES told one by one -/
noncomputable def zcf (v w : Nat → Nat) (m k : Nat) : Int64 := (nI (crd v m (w k))).toInt64
noncomputable def zcp (v w : Nat → Nat) (m k : Nat) : Nat := zpop 10 (crd v m (w k))
theorem c_X10_change_36 {s : Nat} {v : Nat → Nat} (hs : s < 4) : ∀ (f i : Nat) (o : Option Value) (M : mz_M), i + f = σ.1.2.1 → zP M0 (zrw σ (i, zcf v (σ.1.2.2 s) σ.1.2.1)) M → zlk σ.1.2.1 v M → ∃ M', mq_G mq_X10_change (36, [some (.ref 77), some (.int (nI s)), o, some (.int (nI (zs (zcp v (σ.1.2.2 s) σ.1.2.1) i))), some (.int (nI i))], [], M) (some (.int (nI (zs (zcp v (σ.1.2.2 s) σ.1.2.1) σ.1.2.1))), M') ∧ zP M0 (zrw σ (σ.1.2.1, zcf v (σ.1.2.2 s) σ.1.2.1)) M'
  | 0, i, o, M, hi, h, hL => by
    have h8 : σ.1.2.1 ≤ 8 := h.g.2.1
    obtain rfl : i = σ.1.2.1 := by omega
    refine ⟨M, t_X10_change_36 _ _ _ _ _ ⟨fun _ => rfl, fun c => absurd ?_ c⟩, h⟩
    rw [show M.1 77 11 = nI σ.1.2.1 from h.F.2.2.1]
    exact Int32.le_refl _
  | f + 1, i, o, M, hi, h, hL => by
    have h8 : σ.1.2.1 ≤ 8 := h.g.2.1
    have hb : zbas σ.1.2.1 (σ.1.2.2 s) := h.b hs
    have ht := s_X10_baseAt M hs (show i < 8 by omega)
    rw [show M.1 78 (1 + 8 * s + i) = nI (σ.1.2.2 s i) from h.s hs i (by show i < σ.1.2.1; omega)] at ht
    obtain ⟨M3, g1, g2, g3⟩ := s_X10_tellsCoordinates (e := σ.1.2.2 s i) h (by omega) h8 hL (hb.2 i (by omega)) rfl
    have hL3 : zlk σ.1.2.1 v M3 := ⟨hL.1, fun j hj => by rw [g3 87 (by decide)]; exact hL.2.1 j hj, fun j hj => by rw [g3 88 (by decide)]; exact hL.2.2 j hj⟩
    obtain ⟨M', k1, k2⟩ := c_X10_change_36 hs f (i + 1) (mz_nw o) M3 (by omega) g2 hL3
    refine ⟨M', t_X10_change_36 _ _ _ _ _ ⟨fun c => ?_, fun _ => ⟨_, ht, _, M3, g1, ?_⟩⟩, k2⟩
    · rw [show M.1 77 11 = nI σ.1.2.1 from h.F.2.2.1, zn_le (by omega) (by omega)] at c
      omega
    · rw [nI_add, nI_1]
      exact k1
noncomputable def k_change (σ : zSg) (s t : Int32) : Int32 × zSg := if zel 4 s = true then (if zel 4 t = true then ((nI (zs (zcp (σ.1.2.2 (zu t)) (σ.1.2.2 (zu s)) σ.1.2.1) σ.1.2.1), zrw σ (σ.1.2.1, zcf (σ.1.2.2 (zu t)) (σ.1.2.2 (zu s)) σ.1.2.1))) else (-1, σ)) else (-1, σ)
theorem c_X10_change (h : zP M0 σ M) (s t : Int32) : zA M0 mq_X10_change [.ref 77, .int s, .int t] M (k_change σ s t) := by
  obtain ⟨M1, eM, h1, -⟩ := h.thr
  have hq := h.q
  have h8 := h.g.2.1
  have h2 := h.g.1
  have hg := h.g
  by_cases g0 : zel 4 s = true
  · by_cases g1 : zel 4 t = true
    · simp only [zA, k_change, g0, g1, if_true]
      obtain ⟨s, hs, rfl⟩ := zsln g0
      obtain ⟨t, ht, rfl⟩ := zsln g1
      rw [zu_nI (by omega), zu_nI (by omega)]
      obtain ⟨M6, l1, l2, l3⟩ := s_X10_looksAt (h1.b ht) ht h1.F (h1.s ht)
      have h6 := h1.k l2 (by decide)
      obtain ⟨M', k1, k2⟩ := c_X10_change_36 (σ := σ) (M0 := M0) hs σ.1.2.1 0 (some (.int (nI t))) _ (by omega) (h6.row0 (zcf (σ.1.2.2 t) (σ.1.2.2 s) σ.1.2.1)) ⟨l3.1, fun j hj => by rw [zwr_n (by decide)]; exact l3.2.1 j hj, fun j hj => by rw [zwr_n (by decide)]; exact l3.2.2 j hj⟩
      refine ⟨M', t_X10_change_0 _ _ _ (fun M2 e2 => ?_), k2⟩
      obtain rfl := e2.trans eM
      exact ⟨1, zsl1 _ g0, fun c => absurd c z10, fun _ => ⟨1, zsl1 _ g1, fun _ => ⟨M6, l1, fun M7 e7 => by rw [e7]; exact k1⟩, fun c => absurd z10 c⟩⟩
    · simp only [zA, k_change, g0, g1, if_true]
      refine ⟨M1, t_X10_change_0 _ _ _ (fun M2 e2 => ?_), h1⟩
      obtain rfl := e2.trans eM
      exact ⟨1, zsl1 _ g0, fun c => absurd c z10, fun _ => ⟨0, zsl0 _ g1, fun c => absurd rfl c, fun _ => rfl⟩⟩
  · simp only [zA, k_change, g0, if_true]
    refine ⟨M1, t_X10_change_0 _ _ _ (fun M2 e2 => ?_), h1⟩
    obtain rfl := e2.trans eM
    exact ⟨0, zsl0 _ g0, fun _ => rfl, fun c => absurd rfl c⟩
theorem c_X10_squares_28 {v : Nat → Nat} : ∀ (f i : Nat) (o : Option Value) (M : mz_M), i + f = σ.1.2.1 → zP M0 (zrw σ (i, zcf v (fun k => fm σ.1.1 σ.1.2.1 (v k) (v k)) σ.1.2.1)) M → zlk σ.1.2.1 v M → ∃ M', mq_G mq_X10_squares (28, [some (.ref 77), o, some (.int (nI (zs (zcp v (fun k => fm σ.1.1 σ.1.2.1 (v k) (v k)) σ.1.2.1) i))), some (.int (nI i))], [], M) (some (.int (nI (zs (zcp v (fun k => fm σ.1.1 σ.1.2.1 (v k) (v k)) σ.1.2.1) σ.1.2.1))), M') ∧ zP M0 (zrw σ (σ.1.2.1, zcf v (fun k => fm σ.1.1 σ.1.2.1 (v k) (v k)) σ.1.2.1)) M'
  | 0, i, o, M, hi, h, hL => by
    have h8 : σ.1.2.1 ≤ 8 := h.g.2.1
    obtain rfl : i = σ.1.2.1 := by omega
    refine ⟨M, t_X10_squares_28 _ _ _ _ ⟨fun _ => rfl, fun c => absurd ?_ c⟩, h⟩
    rw [show M.1 77 11 = nI σ.1.2.1 from h.F.2.2.1]
    exact Int32.le_refl _
  | f + 1, i, o, M, hi, h, hL => by
    have h8 : σ.1.2.1 ≤ 8 := h.g.2.1
    have hg : fgood σ.1.1 σ.1.2.1 := h.g
    have hF : zF σ.1.1 σ.1.2.1 M := h.F
    have hl := hL.1.2 i (by omega)
    have ht := s_X10_times M hg hF.2.1 hl hl
    obtain ⟨M3, g1, g2, g3⟩ := s_X10_tellsCoordinates (e := fm σ.1.1 σ.1.2.1 (v i) (v i)) h (by omega) h8 hL (fm_lt hg hl) rfl
    have hL3 : zlk σ.1.2.1 v M3 := ⟨hL.1, fun j hj => by rw [g3 87 (by decide)]; exact hL.2.1 j hj, fun j hj => by rw [g3 88 (by decide)]; exact hL.2.2 j hj⟩
    obtain ⟨M', k1, k2⟩ := c_X10_squares_28 f (i + 1) (mz_nw o) M3 (by omega) g2 hL3
    refine ⟨M', t_X10_squares_28 _ _ _ _ ⟨fun c => ?_, fun _ => ⟨zn_in (by omega) (by decide), zn_in (by omega) (by decide), nI (fm σ.1.1 σ.1.2.1 (v i) (v i)), ?_, _, M3, g1, ?_⟩⟩, k2⟩
    · rw [hF.2.2.1, zn_le (by omega) (by omega)] at c
      omega
    · rw [zn_cl (by omega), hL.2.1 i (by omega)]
      exact ht
    · rw [nI_add, nI_1]
      exact k1
noncomputable def k_squares (σ : zSg) (s : Int32) : Int32 × zSg := if zel 4 s = true then ((nI (zs (zcp (σ.1.2.2 (zu s)) (fun k => fm σ.1.1 σ.1.2.1 ((σ.1.2.2 (zu s)) k) ((σ.1.2.2 (zu s)) k)) σ.1.2.1) σ.1.2.1), zrw σ (σ.1.2.1, zcf (σ.1.2.2 (zu s)) (fun k => fm σ.1.1 σ.1.2.1 ((σ.1.2.2 (zu s)) k) ((σ.1.2.2 (zu s)) k)) σ.1.2.1))) else (-1, σ)
theorem c_X10_squares (h : zP M0 σ M) (s : Int32) : zA M0 mq_X10_squares [.ref 77, .int s] M (k_squares σ s) := by
  obtain ⟨M1, eM, h1, -⟩ := h.thr
  have hq := h.q
  have h8 := h.g.2.1
  have h2 := h.g.1
  have hg := h.g
  by_cases g0 : zel 4 s = true
  · simp only [zA, k_squares, g0, if_true]
    obtain ⟨s, hs, rfl⟩ := zsln g0
    rw [zu_nI (by omega)]
    obtain ⟨M6, l1, l2, l3⟩ := s_X10_looksAt (h1.b hs) hs h1.F (h1.s hs)
    have h6 := h1.k l2 (by decide)
    have hb := h1.b hs
    obtain ⟨M', k1, k2⟩ := c_X10_squares_28 (σ := σ) (M0 := M0) (v := σ.1.2.2 s) σ.1.2.1 0 (some (.int (nI s))) _ (by omega) (h6.row0 _) ⟨l3.1, fun j hj => by rw [zwr_n (by decide)]; exact l3.2.1 j hj, fun j hj => by rw [zwr_n (by decide)]; exact l3.2.2 j hj⟩
    refine ⟨M', t_X10_squares_0 _ _ (fun M2 e2 => ?_), k2⟩
    obtain rfl := e2.trans eM
    exact ⟨1, zsl1 _ g0, fun _ => ⟨M6, l1, fun M7 e7 => by rw [e7]; exact k1⟩, fun c => absurd z10 c⟩
  · simp only [zA, k_squares, g0, if_true]
    refine ⟨M1, t_X10_squares_0 _ _ (fun M2 e2 => ?_), h1⟩
    obtain rfl := e2.trans eM
    exact ⟨0, zsl0 _ g0, fun c => absurd rfl c, fun _ => rfl⟩
/-- by: what is told -/
noncomputable def zbo (P m : Nat) (v : Nat → Nat) (a i : Nat) : Nat := crd v m (fm P m a (v i)) / 2 ^ i % 2
noncomputable def zbf (P m : Nat) (v : Nat → Nat) (a k : Nat) : Int64 := if k = m then (nI (zs (zbo P m v a) m)).toInt64 else zcf v (fun k => fm P m a (v k)) m k
theorem c_X10_by_40 {v : Nat → Nat} {a : Nat} (ha : a < 2 ^ σ.1.2.1) (o1 : Option Value) : ∀ (f i : Nat) (o : Option Value) (M : mz_M), i + f = σ.1.2.1 → zP M0 (zrw σ (i, zbf σ.1.1 σ.1.2.1 v a)) M → zlk σ.1.2.1 v M → ∃ M', mq_G mq_X10_by (40, [some (.ref 77), o1, some (.int (nI a)), some (.int (nI (zs (zcp v (fun k => fm σ.1.1 σ.1.2.1 a (v k)) σ.1.2.1) i))), some (.int (nI (zs (zbo σ.1.1 σ.1.2.1 v a) i))), some (.int (nI i)), o], [], M) (some (.int (nI (zs (zcp v (fun k => fm σ.1.1 σ.1.2.1 a (v k)) σ.1.2.1) σ.1.2.1))), M') ∧ zP M0 (zrw σ (σ.1.2.1 + 1, zbf σ.1.1 σ.1.2.1 v a)) M'
  | 0, i, o, M, hi, h, hL => by
    have h8 : σ.1.2.1 ≤ 8 := h.g.2.1
    obtain rfl : i = σ.1.2.1 := by omega
    obtain ⟨M', g1, g2, -⟩ := s_X10_tell h (by omega) (x := (nI (zs (zbo σ.1.1 σ.1.2.1 v a) σ.1.2.1)).toInt64) (if_pos rfl)
    refine ⟨M', t_X10_by_40 _ _ _ _ _ _ _ ⟨fun _ => ⟨M', g1, rfl⟩, fun c => absurd ?_ c⟩, g2⟩
    rw [show M.1 77 11 = nI σ.1.2.1 from h.F.2.2.1]
    exact Int32.le_refl _
  | f + 1, i, o, M, hi, h, hL => by
    have h8 : σ.1.2.1 ≤ 8 := h.g.2.1
    have hq := zq256 h8
    have hg : fgood σ.1.1 σ.1.2.1 := h.g
    have hF : zF σ.1.1 σ.1.2.1 M := h.F
    have hl := hL.1.2 i (by omega)
    have ht := s_X10_times M hg hF.2.1 ha hl
    have hfl := fm_lt hg (b := v i) ha
    have hc := crd_lt (v := v) (m := σ.1.2.1) (e := fm σ.1.1 σ.1.2.1 a (v i))
    obtain ⟨M3, g1, g2, g3⟩ := s_X10_tellsCoordinates (e := fm σ.1.1 σ.1.2.1 a (v i)) h (by omega) h8 hL hfl (if_neg (by omega))
    have hL3 : zlk σ.1.2.1 v M3 := ⟨hL.1, fun j hj => by rw [g3 87 (by decide)]; exact hL.2.1 j hj, fun j hj => by rw [g3 88 (by decide)]; exact hL.2.2 j hj⟩
    obtain ⟨M', k1, k2⟩ := c_X10_by_40 ha o1 f (i + 1) (some (.int (nI (fm σ.1.1 σ.1.2.1 a (v i))))) M3 (by omega) g2 hL3
    refine ⟨M', t_X10_by_40 _ _ _ _ _ _ _ ⟨fun c => ?_, fun _ => ⟨zn_in (by omega) (by decide), nI (fm σ.1.1 σ.1.2.1 a (v i)), ?_, _, M3, g1, zn_in (by omega) (by decide), ?_⟩⟩, k2⟩
    · rw [hF.2.2.1, zn_le (by omega) (by omega)] at c
      omega
    · rw [zn_cl (by omega), hL.2.1 i (by omega)]
      exact ht
    · rw [zn_cl (by omega), hL3.2.2 _ hfl, zn_bit (by omega) (by omega), nI_add, nI_add, nI_1]
      exact k1
noncomputable def k_by (σ : zSg) (s x : Int32) : Int32 × zSg := if zel 4 s = true then (if zel (2 ^ σ.1.2.1) x = true then ((nI (zs (zcp (σ.1.2.2 (zu s)) (fun k => fm σ.1.1 σ.1.2.1 (zu x) ((σ.1.2.2 (zu s)) k)) σ.1.2.1) σ.1.2.1), zrw σ (σ.1.2.1 + 1, zbf σ.1.1 σ.1.2.1 (σ.1.2.2 (zu s)) (zu x)))) else (-1, σ)) else (-1, σ)
theorem c_X10_by (h : zP M0 σ M) (s x : Int32) : zA M0 mq_X10_by [.ref 77, .int s, .int x] M (k_by σ s x) := by
  obtain ⟨M1, eM, h1, -⟩ := h.thr
  have hq := h.q
  have h8 := h.g.2.1
  have h2 := h.g.1
  have hg := h.g
  by_cases g0 : zel 4 s = true
  · by_cases g1 : zel (2 ^ σ.1.2.1) x = true
    · simp only [zA, k_by, g0, g1, if_true]
      obtain ⟨s, hs, rfl⟩ := zsln g0
      rw [zu_nI (by omega)]
      obtain ⟨M6, l1, l2, l3⟩ := s_X10_looksAt (h1.b hs) hs h1.F (h1.s hs)
      have h6 := h1.k l2 (by decide)
      have hb := h1.b hs
      obtain ⟨a, ha, rfl⟩ := h1.en g1
      rw [zu_nI (by omega)]
      obtain ⟨M', k1, k2⟩ := c_X10_by_40 (σ := σ) (M0 := M0) (v := σ.1.2.2 s) ha (some (.int (nI s))) σ.1.2.1 0 none _ (by omega) (h6.row0 _) ⟨l3.1, fun j hj => by rw [zwr_n (by decide)]; exact l3.2.1 j hj, fun j hj => by rw [zwr_n (by decide)]; exact l3.2.2 j hj⟩
      refine ⟨M', t_X10_by_0 _ _ _ (fun M2 e2 => ?_), k2⟩
      obtain rfl := e2.trans eM
      exact ⟨1, zsl1 _ g0, fun c => absurd c z10, fun _ => ⟨1, h1.el1 g1, fun _ => ⟨M6, l1, fun M7 e7 => by rw [e7]; exact k1⟩, fun c => absurd z10 c⟩⟩
    · simp only [zA, k_by, g0, g1, if_true]
      refine ⟨M1, t_X10_by_0 _ _ _ (fun M2 e2 => ?_), h1⟩
      obtain rfl := e2.trans eM
      exact ⟨1, zsl1 _ g0, fun c => absurd c z10, fun _ => ⟨0, h1.el0 g1, fun c => absurd rfl c, fun _ => rfl⟩⟩
  · simp only [zA, k_by, g0, if_true]
    refine ⟨M1, t_X10_by_0 _ _ _ (fun M2 e2 => ?_), h1⟩
    obtain rfl := e2.trans eM
    exact ⟨0, zsl0 _ g0, fun _ => rfl, fun c => absurd rfl c⟩
theorem c_X10_scales_31 {s a : Nat} (hs : s < 4) (h0 : 0 < a) (ha : a < 2 ^ σ.1.2.1) : ∀ (f i : Nat) (M : mz_M), i + f = σ.1.2.1 → zP M0 σ M → zrow M 84 i (fun k => fm σ.1.1 σ.1.2.1 a (σ.1.2.2 s k)) → ∃ M', mq_G mq_X10_scales (31, [some (.ref 77), some (.int (nI s)), some (.int (nI a)), some (.int (nI i))], [], M) (some (.int (nI (zs (ztb σ.1.1 σ.1.2.1 (fun k => fm σ.1.1 σ.1.2.1 a (σ.1.2.2 s k)) 0) σ.1.2.1))), M') ∧ zP M0 (zhold σ s (fun k => fm σ.1.1 σ.1.2.1 a (σ.1.2.2 s k))) M'
  | 0, i, M, hi, h, hr => by
    obtain ⟨g, hc⟩ := h.c
    have h8 := h.g.2.1
    obtain rfl : i = σ.1.2.1 := by omega
    obtain ⟨M2, s1, s2, s3⟩ := s_X10_someIsBase (zbas_scale h.g hc (h.b hs) h0 ha) h.F hr
    obtain ⟨M', k1, k2⟩ := s_X10_holds (h.k s2 (by decide)) hs s3
    refine ⟨M', t_X10_scales_31 _ _ _ _ ⟨fun _ => ⟨M2, s1, _, M', k1, rfl⟩, fun c => absurd ?_ c⟩, k2⟩
    rw [h.F.2.2.1]
    exact Int32.le_refl _
  | f + 1, i, M, hi, h, hr => by
    have h8 := h.g.2.1
    have hb := h.b hs
    have hk : zK [84] M (mz_wr M 84 (upd (M.1 84) i (nI (fm σ.1.1 σ.1.2.1 a (σ.1.2.2 s i))))) := zK.wr (by simp)
    obtain ⟨M', k1, k2⟩ := c_X10_scales_31 hs h0 ha f (i + 1) _ (by omega) (h.k hk (by decide)) hr.put
    refine ⟨M', t_X10_scales_31 _ _ _ _ ⟨fun c => ?_, fun _ => ⟨_, s_X10_baseAt M hs (by omega), nI (fm σ.1.1 σ.1.2.1 a (σ.1.2.2 s i)), ?_, zn_in (by omega) (by decide), fun M6 e6 => ?_⟩⟩, k2⟩
    · rw [h.F.2.2.1, zn_le (by omega) (by omega)] at c
      omega
    · rw [h.s hs i (by omega)]
      exact s_X10_times M h.g h.F.2.1 ha (hb.2 i (by omega))
    · rw [e6, zn_cl (by omega), nI_1]
      exact k1
noncomputable def k_scales (σ : zSg) (s x : Int32) : Int32 × zSg := if zel 4 s = true then (if zel (2 ^ σ.1.2.1) x = true then (if x = 0 then (-2, σ) else (nI (zs (ztb σ.1.1 σ.1.2.1 (fun k => fm σ.1.1 σ.1.2.1 (zu x) (σ.1.2.2 (zu s) k)) 0) σ.1.2.1), zhold σ (zu s) (fun k => fm σ.1.1 σ.1.2.1 (zu x) (σ.1.2.2 (zu s) k)))) else (-1, σ)) else (-1, σ)
theorem c_X10_scales (h : zP M0 σ M) (s x : Int32) : zA M0 mq_X10_scales [.ref 77, .int s, .int x] M (k_scales σ s x) := by
  obtain ⟨M1, eM, h1, -⟩ := h.thr
  have hq := h.q
  by_cases g0 : zel 4 s = true
  · by_cases g1 : zel (2 ^ σ.1.2.1) x = true
    · by_cases hx : x = 0
      · simp only [zA, k_scales, g0, g1, hx, if_true]
        rw [hx] at g1
        simp only [g1, if_true]
        refine ⟨M1, t_X10_scales_0 _ _ _ (fun M2 e2 => ?_), h1⟩
        obtain rfl := e2.trans eM
        exact ⟨1, zsl1 _ g0, fun c => absurd c z10, fun _ => ⟨1, h1.el1 g1, fun _ => ⟨fun c => absurd rfl c, fun _ => rfl⟩, fun c => absurd z10 c⟩⟩
      · simp only [zA, k_scales, g0, g1, hx, if_true, if_false]
        obtain ⟨s, hs, rfl⟩ := zsln g0
        obtain ⟨a, ha, rfl⟩ := h1.en g1
        rw [zu_nI (by omega), zu_nI (by omega)]
        have ha0 : 0 < a := Nat.pos_of_ne_zero (fun q => hx (by rw [q]; rfl))
        obtain ⟨M', k1, k2⟩ := c_X10_scales_31 (σ := σ) (M0 := M0) hs ha0 ha σ.1.2.1 0 M1 (by omega) h1 (fun j hj => absurd hj (Nat.not_lt_zero j))
        refine ⟨M', t_X10_scales_0 _ _ _ (fun M2 e2 => ?_), k2⟩
        obtain rfl := e2.trans eM
        exact ⟨1, zsl1 _ g0, fun c => absurd c z10, fun _ => ⟨1, h1.el1 g1, fun _ => ⟨fun _ => k1, fun c => absurd hx c⟩, fun c => absurd z10 c⟩⟩
    · simp only [zA, k_scales, g0, g1, if_true]
      refine ⟨M1, t_X10_scales_0 _ _ _ (fun M2 e2 => ?_), h1⟩
      obtain rfl := e2.trans eM
      exact ⟨1, zsl1 _ g0, fun c => absurd c z10, fun _ => ⟨0, h1.el0 g1, fun c => absurd rfl c, fun _ => rfl⟩⟩
  · simp only [zA, k_scales, g0]
    refine ⟨M1, t_X10_scales_0 _ _ _ (fun M2 e2 => ?_), h1⟩
    obtain rfl := e2.trans eM
    exact ⟨0, zsl0 _ g0, fun _ => rfl, fun c => absurd rfl c⟩
noncomputable def k_moves (σ : zSg) (s x y : Int32) : Int32 × zSg := if zel 4 s = true then (if zel σ.1.2.1 x = true then (if zel σ.1.2.1 y = true then (if x = y then (-2, σ) else (nI (zs (ztb σ.1.1 σ.1.2.1 (zswp (σ.1.2.2 (zu s)) (zu x) (zu y)) 0) σ.1.2.1), zhold σ (zu s) (zswp (σ.1.2.2 (zu s)) (zu x) (zu y)))) else (-1, σ)) else (-1, σ)) else (-1, σ)
theorem c_X10_moves (h : zP M0 σ M) (s x y : Int32) : zA M0 mq_X10_moves [.ref 77, .int s, .int x, .int y] M (k_moves σ s x y) := by
  obtain ⟨M1, eM, h1, -⟩ := h.thr
  have hq := h.q
  have h8 := h.g.2.1
  by_cases g0 : zel 4 s = true
  · by_cases g1 : zel σ.1.2.1 x = true
    · by_cases g2 : zel σ.1.2.1 y = true
      · by_cases hx : x = y
        · simp only [zA, k_moves, g0, g1, g2, hx, if_true]
          rw [hx] at g1
          refine ⟨M1, t_X10_moves_0 _ _ _ _ (fun M2 e2 => ?_), h1⟩
          obtain rfl := e2.trans eM
          exact ⟨1, zsl1 _ g0, fun c => absurd c z10, fun _ => ⟨1, h1.pl1 g1, fun c => absurd c z10, fun _ => ⟨1, h1.pl1 g2, fun _ => ⟨fun c => absurd rfl c, fun _ => rfl⟩, fun c => absurd z10 c⟩⟩⟩
        · simp only [zA, k_moves, g0, g1, g2, hx, if_true, if_false]
          obtain ⟨s, hs, rfl⟩ := zsln g0
          obtain ⟨i, hi, hi8, rfl⟩ := h1.pn g1
          obtain ⟨j, hj, hj8, rfl⟩ := h1.pn g2
          rw [zu_nI (by omega), zu_nI (by omega), zu_nI (by omega)]
          have hij : i ≠ j := fun q => hx (by rw [q])
          have hb := h1.b hs
          obtain ⟨M9, t1, t2, t3⟩ := s_X10_takesBase hs h1.F (h1.s hs)
          have h9 := h1.k t2 (by decide)
          have hr9 : ∀ k, M9.1 78 k = M1.1 78 k := fun k => by rw [t2.2 78 (by decide)]
          have hk1 : zK [84] M9 (mz_wr M9 84 (upd (M9.1 84) i (nI (σ.1.2.2 s j)))) := zK.wr (by simp)
          have h11 := h9.k hk1 (by decide)
          have hk2 : zK [84] (mz_wr M9 84 (upd (M9.1 84) i (nI (σ.1.2.2 s j)))) (mz_wr (mz_wr M9 84 (upd (M9.1 84) i (nI (σ.1.2.2 s j)))) 84 (upd ((mz_wr M9 84 (upd (M9.1 84) i (nI (σ.1.2.2 s j)))).1 84) j (nI (σ.1.2.2 s i)))) := zK.wr (by simp)
          have h14 := h11.k hk2 (by decide)
          have hr : zrow (mz_wr (mz_wr M9 84 (upd (M9.1 84) i (nI (σ.1.2.2 s j)))) 84 (upd ((mz_wr M9 84 (upd (M9.1 84) i (nI (σ.1.2.2 s j)))).1 84) j (nI (σ.1.2.2 s i)))) 84 σ.1.2.1 (zswp (σ.1.2.2 s) i j) := fun k hk => by
            rw [zwr_s]
            unfold zswp
            by_cases e1 : k = j
            · rw [if_pos e1, e1, zupd_s]
            · rw [if_neg e1, zupd_n e1, zwr_s]
              by_cases e2 : k = i
              · rw [if_pos e2, e2, zupd_s]
              · rw [if_neg e2, zupd_n e2]
                exact t3 k hk
          obtain ⟨M16, s1, s2, s3⟩ := s_X10_someIsBase (zbas_swap hb hi hj hij) h14.F hr
          obtain ⟨M', k1, k2⟩ := s_X10_holds (h14.k s2 (by decide)) hs s3
          refine ⟨M', t_X10_moves_0 _ _ _ _ (fun M2 e2 => ?_), k2⟩
          obtain rfl := e2.trans eM
          refine ⟨1, zsl1 _ g0, fun c => absurd c z10, fun _ => ⟨1, h1.pl1 g1, fun c => absurd c z10, fun _ => ⟨1, h1.pl1 g2, fun _ => ⟨fun _ => ⟨M9, t1, ?_⟩, fun c => absurd hx c⟩, fun c => absurd z10 c⟩⟩⟩
          have b1 := s_X10_baseAt M9 hs hj8
          rw [h9.s hs j hj] at b1
          have b2 := s_X10_baseAt (mz_wr M9 84 (upd (M9.1 84) i (nI (σ.1.2.2 s j)))) hs hi8
          rw [h11.s hs i hi] at b2
          refine ⟨_, b1, zn_in (by omega) (by decide), fun M11 e11 => ?_⟩
          rw [zn_cl (by omega)] at e11
          subst e11
          refine ⟨_, b2, zn_in (by omega) (by decide), fun M14 e14 => ?_⟩
          rw [zn_cl (by omega)] at e14
          subst e14
          exact ⟨M16, s1, _, M', k1, rfl⟩
      · simp only [zA, k_moves, g0, g1, g2, if_true]
        refine ⟨M1, t_X10_moves_0 _ _ _ _ (fun M2 e2 => ?_), h1⟩
        obtain rfl := e2.trans eM
        exact ⟨1, zsl1 _ g0, fun c => absurd c z10, fun _ => ⟨1, h1.pl1 g1, fun c => absurd c z10, fun _ => ⟨0, h1.pl0 g2, fun c => absurd rfl c, fun _ => rfl⟩⟩⟩
    · simp only [zA, k_moves, g0, g1, if_true]
      refine ⟨M1, t_X10_moves_0 _ _ _ _ (fun M2 e2 => ?_), h1⟩
      obtain rfl := e2.trans eM
      exact ⟨1, zsl1 _ g0, fun c => absurd c z10, fun _ => ⟨0, h1.pl0 g1, fun _ => rfl, fun c => absurd rfl c⟩⟩
  · simp only [zA, k_moves, g0]
    refine ⟨M1, t_X10_moves_0 _ _ _ _ (fun M2 e2 => ?_), h1⟩
    obtain rfl := e2.trans eM
    exact ⟨0, zsl0 _ g0, fun _ => rfl, fun c => absurd rfl c⟩
noncomputable def k_adds (σ : zSg) (s x y : Int32) : Int32 × zSg := if zel 4 s = true then (if zel σ.1.2.1 x = true then (if zel σ.1.2.1 y = true then (if x = y then (-2, σ) else (nI (zs (ztb σ.1.1 σ.1.2.1 (zadd (σ.1.2.2 (zu s)) (zu x) (zu y)) 0) σ.1.2.1), zhold σ (zu s) (zadd (σ.1.2.2 (zu s)) (zu x) (zu y)))) else (-1, σ)) else (-1, σ)) else (-1, σ)
theorem c_X10_adds (h : zP M0 σ M) (s x y : Int32) : zA M0 mq_X10_adds [.ref 77, .int s, .int x, .int y] M (k_adds σ s x y) := by
  obtain ⟨M1, eM, h1, -⟩ := h.thr
  have hq := h.q
  have h8 := h.g.2.1
  by_cases g0 : zel 4 s = true
  · by_cases g1 : zel σ.1.2.1 x = true
    · by_cases g2 : zel σ.1.2.1 y = true
      · by_cases hx : x = y
        · simp only [zA, k_adds, g0, g1, g2, hx, if_true]
          rw [hx] at g1
          refine ⟨M1, t_X10_adds_0 _ _ _ _ (fun M2 e2 => ?_), h1⟩
          obtain rfl := e2.trans eM
          exact ⟨1, zsl1 _ g0, fun c => absurd c z10, fun _ => ⟨1, h1.pl1 g1, fun c => absurd c z10, fun _ => ⟨1, h1.pl1 g2, fun _ => ⟨fun c => absurd rfl c, fun _ => rfl⟩, fun c => absurd z10 c⟩⟩⟩
        · simp only [zA, k_adds, g0, g1, g2, hx, if_true, if_false]
          obtain ⟨s, hs, rfl⟩ := zsln g0
          obtain ⟨i, hi, hi8, rfl⟩ := h1.pn g1
          obtain ⟨j, hj, hj8, rfl⟩ := h1.pn g2
          rw [zu_nI (by omega), zu_nI (by omega), zu_nI (by omega)]
          have hij : i ≠ j := fun q => hx (by rw [q])
          have hb := h1.b hs
          obtain ⟨M9, t1, t2, t3⟩ := s_X10_takesBase hs h1.F (h1.s hs)
          have h9 := h1.k t2 (by decide)
          have e84 : M9.1 84 i ^^^ M9.1 84 j = nI (σ.1.2.2 s i ^^^ σ.1.2.2 s j) := by rw [t3 i hi, t3 j hj, zn_xor]
          have hk1 : zK [84] M9 (mz_wr M9 84 (upd (M9.1 84) i (nI (σ.1.2.2 s i ^^^ σ.1.2.2 s j)))) := zK.wr (by simp)
          have h14 := h9.k hk1 (by decide)
          have hr : zrow (mz_wr M9 84 (upd (M9.1 84) i (nI (σ.1.2.2 s i ^^^ σ.1.2.2 s j)))) 84 σ.1.2.1 (zadd (σ.1.2.2 s) i j) := fun k hk => by
            rw [zwr_s]
            unfold zadd
            by_cases e2 : k = i
            · rw [if_pos e2, e2, zupd_s]
            · rw [if_neg e2, zupd_n e2]
              exact t3 k hk
          obtain ⟨M16, s1, s2, s3⟩ := s_X10_someIsBase (zbas_add hb hi hj hij) h14.F hr
          obtain ⟨M', k1, k2⟩ := s_X10_holds (h14.k s2 (by decide)) hs s3
          refine ⟨M', t_X10_adds_0 _ _ _ _ (fun M2 e2 => ?_), k2⟩
          obtain rfl := e2.trans eM
          refine ⟨1, zsl1 _ g0, fun c => absurd c z10, fun _ => ⟨1, h1.pl1 g1, fun c => absurd c z10, fun _ => ⟨1, h1.pl1 g2, fun _ => ⟨fun _ => ⟨M9, t1, ?_⟩, fun c => absurd hx c⟩, fun c => absurd z10 c⟩⟩⟩
          refine ⟨zn_in (by omega) (by decide), zn_in (by omega) (by decide), zn_in (by omega) (by decide), fun M10 e10 => ?_⟩
          rw [zn_cl (by omega), zn_cl (by omega), e84] at e10
          subst e10
          exact ⟨M16, s1, _, M', k1, rfl⟩
      · simp only [zA, k_adds, g0, g1, g2, if_true]
        refine ⟨M1, t_X10_adds_0 _ _ _ _ (fun M2 e2 => ?_), h1⟩
        obtain rfl := e2.trans eM
        exact ⟨1, zsl1 _ g0, fun c => absurd c z10, fun _ => ⟨1, h1.pl1 g1, fun c => absurd c z10, fun _ => ⟨0, h1.pl0 g2, fun c => absurd rfl c, fun _ => rfl⟩⟩⟩
    · simp only [zA, k_adds, g0, g1, if_true]
      refine ⟨M1, t_X10_adds_0 _ _ _ _ (fun M2 e2 => ?_), h1⟩
      obtain rfl := e2.trans eM
      exact ⟨1, zsl1 _ g0, fun c => absurd c z10, fun _ => ⟨0, h1.pl0 g1, fun _ => rfl, fun c => absurd rfl c⟩⟩
  · simp only [zA, k_adds, g0]
    refine ⟨M1, t_X10_adds_0 _ _ _ _ (fun M2 e2 => ?_), h1⟩
    obtain rfl := e2.trans eM
    exact ⟨0, zsl0 _ g0, fun _ => rfl, fun c => absurd rfl c⟩
end ZC7
