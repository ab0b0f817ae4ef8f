/-! calls of the reference: generators, normal, normals, subfield, complete, leastNormal, leastPowers -/
theorem zor_eq {P m a : Nat} : ∀ (f n : Nat), (∀ k, n ≤ k → k < n + f → fpw P m a k ≠ 1) → zor P m a f n = n + f
  | 0, n, _ => rfl
  | f + 1, n, h => by
    unfold zor
    rw [if_neg (h n (Nat.le_refl _) (by omega)), zor_eq f (n + 1) (fun k h1 h2 => h k (by omega) (by omega))]
    omega
theorem zgen_g {P m g : Nat} (hg : fgood P m) (hc : fcy P m g) : zgen P m g = true := by
  have hq := f1_lt hg
  refine decide_eq_true ⟨by have := hc.1; omega, ?_⟩
  rw [zor_eq]
  · omega
  · intro k h1 h2 e
    have := hc.2.2.2.1 k (by omega) 0 (by omega) (by rw [e]; rfl)
    omega
theorem zgen_ex {P m g : Nat} (hg : fgood P m) (hc : fcy P m g) : ∃ a, zfst (zgen P m) (2 ^ m - 1) 1 = some a := by
  cases e : zfst (zgen P m) (2 ^ m - 1) 1 with
  | some a => exact ⟨a, rfl⟩
  | none =>
    have h1 := zfst_none.mp e g (by have := hc.1; omega) (by have := hc.2.1; omega)
    rw [zgen_g hg hc] at h1
    cases h1
/-! SUBBASE d has d elements -/
theorem zsbf_all {P m d : Nat} : ∀ (f a : Nat) (l : List Nat), a + f = 2 ^ m →
    (∀ e, sp (fun i => l.getD i 0) l.length e → sp (fun i => (zsbf P m d f a l).getD i 0) (zsbf P m d f a l).length e) ∧ ((zsbf P m d f a l).length < d → ∀ b, a ≤ b → b < 2 ^ m → cj P m b d = b → sp (fun i => (zsbf P m d f a l).getD i 0) (zsbf P m d f a l).length b)
  | 0, a, l, hf => ⟨fun e h => h, fun _ b h1 h2 => absurd h1 (by omega)⟩
  | f + 1, a, l, hf => by
    unfold zsbf
    by_cases hl : l.length < d
    · rw [if_pos hl]
      by_cases hc : cj P m a d = a ∧ ¬ sp (fun i => l.getD i 0) l.length a
      · rw [if_pos hc]
        obtain ⟨h1, h2⟩ := zsbf_all (P := P) (m := m) (d := d) f (a + 1) (l ++ [a]) (by omega)
        have hlen : (l ++ [a]).length = l.length + 1 := by simp
        rw [hlen] at h1
        refine ⟨fun e h => h1 e (Or.inl (sp_ext (fun j hj => (zget_lo hj).symm) h)), fun q b h3 h4 h5 => ?_⟩
        by_cases e : b = a
        · subst e
          refine h1 b (Or.inr ?_)
          rw [show (fun i => (l ++ [b]).getD i 0) l.length = b from zget_at, Nat.xor_self]
          exact sp_0 _ _
        · exact h2 q b (by omega) h4 h5
      · rw [if_neg hc]
        obtain ⟨h1, h2⟩ := zsbf_all (P := P) (m := m) (d := d) f (a + 1) l (by omega)
        refine ⟨h1, fun q b h3 h4 h5 => ?_⟩
        by_cases e : b = a
        · subst e
          exact h1 b (Classical.byContradiction (fun q2 => hc ⟨h5, q2⟩))
        · exact h2 q b (by omega) h4 h5
    · rw [if_neg hl]
      exact ⟨fun e h => h, fun q => absurd q hl⟩
theorem zdivs : ∀ m, m < 9 → ∀ d, d < 9 → 0 < d → m % d = 0 → (2 ^ d - 1) * ((2 ^ m - 1) / (2 ^ d - 1)) = 2 ^ m - 1 := by decide +kernel
theorem crd_sp {v : Nat → Nat} {n e : Nat} (h : sp v n e) : zcb v n (crd v n e) = e := by
  have hx := sp_iff.mp h
  unfold crd
  rw [dif_pos hx]
  exact (Classical.choose_spec hx).2
theorem zfix {P m g d j : Nat} (hg : fgood P m) (hc : fcy P m g) (hd : 0 < d) (hdm : d ≤ m) (hmd : m % d = 0) : cj P m (fpw P m g (j * ((2 ^ m - 1) / (2 ^ d - 1)))) d = fpw P m g (j * ((2 ^ m - 1) / (2 ^ d - 1))) := by
  have h8 := hg.2.1
  have hk := zdivs m (by omega) d (by omega) hd hmd
  have hg2 := hc.2.1
  have h2 : 1 ≤ 2 ^ d := Nat.one_le_two_pow
  rw [cj_pw hg (fpw_lt hg hg2 _), fpw_mul hg hg2]
  generalize (2 ^ m - 1) / (2 ^ d - 1) = k at *
  have e : j * k * 2 ^ d = j * k + (2 ^ m - 1) * j := by
    rw [← hk, show (2 ^ d - 1) * k * j = j * k * (2 ^ d - 1) by ac_rfl, Nat.mul_sub, Nat.mul_one]
    have : j * k ≤ j * k * 2 ^ d := Nat.le_mul_of_pos_right _ (Nat.two_pow_pos d)
    omega
  rw [e, fpw_add hg hg2, ← fpw_mul hg hg2 (2 ^ m - 1) j, hc.2.2.1, fpw_one hg, fm_one_r hg (fpw_lt hg hg2 _)]
theorem zsub_len {P m g d : Nat} (hg : fgood P m) (hc : fcy P m g) (hd : 0 < d) (hdm : d ≤ m) (hmd : m % d = 0) : (zsub P m d).length = d := by
  have hle := (zsub_ok P m d).2
  apply Classical.byContradiction
  intro hne
  have hlt : (zsub P m d).length < d := by omega
  have h8 := hg.2.1
  have hq := f1_lt hg
  have hall := (zsbf_all (P := P) (m := m) (d := d) (2 ^ m - 1) 1 [] (by omega)).2 hlt
  have hk := zdivs m (by omega) d (by omega) hd hmd
  have h2 : 2 ^ 1 ≤ 2 ^ d := Nat.pow_le_pow_right (by decide) hd
  have hf := fun j => zfix (j := j) hg hc hd hdm hmd
  generalize hkk : (2 ^ m - 1) / (2 ^ d - 1) = k at *
  have hk0 : 0 < k := Nat.pos_of_ne_zero (fun e => by rw [e, Nat.mul_zero] at hk; omega)
  let v : Nat → Nat := fun i => (zsub P m d).getD i 0
  let n := (zsub P m d).length
  have hspan : ∀ j, j < 2 ^ d - 1 → sp v n (fpw P m g (j * k)) := by
    intro j hj
    have hj2 : j * k < 2 ^ m - 1 := by
      rw [← hk]
      exact Nat.mul_lt_mul_of_pos_right hj hk0
    have h3 := hc.2.2.2.2.1 (j * k) hj2
    exact hall _ h3.1 h3.2 (hf j)
  have hnd : ((0 :: (List.range (2 ^ d - 1)).map (fun j => fpw P m g (j * k))).map (crd v n)).Nodup := by
    refine List.pairwise_map.mpr (List.Pairwise.imp_of_mem (S := fun a b => crd v n a ≠ crd v n b) (R := fun a b => a ≠ b) ?_ ?_)
    · intro x y hx hy hxy e
      have hs : ∀ z, z ∈ (0 :: (List.range (2 ^ d - 1)).map (fun j => fpw P m g (j * k))) → sp v n z := by
        intro z hz
        rcases List.mem_cons.mp hz with r | r
        · rw [r]; exact sp_0 _ _
        · obtain ⟨j, hj, rfl⟩ := List.mem_map.mp r
          exact hspan j (List.mem_range.mp hj)
      have e1 := crd_sp (hs x hx)
      rw [e, crd_sp (hs y hy)] at e1
      exact hxy e1.symm
    · refine List.Pairwise.cons ?_ ?_
      · intro z hz e
        obtain ⟨j, hj, rfl⟩ := List.mem_map.mp hz
        have hj2 : j * k < 2 ^ m - 1 := by
          rw [← hk]
          exact Nat.mul_lt_mul_of_pos_right (List.mem_range.mp hj) hk0
        have := (hc.2.2.2.2.1 (j * k) hj2).1
        omega
      · refine List.pairwise_map.mpr (List.Pairwise.imp_of_mem (S := fun a b => fpw P m g (a * k) ≠ fpw P m g (b * k)) ?_ List.nodup_range)
        intro x y hx hy hxy e
        have hb : ∀ z, z ∈ List.range (2 ^ d - 1) → z * k < 2 ^ m - 1 := by
          intro z hz
          rw [← hk]
          exact Nat.mul_lt_mul_of_pos_right (List.mem_range.mp hz) hk0
        exact hxy (Nat.eq_of_mul_eq_mul_right hk0 (hc.2.2.2.1 _ (hb x hx) _ (hb y hy) e))
  have hp := zpig (2 ^ n) _ hnd (fun a ha => by
    obtain ⟨b, -, rfl⟩ := List.mem_map.mp ha
    exact crd_lt)
  simp only [List.length_map, List.length_cons, List.length_range] at hp
  have hpow : 2 ^ n < 2 ^ d := Nat.pow_lt_pow_right (by decide) hlt
  omega
section ZC3
variable {M0 M M' : mz_M} {σ : zSg}
def k_generators (σ : zSg) : Int32 × zSg := (nI (zcnt (zgen σ.1.1 σ.1.2.1) (2 ^ σ.1.2.1 - 1) 1), zrw σ (zr1 (zNo (zfst (zgen σ.1.1 σ.1.2.1) (2 ^ σ.1.2.1 - 1) 1))))
def zN0 (o : Option Nat) : Int32 := match o with
  | some n => nI n
  | none => 0
theorem c_X10_generators_16 (h : zP M0 σ M) : ∀ (a f : Nat), a + 1 + f = 2 ^ σ.1.2.1 → ∃ M', mq_G mq_X10_generators (16, [some (.ref 77), some (.int (nI (zcnt (zgen σ.1.1 σ.1.2.1) f (a + 1)))), some (.int (zN0 (zfst (zgen σ.1.1 σ.1.2.1) f (a + 1)))), some (.int (nI a))], [], M) (some (.int (k_generators σ).1), M') ∧ zP M0 (k_generators σ).2 M'
  | 0, f, hf => by
    obtain rfl : f = 2 ^ σ.1.2.1 - 1 := by omega
    obtain ⟨g, hc⟩ := h.c
    obtain ⟨x, hx⟩ := zgen_ex h.g hc
    obtain ⟨M3, M4, e3, g1, g2, -, -⟩ := s_tell1 h (zNo (zfst (zgen σ.1.1 σ.1.2.1) (2 ^ σ.1.2.1 - 1) 1))
    refine ⟨M4, t_X10_generators_16 _ _ _ _ ⟨fun _ M2 e2 => ?_, fun c => absurd (by decide) c⟩, g2⟩
    obtain rfl := e2.trans e3
    rw [hx] at g1
    rw [Nat.zero_add, hx]
    exact ⟨M4, g1, rfl⟩
  | a + 1, f, hf => by
    have hq := h.q
    have ha : a + 1 < 2 ^ σ.1.2.1 := by omega
    obtain ⟨g, hc⟩ := h.c
    obtain ⟨M', k1, k2⟩ := c_X10_generators_16 h a (f + 1) (by omega)
    refine ⟨M', t_X10_generators_16 _ _ _ _ ⟨fun c => ?_, fun _ => ⟨_, s_X10_isGenerator h.F hc ha, fun c => ?_, fun c => ?_⟩⟩, k2⟩
    · rw [zn_le0 (by omega)] at c
      omega
    · have e : zgen σ.1.1 σ.1.2.1 (a + 1) = true := by
        cases q : zgen σ.1.1 σ.1.2.1 (a + 1) with
        | true => rfl
        | false => rw [q] at c; exact absurd rfl c
      rw [zcnt_t e, zfst_t e] at k1
      rw [zn_m1, nI_1]
      exact k1
    · have e : ¬ zgen σ.1.1 σ.1.2.1 (a + 1) = true := fun q => by
        rw [q] at c; exact c (by decide)
      rw [zcnt_f e, zfst_f e] at k1
      rw [zn_m1]
      exact k1
theorem c_X10_generators (h : zP M0 σ M) : zA M0 mq_X10_generators [.ref 77] M (k_generators σ) := by
  obtain ⟨M1, eM, h1, -⟩ := h.thr
  have hq0 := f1_lt h.g
  obtain ⟨M', k1, k2⟩ := c_X10_generators_16 h1 (2 ^ σ.1.2.1 - 1) 0 (by omega)
  refine ⟨M', t_X10_generators_0 _ (fun M2 e2 => ?_), k2⟩
  obtain rfl := e2.trans eM
  rw [h1.F.2.2.2, show (1 : Int32) = nI 1 from rfl, zn_sub (by omega)]
  exact k1
noncomputable def k_normal (σ : zSg) (x : Int32) : Int32 × zSg := if zel (2 ^ σ.1.2.1) x = true then (zB (znor σ.1.1 σ.1.2.1 (zu x)), zrw σ (zr1 (nI (rk (cj σ.1.1 σ.1.2.1 (zu x)) σ.1.2.1)))) else (-1, σ)
theorem c_X10_normal (h : zP M0 σ M) (x : Int32) : zA M0 mq_X10_normal [.ref 77, .int x] M (k_normal σ x) := by
  obtain ⟨M1, eM, h1, -⟩ := h.thr
  have hq := h.q
  have h8 := h.g.2.1
  by_cases he : zel (2 ^ σ.1.2.1) x = true
  · simp only [zA, k_normal, he, if_true]
    obtain ⟨a, ha, rfl⟩ := h1.en he
    rw [zu_nI (by omega)]
    obtain ⟨M2, g1, g2, g3⟩ := s_X10_takesConjugates h1.F ha
    have h2 := h1.k g2 (by decide)
    obtain ⟨M3, r1, r2⟩ := s_X10_rank h8 M2 (v := cj σ.1.1 σ.1.2.1 a) (fun j hj => ⟨g3 j hj, z256 h8 (cj_lt h.g ha j)⟩)
    have h3 := h2.k r2 (by decide)
    obtain ⟨M4, M5, e4, q1, q2, -, -⟩ := s_tell1 h3 (nI (rk (cj σ.1.1 σ.1.2.1 a) σ.1.2.1))
    have hr := rk_le (cj σ.1.1 σ.1.2.1 a) σ.1.2.1
    refine ⟨M5, t_X10_normal_0 _ _ (fun M9 e9 => ?_), q2⟩
    obtain rfl := e9.trans eM
    refine ⟨1, h1.el1 he, fun _ => ⟨M2, g1, _, M3, by rw [h2.F.2.2.1]; exact r1, fun M6 e6 => ?_⟩, fun c => absurd z10 c⟩
    obtain rfl := e6.trans e4
    have e11 : M5.1 77 11 = nI σ.1.2.1 := q2.F.2.2.1
    refine ⟨M5, q1, fun c => ?_, fun c => ?_⟩
    · rw [e11, zn_eq (by omega) (by omega), rk_ind] at c
      rw [znor_f.mpr c]; rfl
    · rw [e11, zn_eq (by omega) (by omega), rk_ind] at c
      rw [znor_iff.mpr (Classical.not_not.mp c)]; rfl
  · simp only [zA, k_normal, he]
    refine ⟨M1, t_X10_normal_0 _ _ (fun M2 e2 => ?_), h1⟩
    obtain rfl := e2.trans eM
    exact ⟨0, h1.el0 he, fun c => absurd rfl c, fun _ => rfl⟩
noncomputable def zng (P m a : Nat) : Bool := znor P m a && zgen P m a
noncomputable def k_normals (σ : zSg) : Int32 × zSg := (nI (zcnt (znor σ.1.1 σ.1.2.1) (2 ^ σ.1.2.1 - 1) 1), zrw σ (zr2 (zNo (zfst (znor σ.1.1 σ.1.2.1) (2 ^ σ.1.2.1 - 1) 1)) (zNo (zfst (zng σ.1.1 σ.1.2.1) (2 ^ σ.1.2.1 - 1) 1))))
theorem c_X10_normals_19 : ∀ (a f : Nat) (M : mz_M), zP M0 σ M → a + 1 + f = 2 ^ σ.1.2.1 → ∃ M', mq_G mq_X10_normals (19, [some (.ref 77), some (.int (nI (zcnt (znor σ.1.1 σ.1.2.1) f (a + 1)))), some (.int (zNo (zfst (znor σ.1.1 σ.1.2.1) f (a + 1)))), some (.int (zNo (zfst (zng σ.1.1 σ.1.2.1) f (a + 1)))), some (.int (nI a))], [], M) (some (.int (k_normals σ).1), M') ∧ zP M0 (k_normals σ).2 M'
  | 0, f, M, h, hf => by
    obtain rfl : f = 2 ^ σ.1.2.1 - 1 := by omega
    obtain ⟨M3, M4, M5, e3, g1, g2, g3, -⟩ := s_tell2 h (zNo (zfst (znor σ.1.1 σ.1.2.1) (2 ^ σ.1.2.1 - 1) 1)) (zNo (zfst (zng σ.1.1 σ.1.2.1) (2 ^ σ.1.2.1 - 1) 1))
    refine ⟨M5, t_X10_normals_19 _ _ _ _ _ ⟨fun _ M2 e2 => ?_, fun c => absurd (by decide) c⟩, g3⟩
    obtain rfl := e2.trans e3
    exact ⟨M4, g1, M5, g2, rfl⟩
  | a + 1, f, M, h, hf => by
    have hq := h.q
    have ha : a + 1 < 2 ^ σ.1.2.1 := by omega
    obtain ⟨g, hc⟩ := h.c
    obtain ⟨M1, n1, n2, -⟩ := s_X10_isNormal h.F ha
    have h1 := h.k n2 (by decide)
    obtain ⟨M', k1, k2⟩ := c_X10_normals_19 a (f + 1) M1 h1 (by omega)
    refine ⟨M', t_X10_normals_19 _ _ _ _ _ ⟨fun c => ?_, fun _ => ⟨_, M1, n1, fun c => ⟨_, s_X10_isGenerator h1.F hc ha, fun c2 => ?_, fun c2 => ?_⟩, fun c => ?_⟩⟩, k2⟩
    · rw [zn_le0 (by omega)] at c
      omega
    · have e : znor σ.1.1 σ.1.2.1 (a + 1) = true := by
        cases q : znor σ.1.1 σ.1.2.1 (a + 1) with
        | true => rfl
        | false => rw [q] at c; exact absurd rfl c
      have e2 : ¬ zng σ.1.1 σ.1.2.1 (a + 1) = true := fun q => by
        unfold zng at q
        rw [e, Bool.true_and] at q
        rw [q] at c2; exact z10 c2
      rw [zcnt_t e, zfst_t e, zfst_f e2] at k1
      rw [zn_m1, nI_1]
      exact k1
    · have e : znor σ.1.1 σ.1.2.1 (a + 1) = true := by
        cases q : znor σ.1.1 σ.1.2.1 (a + 1) with
        | true => rfl
        | false => rw [q] at c; exact absurd rfl c
      have e2 : zng σ.1.1 σ.1.2.1 (a + 1) = true := by
        unfold zng
        rw [e, Bool.true_and]
        cases q : zgen σ.1.1 σ.1.2.1 (a + 1) with
        | true => rfl
        | false => rw [q] at c2; exact absurd rfl c2
      rw [zcnt_t e, zfst_t e, zfst_t e2] at k1
      rw [zn_m1, nI_1]
      exact k1
    · have e : ¬ znor σ.1.1 σ.1.2.1 (a + 1) = true := fun q => by
        rw [q] at c; exact c (by decide)
      have e2 : ¬ zng σ.1.1 σ.1.2.1 (a + 1) = true := fun q => by
        unfold zng at q
        rw [Bool.and_eq_true] at q
        exact e q.1
      rw [zcnt_f e, zfst_f e, zfst_f e2] at k1
      rw [zn_m1]
      exact k1
theorem c_X10_normals (h : zP M0 σ M) : zA M0 mq_X10_normals [.ref 77] M (k_normals σ) := by
  obtain ⟨M1, eM, h1, -⟩ := h.thr
  have hq0 := f1_lt h.g
  obtain ⟨M', k1, k2⟩ := c_X10_normals_19 (2 ^ σ.1.2.1 - 1) 0 M1 h1 (by omega)
  refine ⟨M', t_X10_normals_0 _ (fun M2 e2 => ?_), k2⟩
  obtain rfl := e2.trans eM
  rw [h1.F.2.2.2, show (1 : Int32) = nI 1 from rfl, zn_sub (by omega)]
  exact k1
noncomputable def k_subfield (σ : zSg) (x : Int32) : Int32 × zSg := if zpt σ.1.2.1 x = true then (nI (2 ^ zu x), zrw σ (zu x, fun k => (nI ((zsub σ.1.1 σ.1.2.1 (zu x)).getD k 0)).toInt64)) else (-1, σ)
theorem c_X10_subfield_27 {d : Nat} {v : Nat → Nat} (hd : d ≤ 8) : ∀ (f k : Nat) (M : mz_M), k + f = d → zP M0 (zrw σ (k, fun k => (nI (v k)).toInt64)) M → zrow M 86 d v → ∃ M', mq_G mq_X10_subfield (27, [some (.ref 77), some (.int (nI d)), some (.int (nI k))], [], M) (some (.int (nI (2 ^ d))), M') ∧ zP M0 (zrw σ (d, fun k => (nI (v k)).toInt64)) M'
  | 0, k, M, hk, h, hr => by
    obtain rfl : k = d := by omega
    refine ⟨M, t_X10_subfield_27 _ _ _ ⟨fun _ => ?_, fun c => absurd ((zn_le (by omega) (by omega)).mpr (Nat.le_refl _)) c⟩, h⟩
    rw [zone_shl (by omega)]
  | f + 1, k, M, hk, h, hr => by
    obtain ⟨M1, g1, g2, g3⟩ := s_X10_tell h (by omega) (x := (nI (v k)).toInt64) rfl
    obtain ⟨M', k1, k2⟩ := c_X10_subfield_27 hd f (k + 1) M1 (by omega) g2 (fun j hj => by rw [g3 86 (by decide)]; exact hr j hj)
    refine ⟨M', t_X10_subfield_27 _ _ _ ⟨fun c => ?_, fun _ => ⟨zn_in (by omega) (by decide), M1, ?_, ?_⟩⟩, k2⟩
    · rw [zn_le (by omega) (by omega)] at c
      omega
    · rw [zn_cl (by omega), hr k (by omega)]
      exact g1
    · rw [nI_1]; exact k1
theorem c_X10_subfield (h : zP M0 σ M) (x : Int32) : zA M0 mq_X10_subfield [.ref 77, .int x] M (k_subfield σ x) := by
  obtain ⟨M1, eM, h1, -⟩ := h.thr
  by_cases he : zpt σ.1.2.1 x = true
  · simp only [zA, k_subfield, he, if_true]
    obtain ⟨d, hd0, hdm, hd8, hd, rfl⟩ := h1.ptn he
    rw [zu_nI (by omega)]
    obtain ⟨g, hc⟩ := h1.c
    obtain ⟨M4, g1, g2, g3⟩ := s_X10_takesSubbase (P := σ.1.1) hd8 h1.F
    rw [zsub_len h.g hc hd0 hdm hd] at g3
    have h4 := h1.k g2 (by decide)
    obtain ⟨M', k1, k2⟩ := c_X10_subfield_27 (σ := σ) (M0 := M0) (v := fun k => (zsub σ.1.1 σ.1.2.1 d).getD k 0) hd8 d 0 _ (by omega) (h4.row0 _) (fun j hj => by rw [zwr_n (by decide)]; exact g3 j hj)
    refine ⟨M', t_X10_subfield_0 _ _ (fun M2 e2 => ?_), k2⟩
    obtain rfl := e2.trans eM
    exact ⟨1, h1.pt1 he, fun _ => ⟨M4, g1, fun M5 e5 => by rw [e5]; exact k1⟩, fun c => absurd z10 c⟩
  · simp only [zA, k_subfield, he]
    refine ⟨M1, t_X10_subfield_0 _ _ (fun M2 e2 => ?_), h1⟩
    obtain rfl := e2.trans eM
    exact ⟨0, h1.pt0 he, fun c => absurd rfl c, fun _ => rfl⟩
/-- a is NORMAL over d -/
noncomputable def znov (P m a d : Nat) : Bool := @decide (ind (zno P m a d) m) (Classical.propDecidable _)
noncomputable def zcmp (P m a : Nat) : Nat → Nat → Nat → Nat
  | 0, _, s => s
  | f + 1, d, s => zcmp P m a f (d + 1) (if zpt m (nI d) = true then (if znov P m a d = true then s ||| 2 ^ d else s) else s)
noncomputable def k_complete (σ : zSg) (x : Int32) : Int32 × zSg := if zel (2 ^ σ.1.2.1) x = true then (nI (zcmp σ.1.1 σ.1.2.1 (zu x) (σ.1.2.1 - 1) 1 0), σ) else (-1, σ)
theorem zor0 (n : Nat) : nI n ||| 0 = nI n := by
  show nI n ||| nI 0 = nI n
  rw [zn_or, Nat.or_zero]
theorem c_X10_complete_19 {a : Nat} (ha : a < 2 ^ σ.1.2.1) : ∀ (f d s : Nat) (M : mz_M), zP M0 σ M → d + f = σ.1.2.1 → 1 ≤ d → ∃ M', mq_G mq_X10_complete (19, [some (.ref 77), some (.int (nI a)), some (.int (nI s)), some (.int (nI d))], [], M) (some (.int (nI (zcmp σ.1.1 σ.1.2.1 a f d s))), M') ∧ zP M0 σ M'
  | 0, d, s, M, h, hd, h1 => by
    have h8 := h.g.2.1
    refine ⟨M, t_X10_complete_19 _ _ _ _ ⟨fun _ => rfl, fun c => absurd ?_ c⟩, h⟩
    rw [h.F.2.2.1, zn_le (by omega) (by omega)]
    omega
  | f + 1, d, s, M, h, hd, h1 => by
    have h8 := h.g.2.1
    obtain ⟨g, hc⟩ := h.c
    have hge : ¬ (M.1 77 11 ≤ nI d) := by
      rw [h.F.2.2.1, zn_le (by omega) (by omega)]
      omega
    unfold zcmp
    by_cases hp : zpt σ.1.2.1 (nI d) = true
    · rw [if_pos hp]
      obtain ⟨d', q1, q2, q3, q4, q5⟩ := h.ptn hp
      obtain rfl := (zn_eq (by omega) (by omega)).mp q5
      obtain ⟨M1, n1, n2⟩ := s_X10_isNormalOver ha q1 q2 q4 (zsub_len h.g hc q1 q2 q4) h.F
      have h2 := h.k n2 (by decide)
      by_cases hn : znov σ.1.1 σ.1.2.1 a d = true
      · rw [if_pos hn]
        obtain ⟨M', k1, k2⟩ := c_X10_complete_19 ha f (d + 1) (s ||| 2 ^ d) M1 h2 (by omega) (by omega)
        refine ⟨M', t_X10_complete_19 _ _ _ _ ⟨fun c => absurd c hge, fun _ => ⟨1, h.pt1 hp, fun c => absurd c z10, fun _ => ⟨_, M1, n1, fun c => ?_, fun _ => ?_⟩⟩⟩, k2⟩
        · rw [show @decide (ind (zno σ.1.1 σ.1.2.1 a d) σ.1.2.1) (Classical.propDecidable _) = true from hn] at c
          exact absurd c z10
        · rw [zone_shl (by omega), zn_or, nI_1]
          exact k1
      · rw [if_neg hn]
        obtain ⟨M', k1, k2⟩ := c_X10_complete_19 ha f (d + 1) s M1 h2 (by omega) (by omega)
        refine ⟨M', t_X10_complete_19 _ _ _ _ ⟨fun c => absurd c hge, fun _ => ⟨1, h.pt1 hp, fun c => absurd c z10, fun _ => ⟨_, M1, n1, fun _ => ?_, fun c => ?_⟩⟩⟩, k2⟩
        · rw [zor0, nI_1]
          exact k1
        · rw [show @decide (ind (zno σ.1.1 σ.1.2.1 a d) σ.1.2.1) (Classical.propDecidable _) = false by simpa [znov] using hn] at c
          exact absurd rfl c
    · rw [if_neg hp]
      obtain ⟨M', k1, k2⟩ := c_X10_complete_19 ha f (d + 1) s M h (by omega) (by omega)
      refine ⟨M', t_X10_complete_19 _ _ _ _ ⟨fun c => absurd c hge, fun _ => ⟨0, h.pt0 hp, fun _ => ?_, fun c => absurd rfl c⟩⟩, k2⟩
      rw [zor0, nI_1]
      exact k1
theorem c_X10_complete (h : zP M0 σ M) (x : Int32) : zA M0 mq_X10_complete [.ref 77, .int x] M (k_complete σ x) := by
  obtain ⟨M1, eM, h1, -⟩ := h.thr
  have hq := h.q
  have h2 := h.g.1
  by_cases he : zel (2 ^ σ.1.2.1) x = true
  · simp only [zA, k_complete, he, if_true]
    obtain ⟨a, ha, rfl⟩ := h1.en he
    rw [zu_nI (by omega)]
    obtain ⟨M', k1, k2⟩ := c_X10_complete_19 ha (σ.1.2.1 - 1) 1 0 M1 h1 (by omega) (by omega)
    refine ⟨M', t_X10_complete_0 _ _ (fun M2 e2 => ?_), k2⟩
    obtain rfl := e2.trans eM
    exact ⟨1, h1.el1 he, fun _ => k1, fun c => absurd z10 c⟩
  · simp only [zA, k_complete, he]
    refine ⟨M1, t_X10_complete_0 _ _ (fun M2 e2 => ?_), h1⟩
    obtain rfl := e2.trans eM
    exact ⟨0, h1.el0 he, fun c => absurd rfl c, fun _ => rfl⟩
end ZC3
