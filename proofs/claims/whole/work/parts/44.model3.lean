/-! runs of the reference: conjugates and powers laid down, coordinates, complexities -/
def zrow (M : mz_M) (c n : Nat) (v : Nat → Nat) : Prop := ∀ j, j < n → M.1 c j = nI (v j)
theorem zF.k {P m : Nat} {M M' : mz_M} {S : List Nat} (h : zF P m M) (hk : zK S M M') (h7 : 77 ∉ S) (h8 : 78 ∉ S) : zF P m M' := ⟨h.1, by rw [hk.2 78 h8]; exact h.2.1, by rw [hk.2 77 h7]; exact h.2.2.1, by rw [hk.2 77 h7]; exact h.2.2.2⟩
theorem zrow.k {M M' : mz_M} {c n : Nat} {v : Nat → Nat} {S : List Nat} (h : zrow M c n v) (hk : zK S M M') (hc : c ∉ S) : zrow M' c n v := fun j hj => by rw [hk.2 c hc]; exact h j hj
theorem zrow.put {M : mz_M} {c n : Nat} {v : Nat → Nat} (h : zrow M c n v) : zrow (mz_wr M c (upd (M.1 c) n (nI (v n)))) c (n + 1) v := fun j hj => by
  rw [zwr_s]
  by_cases e : j = n
  · rw [e, zupd_s]
  · rw [zupd_n e]; exact h j (by omega)
theorem s_X10_takesConjugates_2 {P m a : Nat} (ha : a < 2 ^ m) : ∀ (f i : Nat) (M : mz_M), i + f = m → zF P m M → zrow M 84 i (cj P m a) → ∃ M', mq_G mq_X10_takesConjugates (2, [some (.ref 77), some (.int (nI a)), some (.int (nI i))], [], M) (none, M') ∧ zK [84] M M' ∧ zrow M' 84 m (cj P m a)
  | 0, i, M, hi, hF, hr => by
    obtain rfl : i = m := by omega
    have h8 := hF.1.2.1
    refine ⟨M, t_X10_takesConjugates_2 _ _ _ ⟨fun _ => rfl, fun c => absurd ?_ c⟩, zK.rf _ _, hr⟩
    rw [hF.2.2.1, zn_le (by omega) (by omega)]
    exact Nat.le_refl _
  | f + 1, i, M, hi, hF, hr => by
    have h8 := hF.1.2.1
    have hk : zK [84] M (mz_wr M 84 (upd (M.1 84) i (nI (cj P m a i)))) := zK.wr (by simp)
    obtain ⟨M', g1, g2, g3⟩ := s_X10_takesConjugates_2 ha f (i + 1) _ (by omega) (hF.k hk (by decide) (by decide)) hr.put
    refine ⟨M', t_X10_takesConjugates_2 _ _ _ ⟨fun c => ?_, fun _ => ⟨_, s_X10_conj hF ha (by omega), zn_in (by omega) (by decide), fun M3 e3 => ?_⟩⟩, hk.tr g2, g3⟩
    · rw [hF.2.2.1, zn_le (by omega) (by omega)] at c
      omega
    · rw [e3, zn_cl (by omega), nI_1]
      exact g1
theorem s_X10_takesConjugates {P m a : Nat} {M : mz_M} (hF : zF P m M) (ha : a < 2 ^ m) : ∃ M', mq_C mq_X10_takesConjugates [.ref 77, .int (nI a)] M (none, M') ∧ zK [84] M M' ∧ zrow M' 84 m (cj P m a) := by
  obtain ⟨M', g1, g2, g3⟩ := s_X10_takesConjugates_2 ha m 0 M (by omega) hF (fun j hj => absurd hj (by omega))
  exact ⟨M', t_X10_takesConjugates_0 _ _ g1, g2, g3⟩
/-- NORMAL -/
noncomputable def znor (P m a : Nat) : Bool := @decide (ind (cj P m a) m) (Classical.propDecidable _)
theorem znor_iff {P m a : Nat} : znor P m a = true ↔ ind (cj P m a) m := by
  unfold znor
  exact @decide_eq_true_iff _ (Classical.propDecidable _)
theorem znor_f {P m a : Nat} : znor P m a = false ↔ ¬ ind (cj P m a) m := by
  unfold znor
  exact @decide_eq_false_iff_not _ (Classical.propDecidable _)
theorem s_X10_isNormal {P m a : Nat} {M : mz_M} (hF : zF P m M) (ha : a < 2 ^ m) : ∃ M', mq_C mq_X10_isNormal [.ref 77, .int (nI a)] M (some (.int (zB (znor P m a))), M') ∧ zK [84, 85] M M' ∧ zrow M' 84 m (cj P m a) := by
  have h8 := hF.1.2.1
  obtain ⟨M1, g1, g2, g3⟩ := s_X10_takesConjugates hF ha
  have hF1 := hF.k g2 (by decide) (by decide)
  obtain ⟨M2, r1, r2⟩ := s_X10_rank h8 M1 (v := cj P m a) (fun j hj => ⟨g3 j hj, z256 h8 (cj_lt hF.1 ha j)⟩)
  have hF2 := hF1.k r2 (by decide) (by decide)
  refine ⟨M2, t_X10_isNormal_0 _ _ ⟨M1, g1, nI (rk (cj P m a) m), M2, by rw [hF1.2.2.1]; exact r1, fun c => ?_, fun c => ?_⟩, (g2.sub (by decide)).tr (r2.sub (by decide)), g3.k r2 (by decide)⟩
  · rw [hF2.2.2.1, zn_eq (by have := rk_le (cj P m a) m; omega) (by omega), rk_ind] at c
    rw [znor_f.mpr c]
    rfl
  · rw [hF2.2.2.1, zn_eq (by have := rk_le (cj P m a) m; omega) (by omega), rk_ind] at c
    rw [znor_iff.mpr (Classical.not_not.mp c)]
    rfl
theorem s_X10_takesPowers_2 {P m a : Nat} (ha : a < 2 ^ m) : ∀ (f i : Nat) (M : mz_M), i + f = m → zF P m M → zrow M 84 i (fpw P m a) → ∃ M', mq_G mq_X10_takesPowers (2, [some (.ref 77), some (.int (nI a)), some (.int (nI i))], [], M) (some (.int (zB (@decide (ind (fpw P m a) m) (Classical.propDecidable _)))), M') ∧ zK [84, 85] M M' ∧ zrow M' 84 m (fpw P m a)
  | 0, i, M, hi, hF, hr => by
    obtain rfl : i = m := by omega
    have h8 := hF.1.2.1
    obtain ⟨M2, r1, r2⟩ := s_X10_rank h8 M (v := fpw P i a) (fun j hj => ⟨hr j hj, z256 h8 (fpw_lt hF.1 ha j)⟩)
    have hF2 := hF.k r2 (by decide) (by decide)
    refine ⟨M2, t_X10_takesPowers_2 _ _ _ ⟨fun _ => ⟨nI (rk (fpw P i a) i), M2, by rw [hF.2.2.1]; exact r1, fun c => ?_, fun c => ?_⟩, fun c => absurd ?_ c⟩, r2.sub (by decide), hr.k r2 (by decide)⟩
    · rw [hF2.2.2.1, zn_eq (by have := rk_le (fpw P i a) i; omega) (by omega), rk_ind] at c
      rw [(@decide_eq_false_iff_not _ (Classical.propDecidable _)).mpr c]
      rfl
    · rw [hF2.2.2.1, zn_eq (by have := rk_le (fpw P i a) i; omega) (by omega), rk_ind] at c
      rw [(@decide_eq_true_iff _ (Classical.propDecidable _)).mpr (Classical.not_not.mp c)]
      rfl
    · rw [hF.2.2.1, zn_le (by omega) (by omega)]
      exact Nat.le_refl _
  | f + 1, i, M, hi, hF, hr => by
    have h8 := hF.1.2.1
    have hk : zK [84, 85] M (mz_wr M 84 (upd (M.1 84) i (nI (fpw P m a i)))) := zK.wr (by simp)
    obtain ⟨M', g1, g2, g3⟩ := s_X10_takesPowers_2 ha f (i + 1) _ (by omega) (hF.k hk (by decide) (by decide)) hr.put
    refine ⟨M', t_X10_takesPowers_2 _ _ _ ⟨fun c => ?_, fun _ => ⟨_, s_X10_powered hF ha (by omega), zn_in (by omega) (by decide), fun M3 e3 => ?_⟩⟩, hk.tr g2, g3⟩
    · rw [hF.2.2.1, zn_le (by omega) (by omega)] at c
      omega
    · rw [e3, zn_cl (by omega), nI_1]
      exact g1
theorem s_X10_takesPowers {P m a : Nat} {M : mz_M} (hF : zF P m M) (ha : a < 2 ^ m) : ∃ M', mq_C mq_X10_takesPowers [.ref 77, .int (nI a)] M (some (.int (zB (@decide (ind (fpw P m a) m) (Classical.propDecidable _)))), M') ∧ zK [84, 85] M M' ∧ zrow M' 84 m (fpw P m a) := by
  obtain ⟨M', g1, g2, g3⟩ := s_X10_takesPowers_2 ha m 0 M (by omega) hF (fun j hj => absurd hj (by omega))
  exact ⟨M', t_X10_takesPowers_0 _ _ g1, g2, g3⟩
/-- a BASE -/
def zbas (m : Nat) (v : Nat → Nat) : Prop := ind v m ∧ ∀ i, i < m → v i < 2 ^ m
/-- COORDINATES -/
noncomputable def crd (v : Nat → Nat) (m e : Nat) : Nat := @dite Nat (∃ c, c < 2 ^ m ∧ zcb v m c = e) (Classical.propDecidable _) (fun h => Classical.choose h) (fun _ => 0)
theorem crd_of {v : Nat → Nat} {m c : Nat} (h : zbas m v) (hc : c < 2 ^ m) : crd v m (zcb v m c) = c := by
  have hx : ∃ d, d < 2 ^ m ∧ zcb v m d = zcb v m c := ⟨c, hc, rfl⟩
  unfold crd
  rw [dif_pos hx]
  obtain ⟨h1, h2⟩ := Classical.choose_spec hx
  exact ind_inj h.1 h1 hc h2
theorem crd_lt {v : Nat → Nat} {m e : Nat} : crd v m e < 2 ^ m := by
  unfold crd
  split
  · next h => exact (Classical.choose_spec h).1
  · exact Nat.two_pow_pos m
theorem crd_in {v : Nat → Nat} {m e : Nat} (h : zbas m v) (he : e < 2 ^ m) : zcb v m (crd v m e) = e := by
  obtain ⟨c, hc, rfl⟩ := ind_all h.1 h.2 he
  rw [crd_of h hc]
theorem s_X10_madeOf_4 {P m c : Nat} {v : Nat → Nat} {M : mz_M} (hF : zF P m M) (hr : zrow M 87 m v) (hc : c < 2 ^ m) : ∀ (f i : Nat), i + f = m → mq_G mq_X10_madeOf (4, [some (.ref 77), some (.int (nI c)), some (.int (nI (zcb v i c))), some (.int (nI i))], [], M) (some (.int (nI (zcb v m c))), M)
  | 0, i, hi => by
    obtain rfl : i = m := by omega
    have h8 := hF.1.2.1
    refine t_X10_madeOf_4 _ _ _ _ ⟨fun _ => rfl, fun c => absurd ?_ c⟩
    rw [hF.2.2.1, zn_le (by omega) (by omega)]
    exact Nat.le_refl _
  | f + 1, i, hi => by
    have h8 := hF.1.2.1
    have ih := s_X10_madeOf_4 hF hr hc f (i + 1) (by omega)
    refine t_X10_madeOf_4 _ _ _ _ ⟨fun c => ?_, fun _ => ⟨fun q => ?_, fun q => ⟨zn_in (by omega) (by decide), ?_⟩⟩⟩
    · rw [hF.2.2.1, zn_le (by omega) (by omega)] at c
      omega
    · rw [zn_bit1 (z31 h8 hc) (by omega)] at q
      have e2 : zcb v (i + 1) c = zcb v i c := by simp [zcb, zbit_f q]
      rw [e2] at ih
      rw [show (0 : Int32) = nI 0 from rfl, zn_xor, Nat.xor_zero, nI_1]
      exact ih
    · rw [zn_bit1 (z31 h8 hc) (by omega)] at q
      have e2 : zcb v (i + 1) c = zcb v i c ^^^ v i := by simp [zcb, zbit_t (Decidable.not_not.mp q)]
      rw [e2] at ih
      rw [zn_cl (by omega), hr i (by omega), zn_xor, nI_1]
      exact ih
theorem s_X10_madeOf {P m c : Nat} {v : Nat → Nat} {M : mz_M} (hF : zF P m M) (hr : zrow M 87 m v) (hc : c < 2 ^ m) : mq_C mq_X10_madeOf [.ref 77, .int (nI c)] M (some (.int (nI (zcb v m c))), M) :=
  t_X10_madeOf_0 _ _ (s_X10_madeOf_4 hF hr hc m 0 (by omega))
theorem s_X10_laysCoordinates_2 {P m : Nat} {v : Nat → Nat} (hb : zbas m v) : ∀ (f k : Nat) (M : mz_M), k + f = 2 ^ m → zF P m M → zrow M 87 m v → (∀ c, c < k → M.1 88 (zcb v m c) = nI c) → ∃ M', mq_G mq_X10_laysCoordinates (2, [some (.ref 77), some (.int (nI k))], [], M) (none, M') ∧ zK [88] M M' ∧ ∀ c, c < 2 ^ m → M'.1 88 (zcb v m c) = nI c
  | 0, k, M, hk, hF, hr, hc => by
    have hq := zq256 hF.1.2.1
    refine ⟨M, t_X10_laysCoordinates_2 _ _ ⟨fun _ => rfl, fun c => absurd ?_ c⟩, zK.rf _ _, fun c h => hc c (by omega)⟩
    rw [hF.2.2.2, zn_le (by omega) (by omega)]
    omega
  | f + 1, k, M, hk, hF, hr, hc => by
    have hq := zq256 hF.1.2.1
    have hl := zcb_lt hb.2 k
    have hK : zK [88] M (mz_wr M 88 (upd (M.1 88) (zcb v m k) (nI k))) := zK.wr (by simp)
    obtain ⟨M', g1, g2, g3⟩ := s_X10_laysCoordinates_2 hb f (k + 1) _ (by omega) (hF.k hK (by decide) (by decide)) (hr.k hK (by decide)) (fun c h => by
      rw [zwr_s]
      by_cases e : c = k
      · subst e; rw [zupd_s]
      · rw [zupd_n (fun q => e (ind_inj hb.1 (by omega) (by omega) q))]
        exact hc c (by omega))
    refine ⟨M', t_X10_laysCoordinates_2 _ _ ⟨fun c => ?_, fun _ => ⟨_, s_X10_madeOf hF hr (by omega), zn_in (by omega) (by decide), fun M3 e3 => ?_⟩⟩, hK.tr g2, g3⟩
    · rw [hF.2.2.2, zn_le (by omega) (by omega)] at c
      omega
    · rw [e3, zn_cl (by omega), nI_1]
      exact g1
/-- the reference looks at a base: base and coordOf hold it -/
def zlk (m : Nat) (v : Nat → Nat) (M : mz_M) : Prop := zbas m v ∧ zrow M 87 m v ∧ zrow M 88 (2 ^ m) (crd v m)
theorem zlk.k {m : Nat} {v : Nat → Nat} {M M' : mz_M} {S : List Nat} (h : zlk m v M) (hk : zK S M M') (h7 : 87 ∉ S) (h8 : 88 ∉ S) : zlk m v M' := ⟨h.1, h.2.1.k hk h7, h.2.2.k hk h8⟩
theorem s_X10_laysCoordinates {P m : Nat} {v : Nat → Nat} {M : mz_M} (hb : zbas m v) (hF : zF P m M) (hr : zrow M 87 m v) : ∃ M', mq_C mq_X10_laysCoordinates [.ref 77] M (none, M') ∧ zK [88] M M' ∧ zlk m v M' := by
  obtain ⟨M', g1, g2, g3⟩ := s_X10_laysCoordinates_2 hb (2 ^ m) 0 M (by omega) hF hr (fun c h => absurd h (by omega))
  refine ⟨M', t_X10_laysCoordinates_0 _ g1, g2, hb, hr.k g2 (by decide), fun e he => ?_⟩
  have h1 := g3 (crd v m e) crd_lt
  rw [crd_in hb he] at h1
  exact h1
theorem s_X10_baseAt (M : mz_M) {s i : Nat} (hs : s < 4) (hi : i < 8) : mq_C mq_X10_baseAt [.ref 77, .int (nI s), .int (nI i)] M (some (.int (M.1 78 (1 + 8 * s + i))), M) := by
  have e : ((1 : Int32) + 8 * nI s) + nI i = nI (1 + 8 * s + i) := by
    rw [show (8 : Int32) = nI 8 from rfl, pk_mul, show (1 : Int32) = nI 1 from rfl, nI_add, nI_add]
  refine t_X10_baseAt_0 _ _ _ ⟨?_, ?_⟩
  · rw [e]; exact zn_in (by omega) (by decide)
  · rw [e, zn_cl (by omega)]
/-- the base that a slot of the reference holds -/
def zsl (m s : Nat) (v : Nat → Nat) (M : mz_M) : Prop := ∀ i, i < m → M.1 78 (1 + 8 * s + i) = nI (v i)
theorem s_X10_looksAt_2 {P m s : Nat} {v : Nat → Nat} (hb : zbas m v) (hs : s < 4) : ∀ (f i : Nat) (M : mz_M), i + f = m → zF P m M → zsl m s v M → zrow M 87 i v → ∃ M', mq_G mq_X10_looksAt (2, [some (.ref 77), some (.int (nI s)), some (.int (nI i))], [], M) (none, M') ∧ zK [87, 88] M M' ∧ zlk m v M'
  | 0, i, M, hi, hF, hv, hr => by
    obtain rfl : i = m := by omega
    have h8 := hF.1.2.1
    obtain ⟨M', g1, g2, g3⟩ := s_X10_laysCoordinates hb hF hr
    refine ⟨M', t_X10_looksAt_2 _ _ _ ⟨fun _ => ⟨M', g1, rfl⟩, fun c => absurd ?_ c⟩, g2.sub (by decide), g3⟩
    rw [hF.2.2.1, zn_le (by omega) (by omega)]
    exact Nat.le_refl _
  | f + 1, i, M, hi, hF, hv, hr => by
    have h8 := hF.1.2.1
    have hk : zK [87, 88] M (mz_wr M 87 (upd (M.1 87) i (nI (v i)))) := zK.wr (by simp)
    obtain ⟨M', g1, g2, g3⟩ := s_X10_looksAt_2 hb hs f (i + 1) _ (by omega) (hF.k hk (by decide) (by decide)) (fun j hj => by rw [hk.2 78 (by decide)]; exact hv j hj) hr.put
    refine ⟨M', t_X10_looksAt_2 _ _ _ ⟨fun c => ?_, fun _ => ⟨_, s_X10_baseAt M hs (by omega), zn_in (by omega) (by decide), fun M3 e3 => ?_⟩⟩, hk.tr g2, g3⟩
    · rw [hF.2.2.1, zn_le (by omega) (by omega)] at c
      omega
    · rw [e3, zn_cl (by omega), nI_1, hv i (by omega)]
      exact g1
theorem s_X10_looksAt {P m s : Nat} {v : Nat → Nat} {M : mz_M} (hb : zbas m v) (hs : s < 4) (hF : zF P m M) (hv : zsl m s v M) : ∃ M', mq_C mq_X10_looksAt [.ref 77, .int (nI s)] M (none, M') ∧ zK [87, 88] M M' ∧ zlk m v M' := by
  obtain ⟨M', g1, g2, g3⟩ := s_X10_looksAt_2 hb hs m 0 M (by omega) hF hv (fun j hj => absurd hj (by omega))
  exact ⟨M', t_X10_looksAt_0 _ _ g1, g2, g3⟩
theorem s_X10_someIsBase_2 {P m : Nat} {v : Nat → Nat} (hb : zbas m v) : ∀ (f i : Nat) (M : mz_M), i + f = m → zF P m M → zrow M 84 m v → zrow M 87 i v → ∃ M', mq_G mq_X10_someIsBase (2, [some (.ref 77), some (.int (nI i))], [], M) (none, M') ∧ zK [87, 88] M M' ∧ zlk m v M'
  | 0, i, M, hi, hF, hv, hr => by
    obtain rfl : i = m := by omega
    have h8 := hF.1.2.1
    obtain ⟨M', g1, g2, g3⟩ := s_X10_laysCoordinates hb hF hr
    refine ⟨M', t_X10_someIsBase_2 _ _ ⟨fun _ => ⟨M', g1, rfl⟩, fun c => absurd ?_ c⟩, g2.sub (by decide), g3⟩
    rw [hF.2.2.1, zn_le (by omega) (by omega)]
    exact Nat.le_refl _
  | f + 1, i, M, hi, hF, hv, hr => by
    have h8 := hF.1.2.1
    have hk : zK [87, 88] M (mz_wr M 87 (upd (M.1 87) i (nI (v i)))) := zK.wr (by simp)
    obtain ⟨M', g1, g2, g3⟩ := s_X10_someIsBase_2 hb f (i + 1) _ (by omega) (hF.k hk (by decide) (by decide)) (hv.k hk (by decide)) hr.put
    refine ⟨M', t_X10_someIsBase_2 _ _ ⟨fun c => ?_, fun _ => ⟨zn_in (by omega) (by decide), zn_in (by omega) (by decide), fun M3 e3 => ?_⟩⟩, hk.tr g2, g3⟩
    · rw [hF.2.2.1, zn_le (by omega) (by omega)] at c
      omega
    · rw [e3, zn_cl (by omega), nI_1, hv i (by omega)]
      exact g1
theorem s_X10_someIsBase {P m : Nat} {v : Nat → Nat} {M : mz_M} (hb : zbas m v) (hF : zF P m M) (hv : zrow M 84 m v) : ∃ M', mq_C mq_X10_someIsBase [.ref 77] M (none, M') ∧ zK [87, 88] M M' ∧ zlk m v M' := by
  obtain ⟨M', g1, g2, g3⟩ := s_X10_someIsBase_2 hb m 0 M (by omega) hF hv (fun j hj => absurd hj (by omega))
  exact ⟨M', t_X10_someIsBase_0 _ g1, g2, g3⟩
/-- a sum -/
def zs (f : Nat → Nat) : Nat → Nat
  | 0 => 0
  | n + 1 => zs f n + f n
/-- bits of TABLE at two places -/
noncomputable def ztb (P m : Nat) (v : Nat → Nat) (i j : Nat) : Nat := zpop 10 (crd v m (fm P m (v i) (v j)))
theorem s_X10_complexityNow_4 {P m : Nat} {v : Nat → Nat} {M : mz_M} (hF : zF P m M) (hL : zlk m v M) : ∀ (f j : Nat), j + f = m → mq_G mq_X10_complexityNow (4, [some (.ref 77), some (.int (nI (zs (ztb P m v 0) j))), some (.int (nI j))], [], M) (some (.int (nI (zs (ztb P m v 0) m))), M)
  | 0, j, hj => by
    obtain rfl : j = m := by omega
    have h8 := hF.1.2.1
    refine t_X10_complexityNow_4 _ _ _ ⟨fun _ => rfl, fun c => absurd ?_ c⟩
    rw [hF.2.2.1, zn_le (by omega) (by omega)]
    exact Nat.le_refl _
  | f + 1, j, hj => by
    have h8 := hF.1.2.1
    have h2 := hF.1.1
    have hq := zq256 h8
    have ih := s_X10_complexityNow_4 hF hL f (j + 1) (by omega)
    have hl := fm_lt hF.1 (b := v j) (hL.1.2 0 (by omega))
    have hc := crd_lt (v := v) (m := m) (e := fm P m (v 0) (v j))
    refine t_X10_complexityNow_4 _ _ _ ⟨fun c => ?_, fun _ => ⟨zn_in (a := 0) (by decide) (by decide), zn_in (by omega) (by decide), nI (fm P m (v 0) (v j)), ?_, zn_in (by omega) (by decide), nI (ztb P m v 0 j), ?_, ?_⟩⟩
    · rw [hF.2.2.1, zn_le (by omega) (by omega)] at c
      omega
    · rw [zn_cl (by omega), hL.2.1 j (by omega)]
      show mq_C mq_X10_times [.ref 77, .int (M.1 87 0), .int (nI (v j))] M _
      rw [hL.2.1 0 (by omega)]
      exact s_X10_times M hF.1 hF.2.1 (hL.1.2 0 (by omega)) (hL.1.2 j (by omega))
    · rw [zn_cl (by omega), hL.2.2 _ hl]
      exact s_X10_bits M (by omega)
    · rw [nI_add, nI_1]
      exact ih
theorem s_X10_complexityNow {P m : Nat} {v : Nat → Nat} {M : mz_M} (hF : zF P m M) (hL : zlk m v M) : mq_C mq_X10_complexityNow [.ref 77] M (some (.int (nI (zs (ztb P m v 0) m))), M) :=
  t_X10_complexityNow_0 _ (s_X10_complexityNow_4 hF hL m 0 (by omega))
