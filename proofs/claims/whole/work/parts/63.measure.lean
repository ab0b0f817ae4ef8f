/-! the class: what is asked of rows of elements -/
section MS
variable {P m a b : Nat} {M M' : mz_M}
theorem zCF.g (h : zCF P m M) : fgood P m := by obtain ⟨g, T, h1, h2, h3⟩ := h; exact h1.1
theorem zCF.c (h : zCF P m M) : ∃ g, fcy P m g := by obtain ⟨g, T, h1, h2, h3⟩ := h; exact ⟨g, h1.2.1⟩
theorem zCF.m0 (h : zCF P m M) : M.1 2 0 = nI P := by obtain ⟨g, T, h1, h2, h3⟩ := h; exact h1.2.2.1
theorem zCF.m1 (h : zCF P m M) : M.1 2 1 = nI m := by obtain ⟨g, T, h1, h2, h3⟩ := h; exact h1.2.2.2.1
theorem zCF.m2 (h : zCF P m M) : M.1 2 2 = nI (2 ^ m) := by obtain ⟨g, T, h1, h2, h3⟩ := h; exact h1.2.2.2.2.1
theorem zCF.t (h : zCF P m M) (ha : a < 2 ^ m) (hb : b < 2 ^ m) : mq_C mq_X0_times [.ref 2, .int (nI a), .int (nI b)] M (some (.int (nI (fm P m a b))), M) := by obtain ⟨g, T, h1, h2, h3⟩ := h; exact s_X0_times h1 ha hb
theorem zCF.sq (h : zCF P m M) (ha : a < 2 ^ m) {k : Nat} (hk : k < 2 ^ 31) : mq_C mq_X0_squared [.ref 2, .int (nI a), .int (nI k)] M (some (.int (nI (cj P m a k))), M) := by obtain ⟨g, T, h1, h2, h3⟩ := h; exact s_X0_squared h1 ha hk
theorem zCF.to (h : zCF P m M) (ha : a < 2 ^ m) : mq_C mq_X0_tracedToOne [.ref 2, .int (nI a)] M (some (.int (nI (zT P m a))), M) := by obtain ⟨g, T, h1, h2, h3⟩ := h; exact s_X0_tracedToOne h1 h2 h3 ha
theorem zCF.fp (h : zCF P m M) (ha : a < 2 ^ m) (hb : zar b) (h2 : ¬ b = 2) (h3 : ¬ b = 3) (h4 : ¬ b = 4) : ∃ M', mq_C mq_X0_fillsPowers [.ref 2, .ref b, .int (nI a)] M (none, M') ∧ zK [b] M M' ∧ zrow M' b m (fpw P m a) := by obtain ⟨g, T, h1, -⟩ := h; exact s_X0_fillsPowers h1 ha hb h2 h3 h4
theorem zCF.fc (h : zCF P m M) (ha : a < 2 ^ m) (hb : zar b) (h2 : ¬ b = 2) (h3 : ¬ b = 3) (h4 : ¬ b = 4) : ∃ M', mq_C mq_X0_fillsConjugates [.ref 2, .ref b, .int (nI a)] M (none, M') ∧ zK [b] M M' ∧ zrow M' b m (cj P m a) := by obtain ⟨g, T, h1, -⟩ := h; exact s_X0_fillsConjugates h1 ha hb h2 h3 h4
theorem z0cl : (0 : Int32).toNatClampNeg = 0 := rfl
theorem yin0 {n : Nat} (h : 0 < n) (hn : n < 2 ^ 31) : vp_in 0 n := zn_in (a := 0) h hn
theorem zpop256 {n : Nat} (h8 : m ≤ 8) (h : n < 2 ^ m) : n < 256 := z256 h8 h
theorem s_X2_bitsOfFirst_4 {v : Nat → Nat} (h : zCF P m M) (hb : zbas m v) (ha : zar b) (hr : zrow M b m v) (hF : zfr v m M) : ∀ (f j : Nat), j + f = m → mq_G mq_X2_bitsOfFirst (4, [some (.ref 1), some (.ref b), some (.int (nI (zs (ztb P m v 0) j))), some (.int (nI j))], [], M) (some (.int (nI (zs (ztb P m v 0) m))), M)
  | 0, j, hj => by
    have h8 := h.g.2.1
    obtain rfl : j = m := by omega
    refine t_X2_bitsOfFirst_4 _ _ _ _ ⟨fun _ => rfl, fun c => absurd ?_ c⟩
    rw [h.m1, zn_le (by omega) (by omega)]
    exact Nat.le_refl _
  | f + 1, j, hj => by
    have h8 := h.g.2.1
    have h2 := h.g.1
    have hl := fm_lt h.g (hb.2 0 (by omega)) (b := v j)
    refine t_X2_bitsOfFirst_4 _ _ _ _ ⟨fun c => ?_, fun _ => ⟨ha, yin0 (by decide) (by decide), ha, zn_in (by omega) (by decide), nI (fm P m (v 0) (v j)), ?_, nI (crd v m (fm P m (v 0) (v j))), s_located hF hb h8 hl, _, s_bitCount M (z256 h8 crd_lt), ?_⟩⟩
    · rw [h.m1, zn_le (by omega) (by omega)] at c
      omega
    · rw [z0cl, zn_cl (by omega), hr 0 (by omega), hr j (by omega)]
      exact h.t (hb.2 0 (by omega)) (hb.2 j (by omega))
    · rw [nI_add, nI_1]
      exact s_X2_bitsOfFirst_4 h hb ha hr hF f (j + 1) (by omega)
theorem s_X2_bitsOfFirst {v : Nat → Nat} (h : zCF P m M) (hb : zbas m v) (ha : zar b) (hr : zrow M b m v) (hF : zfr v m M) : mq_C mq_X2_bitsOfFirst [.ref 1, .ref b] M (some (.int (nI (zs (ztb P m v 0) m))), M) :=
  t_X2_bitsOfFirst_0 _ _ (s_X2_bitsOfFirst_4 h hb ha hr hF m 0 (by omega))
theorem s_X2_complexityOf {v : Nat → Nat} (h : zCF P m M) (hb : zbas m v) (ha : zar b) (hb5 : b ∉ [5, 6, 7]) (hr : zrow M b m v) : ∃ M', mq_C mq_X2_complexityOf [.ref 1, .ref b] M (some (.int (nI (zs (ztb P m v 0) m))), M') ∧ zK [5, 6, 7] M M' ∧ zfr v m M' := by
  have h8 := h.g.2.1
  obtain ⟨M1, g1, g2, g3⟩ := s_X1_holds h8 ha hb5 (fun j hj => z256 h8 (hb.2 j hj)) hr
  have h1 := h.k g2 (by decide) (by decide) (by decide)
  exact ⟨M1, t_X2_complexityOf_0 _ _ ⟨_, M1, by rw [h.m1]; exact g1, _, s_X2_bitsOfFirst h1 hb ha (hr.k g2 hb5) g3, rfl⟩, g2, g3⟩
/-- WEIGHT, summed the other way -/
theorem zwt_sw (T : Nat → Nat → Nat) : ∀ m, zs (fun i => zs (fun k => T i (i + k)) (m - i)) m = zs (fun j => zs (fun i => T i j) (j + 1)) m := by
  have ext : ∀ (f h : Nat → Nat) n, (∀ i, i < n → f i = h i) → zs f n = zs h n := by
    intro f h n
    induction n with
    | zero => intro _; rfl
    | succ n ih =>
      intro e
      show zs f n + f n = zs h n + h n
      rw [ih (fun i hi => e i (by omega)), e n (by omega)]
  have add : ∀ (f h : Nat → Nat) n, zs (fun i => f i + h i) n = zs f n + zs h n := by
    intro f h n
    induction n with
    | zero => rfl
    | succ n ih =>
      show zs (fun i => f i + h i) n + (f n + h n) = (zs f n + f n) + (zs h n + h n)
      rw [ih]
      omega
  intro m
  induction m with
  | zero => rfl
  | succ m ih =>
    show zs (fun i => zs (fun k => T i (i + k)) (m + 1 - i)) m + zs (fun k => T m (m + k)) (m + 1 - m) = zs (fun j => zs (fun i => T i j) (j + 1)) m + zs (fun i => T i m) (m + 1)
    rw [ext (fun i => zs (fun k => T i (i + k)) (m + 1 - i)) (fun i => zs (fun k => T i (i + k)) (m - i) + T i m) m (fun i hi => by
      rw [show m + 1 - i = (m - i) + 1 by omega]
      show zs _ (m - i) + T i (i + (m - i)) = _
      rw [show i + (m - i) = m by omega]), add, ih, show m + 1 - m = 1 by omega]
    show _ + zs (fun i => T i m) m + (0 + T m (m + 0)) = _ + (zs (fun i => T i m) m + T m m)
    rw [Nat.add_zero]
    omega
theorem s_X2_bitsOfAll_18 {v : Nat → Nat} {j : Nat} (h : zCF P m M) (hb : zbas m v) (ha : zar b) (hr : zrow M b m v) (hF : zfr v m M) (hj : j < m) (A : Nat) {res : mz_O} (kk : ∀ o : Option Value, mq_G mq_X2_bitsOfAll (4, [some (.ref 1), some (.ref b), some (.int (nI (A + zs (fun i => ztb P m v i j) (j + 1)))), some (.int (nI (j + 1))), o], [], M) res) : ∀ (f i : Nat), i + f = j + 1 → mq_G mq_X2_bitsOfAll (18, [some (.ref 1), some (.ref b), some (.int (nI (A + zs (fun i => ztb P m v i j) i))), some (.int (nI j)), some (.int (nI i))], [], M) res
  | 0, i, hi => by
    have h8 := h.g.2.1
    obtain rfl : i = j + 1 := by omega
    refine t_X2_bitsOfAll_18 _ _ _ _ _ ⟨fun _ => by rw [nI_1]; exact kk _, fun c => absurd ?_ c⟩
    rw [zn_lt (by omega) (by omega)]
    omega
  | f + 1, i, hi => by
    have h8 := h.g.2.1
    have hl := fm_lt h.g (hb.2 i (by omega)) (b := v j)
    refine t_X2_bitsOfAll_18 _ _ _ _ _ ⟨fun c => ?_, fun _ => ⟨ha, zn_in (by omega) (by decide), ha, zn_in (by omega) (by decide), nI (fm P m (v i) (v j)), ?_, nI (crd v m (fm P m (v i) (v j))), s_located hF hb h8 hl, _, s_bitCount M (z256 h8 crd_lt), ?_⟩⟩
    · rw [zn_lt (by omega) (by omega)] at c
      omega
    · rw [zn_cl (by omega), zn_cl (by omega), hr i (by omega), hr j (by omega)]
      exact h.t (hb.2 i (by omega)) (hb.2 j (by omega))
    · rw [nI_add, nI_1, Nat.add_assoc]
      exact s_X2_bitsOfAll_18 h hb ha hr hF hj A kk f (i + 1) (by omega)
theorem s_X2_bitsOfAll_4 {v : Nat → Nat} (h : zCF P m M) (hb : zbas m v) (ha : zar b) (hr : zrow M b m v) (hF : zfr v m M) : ∀ (f j : Nat) (o : Option Value), j + f = m → mq_G mq_X2_bitsOfAll (4, [some (.ref 1), some (.ref b), some (.int (nI (zs (fun j => zs (fun i => ztb P m v i j) (j + 1)) j))), some (.int (nI j)), o], [], M) (some (.int (nI (zs (fun j => zs (fun i => ztb P m v i j) (j + 1)) m))), M)
  | 0, j, o, hj => by
    have h8 := h.g.2.1
    obtain rfl : j = m := by omega
    refine t_X2_bitsOfAll_4 _ _ _ _ _ ⟨fun _ => rfl, fun c => absurd ?_ c⟩
    rw [h.m1, zn_le (by omega) (by omega)]
    exact Nat.le_refl _
  | f + 1, j, o, hj => by
    have h8 := h.g.2.1
    refine t_X2_bitsOfAll_4 _ _ _ _ _ ⟨fun c => ?_, fun _ => s_X2_bitsOfAll_18 h hb ha hr hF (by omega) _ (fun o => s_X2_bitsOfAll_4 h hb ha hr hF f (j + 1) o (by omega)) (j + 1) 0 (by omega)⟩
    rw [h.m1, zn_le (by omega) (by omega)] at c
    omega
theorem s_X2_bitsOfAll {v : Nat → Nat} (h : zCF P m M) (hb : zbas m v) (ha : zar b) (hr : zrow M b m v) (hF : zfr v m M) : mq_C mq_X2_bitsOfAll [.ref 1, .ref b] M (some (.int (nI (zwt P m v))), M) := by
  have h1 := s_X2_bitsOfAll_4 h hb ha hr hF m 0 none (by omega)
  rw [show zs (fun j => zs (fun i => ztb P m v i j) (j + 1)) m = zwt P m v from (zwt_sw (ztb P m v) m).symm] at h1
  exact t_X2_bitsOfAll_0 _ _ h1
theorem s_X2_whoseNormal_2 {v : Nat → Nat} (h : zCF P m M) (hv : ∀ i, i < m → v i < 2 ^ m) (ha : zar b) (hr : zrow M b m v) : ∀ (f i : Nat), i + f = m → 1 ≤ i → (∀ j, j < i → 0 < j → v j = fm P m (v (j - 1)) (v (j - 1))) → mq_G mq_X2_whoseNormal (2, [some (.ref 1), some (.ref b), some (.int (nI i))], [], M) (some (.int (if znb P m v = true then nI (v 0) else -1)), M)
  | 0, i, hi, h1, hz => by
    have h8 := h.g.2.1
    have h2 := h.g.1
    obtain rfl : i = m := by omega
    refine t_X2_whoseNormal_2 _ _ _ ⟨fun _ => ⟨ha, yin0 (by decide) (by decide), ?_⟩, fun c => absurd ?_ c⟩
    · rw [z0cl, hr 0 (by omega), if_pos (show znb P i v = true from decide_eq_true hz)]
    · rw [h.m1, zn_le (by omega) (by omega)]
      exact Nat.le_refl _
  | f + 1, i, hi, h1, hz => by
    have h8 := h.g.2.1
    have l1 := hv (i - 1) (by omega)
    have l2 := hv i (by omega)
    refine t_X2_whoseNormal_2 _ _ _ ⟨fun c => ?_, fun _ => ?_⟩
    · rw [h.m1, zn_le (by omega) (by omega)] at c
      omega
    · rw [zs1 (by omega)]
      refine ⟨ha, zn_in (by omega) (by decide), ha, zn_in (by omega) (by decide), nI (fm P m (v (i - 1)) (v (i - 1))), ?_, ha, zn_in (by omega) (by decide), ?_⟩
      · rw [zn_cl (by omega), hr (i - 1) (by omega)]
        exact h.t l1 l1
      · rw [zn_cl (by omega), hr i (by omega), zn_eq (z31 h8 (fm_lt h.g l1)) (z31 h8 l2), nI_1]
        refine ⟨fun c => s_X2_whoseNormal_2 h hv ha hr f (i + 1) (by omega) (by omega) (fun j hj h0 => ?_), fun c => ?_⟩
        · by_cases e : j = i
          · rw [e]; exact c.symm
          · exact hz j (by omega) h0
        · rw [if_neg (fun q => c ((of_decide_eq_true q) i (by omega) (by omega)).symm)]
theorem s_X2_whoseNormal {v : Nat → Nat} (h : zCF P m M) (hv : ∀ i, i < m → v i < 2 ^ m) (ha : zar b) (hr : zrow M b m v) : mq_C mq_X2_whoseNormal [.ref 1, .ref b] M (some (.int (if znb P m v = true then nI (v 0) else -1)), M) :=
  t_X2_whoseNormal_0 _ _ (s_X2_whoseNormal_2 h hv ha hr (m - 1) 1 (by have := h.g.1; omega) (Nat.le_refl _) (fun j h1 h2 => absurd h1 (by omega)))
theorem s_X2_sumAt_5 {v : Nat → Nat} {c : Nat} (h : zCF P m M) (hc : c < 2 ^ m) (ha : zar b) (hr : zrow M b m v) : ∀ (f i : Nat), i + f = m → mq_G mq_X2_sumAt (5, [some (.ref 1), some (.ref b), some (.int (nI c)), some (.int (nI (zcb v i c))), some (.int (nI i))], [], M) (some (.int (nI (zcb v m c))), M)
  | 0, i, hi => by
    have h8 := h.g.2.1
    obtain rfl : i = m := by omega
    refine t_X2_sumAt_5 _ _ _ _ _ ⟨fun _ => rfl, fun c => absurd ?_ c⟩
    rw [h.m1, zn_le (by omega) (by omega)]
    exact Nat.le_refl _
  | f + 1, i, hi => by
    have h8 := h.g.2.1
    have hc31 := z31 h8 hc
    have ih := s_X2_sumAt_5 h hc ha hr f (i + 1) (by omega)
    refine t_X2_sumAt_5 _ _ _ _ _ ⟨fun c => ?_, fun _ => ?_⟩
    · rw [h.m1, zn_le (by omega) (by omega)] at c
      omega
    · rw [zn_bit0 hc31 (by omega), nI_1]
      refine ⟨fun q => ?_, fun q => ⟨ha, zn_in (by omega) (by decide), ?_⟩⟩
      · rw [show zcb v (i + 1) c = zcb v i c ^^^ (if c.testBit i = true then v i else 0) from rfl, if_neg (by rw [zbit_f (by omega)]; decide), Nat.xor_zero] at ih
        rw [show nI (zcb v i c) ^^^ 0 = nI (zcb v i c) by rw [show (0 : Int32) = nI 0 from rfl, zn_xor, Nat.xor_zero]]
        exact ih
      · rw [show zcb v (i + 1) c = zcb v i c ^^^ (if c.testBit i = true then v i else 0) from rfl, if_pos (zbit_t (by omega))] at ih
        rw [zn_cl (by omega), hr i (by omega), zn_xor]
        exact ih
theorem s_X2_sumAt {v : Nat → Nat} {c : Nat} (h : zCF P m M) (hc : c < 2 ^ m) (ha : zar b) (hr : zrow M b m v) : mq_C mq_X2_sumAt [.ref 1, .ref b, .int (nI c)] M (some (.int (nI (zcb v m c))), M) :=
  t_X2_sumAt_0 _ _ _ (s_X2_sumAt_5 h hc ha hr m 0 (by omega))
theorem s_X2_placeOf_2 {v : Nat → Nat} {e : Nat} (h : zCF P m M) (hv : ∀ i, i < m → v i < 2 ^ m) (he : e < 2 ^ m) (ha : zar b) (hr : zrow M b m v) : ∀ (f i : Nat), i + f = m → mq_G mq_X2_placeOf (2, [some (.ref 1), some (.ref b), some (.int (nI e)), some (.int (nI i))], [], M) (some (.int (zNo (zpl m v e f i))), M)
  | 0, i, hi => by
    have h8 := h.g.2.1
    obtain rfl : i = m := by omega
    refine t_X2_placeOf_2 _ _ _ _ ⟨fun _ => rfl, fun c => absurd ?_ c⟩
    rw [h.m1, zn_le (by omega) (by omega)]
    exact Nat.le_refl _
  | f + 1, i, hi => by
    have h8 := h.g.2.1
    have l2 := hv i (by omega)
    unfold zpl
    refine t_X2_placeOf_2 _ _ _ _ ⟨fun c => ?_, fun _ => ⟨ha, zn_in (by omega) (by decide), ?_⟩⟩
    · rw [h.m1, zn_le (by omega) (by omega)] at c
      omega
    · rw [zn_cl (by omega), hr i (by omega), zn_eq (z31 h8 l2) (z31 h8 he), nI_1]
      refine ⟨fun c => ?_, fun c => ?_⟩
      · rw [if_neg c]
        exact s_X2_placeOf_2 h hv he ha hr f (i + 1) (by omega)
      · rw [if_pos (Classical.not_not.mp c)]
        rfl
theorem s_X2_placeOf {v : Nat → Nat} {e : Nat} (h : zCF P m M) (hv : ∀ i, i < m → v i < 2 ^ m) (he : e < 2 ^ m) (ha : zar b) (hr : zrow M b m v) : mq_C mq_X2_placeOf [.ref 1, .ref b, .int (nI e)] M (some (.int (zNo (zpl m v e m 0))), M) :=
  t_X2_placeOf_0 _ _ _ (s_X2_placeOf_2 h hv he ha hr m 0 (by omega))
theorem zor_two {d c : Nat} (h : c < 2 ^ d) : 2 ^ d ||| c = 2 ^ d + c := by
  have := Nat.two_pow_add_eq_or_of_lt h 1
  rw [Nat.mul_one] at this
  exact this.symm
theorem s_X2_leastPolynomial_11 {d c : Nat} (ha : a < 2 ^ m) (hd : d ≤ m) (hi : ind (fpw P m a) d) (hc : c < 2 ^ d) (he : zcb (fpw P m a) d c = fpw P m a d) : ∀ (f i : Nat) (M : mz_M), i + f = d → zCF P m M → zfr (fpw P m a) i M → ∃ M', mq_G mq_X2_leastPolynomial (11, [some (.ref 1), some (.int (nI a)), some (.int (nI (fpw P m a i))), some (.int (nI i))], [], M) (some (.int (nI (2 ^ d + c))), M') ∧ zK [5, 6, 7] M M'
  | 0, i, M, hf, h, hF => by
    have h8 := h.g.2.1
    obtain rfl : i = d := by omega
    have hl := z256 h8 (fpw_lt h.g ha i)
    have hsp : sp (fpw P m a) i (fpw P m a i) := by rw [← he]; exact zcb_sp _ _ _
    refine ⟨M, t_X2_leastPolynomial_11 _ _ _ _ ⟨fun _ => ⟨_, s_X1_located hF hi hc he hl, ?_⟩, fun q => ?_⟩, zK.rf _ _⟩
    · rw [zone_shl (by omega), zn_or, zor_two hc]
    · rw [h.m1, zn_le (by omega) (by omega)] at q
      obtain ⟨x, M1, g1, g2, g3⟩ := s_X1_takes hF (by omega) rfl hl
      rcases g3 with ⟨q1, q2, q3⟩ | ⟨q1, q2, q3⟩
      · subst q2 q3
        exact ⟨0, M1, g1, fun _ => ⟨_, s_X1_located hF hi hc he hl, by rw [zone_shl (by omega), zn_or, zor_two hc]⟩, fun c => absurd rfl c⟩
      · exact absurd hsp q1
  | f + 1, i, M, hf, h, hF => by
    have h8 := h.g.2.1
    have hl := z256 h8 (fpw_lt h.g ha i)
    obtain ⟨x, M1, g1, g2, g3⟩ := s_X1_takes hF (by omega) rfl hl
    rcases g3 with ⟨q1, q2, q3⟩ | ⟨q1, q2, q3⟩
    · exact absurd q1 (hi i (by omega))
    · subst q2
      have h1 := h.k g2 (by decide) (by decide) (by decide)
      obtain ⟨M', k1, k2⟩ := s_X2_leastPolynomial_11 ha hd hi hc he f (i + 1) M1 (by omega) h1 q3
      refine ⟨M', t_X2_leastPolynomial_11 _ _ _ _ ⟨fun q => ?_, fun _ => ⟨1, M1, g1, fun c => absurd c z10, fun _ => ⟨_, h1.t (fpw_lt h.g ha i) ha, by rw [nI_1]; exact k1⟩⟩⟩, g2.tr k2⟩
      rw [h.m1, zn_le (by omega) (by omega)] at q
      omega
theorem s_X2_leastPolynomial {d c : Nat} (h : zCF P m M) (ha : a < 2 ^ m) (hd : d ≤ m) (hi : ind (fpw P m a) d) (hc : c < 2 ^ d) (he : zcb (fpw P m a) d c = fpw P m a d) : ∃ M', mq_C mq_X2_leastPolynomial [.ref 1, .int (nI a)] M (some (.int (nI (2 ^ d + c))), M') ∧ zK [5, 6, 7] M M' := by
  obtain ⟨M1, e1, e2, e3⟩ := s_X1_empties (fpw P m a) M
  obtain ⟨M', g1, g2⟩ := s_X2_leastPolynomial_11 ha hd hi hc he d 0 M1 (by omega) (h.k e2 (by decide) (by decide) (by decide)) e3
  exact ⟨M', t_X2_leastPolynomial_0 _ _ ⟨M1, e1, g1⟩, e2.tr g2⟩
/-! subbases -/
theorem zrow.ext {c n : Nat} {v w : Nat → Nat} (h : zrow M c n v) (e : ∀ j, j < n → v j = w j) : zrow M c n w := fun j hj => by rw [h j hj, e j hj]
theorem s_X2_fillsSubbase_9 {d : Nat} (hd8 : d ≤ 8) (hb : zar b) (hb5 : b ∉ [2, 3, 4, 5, 6, 7]) : ∀ (f a : Nat) (l : List Nat) (M : mz_M), a + f = 2 ^ m → zCF P m M → zlok m l → l.length ≤ d → zfr (fun i => l.getD i 0) l.length M → zrow M b l.length (fun i => l.getD i 0) →
    ∃ M', (∀ o : Option Value, mq_G mq_X2_fillsSubbase (9, [some (.ref 1), some (.ref b), some (.int (nI d)), some (.int (nI a)), o], [], M) (none, M')) ∧ zK [5, 6, 7, b] M M' ∧ zrow M' b (zsbf P m d f a l).length (fun i => (zsbf P m d f a l).getD i 0)
  | 0, a, l, M, hf, h, hl, hd, hF, hr => by
    have hq := zq256 h.g.2.1
    refine ⟨M, fun o => t_X2_fillsSubbase_9 _ _ _ _ _ ⟨fun _ => rfl, fun c => absurd ?_ c⟩, zK.rf _ _, hr⟩
    rw [h.m2, zn_le (by omega) (by omega)]
    omega
  | f + 1, a, l, M, hf, h, hl, hd, hF, hr => by
    have hq := zq256 h.g.2.1
    have h8 := h.g.2.1
    have hb5' : b ∉ [5, 6, 7] := fun q => hb5 (by simp at q ⊢; omega)
    have h5 : M.1 5 2 = nI l.length := by
      obtain ⟨L, S, q⟩ := hF
      rw [q.1, rk_ind.mpr hl.1]
    have hbq : ∀ N N' : mz_M, zK [b] N N' → zCF P m N → zCF P m N' := fun N N' k hN => hN.k k (fun q => hb5 (by simp at q ⊢; omega)) (fun q => hb5 (by simp at q ⊢; omega)) (fun q => hb5 (by simp at q ⊢; omega))
    unfold zsbf
    by_cases hld : l.length < d
    · rw [if_pos hld]
      have hc1 : ¬ M.1 2 2 ≤ nI a := by
        rw [h.m2, zn_le (by omega) (by omega)]
        omega
      have hc2 : ¬ nI d ≤ M.1 5 2 := by
        rw [h5, zn_le (by omega) (by omega)]
        omega
      have hc3 : ¬ (Int32.ofNat 8) ≤ M.1 5 2 := by
        rw [h5, show Int32.ofNat 8 = nI 8 from rfl, zn_le (by decide) (by omega)]
        omega
      have hcl := cj_lt h.g (a := a) (by omega) d
      by_cases hcj : cj P m a d = a
      · have hat : (fun i => (l ++ [a]).getD i 0) l.length = a := zget_at
        have hlo : ∀ j, j < l.length → (fun i => l.getD i 0) j = (fun i => (l ++ [a]).getD i 0) j := fun j hj => (zget_lo hj).symm
        obtain ⟨x, M7, g1, g2, g3⟩ := s_X1_takes (hF.ext hlo) (by omega) hat (show a < 256 by omega)
        have hse := sp_iff_ext (e := a) hlo
        have h7 := h.k g2 (by decide) (by decide) (by decide)
        rcases g3 with ⟨q1, q2, q3⟩ | ⟨q1, q2, q3⟩
        · rw [@if_neg _ (Classical.propDecidable _) (fun q => q.2 (hse.mpr q1))]
          subst q2 q3
          obtain ⟨M', k1, k2, k3⟩ := s_X2_fillsSubbase_9 hd8 hb hb5 f (a + 1) l M7 (by omega) h7 hl hd hF hr
          refine ⟨M', fun o => t_X2_fillsSubbase_9 _ _ _ _ _ ⟨fun c => absurd c hc1, fun _ => ⟨fun c => absurd c hc2, fun _ => ⟨hb, fun c => absurd c hc3, fun _ => ⟨_, h.sq (by omega) (by omega), fun c => absurd (by rw [hcj]) c, fun _ => ⟨0, M7, g1, fun _ => by rw [nI_1]; exact k1 _, fun c => absurd rfl c⟩⟩⟩⟩⟩, k2, k3⟩
        · rw [@if_pos _ (Classical.propDecidable _) ⟨hcj, fun q => q1 (hse.mp q)⟩]
          subst q2
          have hk9 : zK [b] M7 (mz_wr M7 b (upd (M7.1 b) l.length (nI a))) := zK.wr (by simp)
          have hlen : (l ++ [a]).length = l.length + 1 := by rw [List.length_append, List.length_singleton]
          have hF9 : zfr (fun i => (l ++ [a]).getD i 0) (l ++ [a]).length (mz_wr M7 b (upd (M7.1 b) l.length (nI a))) := by
            rw [hlen]
            exact q3.k hk9 (fun q => hb5 (by simp at q ⊢; omega)) (fun q => hb5 (by simp at q ⊢; omega)) (fun q => hb5 (by simp at q ⊢; omega))
          have hr9 : zrow (mz_wr M7 b (upd (M7.1 b) l.length (nI a))) b (l ++ [a]).length (fun i => (l ++ [a]).getD i 0) := by
            rw [hlen]
            have := zrow.put (M := M7) (c := b) (n := l.length) (v := fun i => (l ++ [a]).getD i 0) ((hr.k g2 hb5').ext hlo)
            rw [show (l ++ [a]).getD l.length 0 = a from zget_at] at this
            exact this
          obtain ⟨M', k1, k2, k3⟩ := s_X2_fillsSubbase_9 hd8 hb hb5 f (a + 1) (l ++ [a]) _ (by omega) (hbq _ _ hk9 h7) (zlok_add hl (by omega) (fun q => q1 (hse.mp q))) (by omega) hF9 hr9
          refine ⟨M', fun o => t_X2_fillsSubbase_9 _ _ _ _ _ ⟨fun c => absurd c hc1, fun _ => ⟨fun c => absurd c hc2, fun _ => ⟨hb, fun c => absurd c hc3, fun _ => ⟨_, h.sq (by omega) (by omega), fun c => absurd (by rw [hcj]) c, fun _ => ⟨1, M7, g1, fun c => absurd c z10, fun _ => ⟨hb, by rw [h5]; exact zn_in (by omega) (by decide), fun M9 e9 => ?_⟩⟩⟩⟩⟩⟩, (g2.sub (by simp)).tr ((hk9.sub (by simp)).tr k2), k3⟩
          rw [h5, zn_cl (by omega)] at e9
          rw [e9, nI_1]
          exact k1 _
      · rw [@if_neg _ (Classical.propDecidable _) (fun q => hcj q.1)]
        obtain ⟨M', k1, k2, k3⟩ := s_X2_fillsSubbase_9 hd8 hb hb5 f (a + 1) l M (by omega) h hl hd hF hr
        refine ⟨M', fun o => t_X2_fillsSubbase_9 _ _ _ _ _ ⟨fun c => absurd c hc1, fun _ => ⟨fun c => absurd c hc2, fun _ => ⟨hb, fun c => absurd c hc3, fun _ => ⟨_, h.sq (by omega) (by omega), fun _ => by rw [nI_1]; exact k1 _, fun c => absurd ?_ c⟩⟩⟩⟩, k2, k3⟩
        rw [zn_eq (z31 h8 hcl) (by omega)]
        exact hcj
    · rw [if_neg hld]
      refine ⟨M, fun o => t_X2_fillsSubbase_9 _ _ _ _ _ ⟨fun _ => rfl, fun _ => ⟨fun _ => rfl, fun c => absurd ?_ c⟩⟩, zK.rf _ _, hr⟩
      rw [h5, zn_le (by omega) (by omega)]
      omega
theorem s_X2_fillsSubbase {d : Nat} (h : zCF P m M) (hd8 : d ≤ 8) (hb : zar b) (hb5 : b ∉ [2, 3, 4, 5, 6, 7]) : ∃ M', mq_C mq_X2_fillsSubbase [.ref 1, .ref b, .int (nI d)] M (none, M') ∧ zK [5, 6, 7, b] M M' ∧ zrow M' b (zsub P m d).length (fun i => (zsub P m d).getD i 0) := by
  obtain ⟨M1, e1, e2, e3⟩ := s_X1_empties (fun i => ([] : List Nat).getD i 0) M
  have hq := Nat.two_pow_pos m
  obtain ⟨M', g1, g2, g3⟩ := s_X2_fillsSubbase_9 hd8 hb hb5 (2 ^ m - 1) 1 [] M1 (by omega) (h.k e2 (by decide) (by decide) (by decide)) ⟨fun i hi => absurd hi (by simp), fun i hi => absurd hi (by simp)⟩ (by simp) e3 (fun j hj => absurd hj (by simp))
  exact ⟨M', t_X2_fillsSubbase_0 _ _ _ ⟨M1, e1, g1 none⟩, (e2.sub (by simp)).tr g2, g3⟩
theorem zmods {d n : Nat} (hd : 0 < d) : (n % d + 1 = d → (n + 1) % d = 0 ∧ (n + 1) / d = n / d + 1) ∧ (n % d + 1 ≠ d → (n + 1) % d = n % d + 1 ∧ (n + 1) / d = n / d) := by
  have h1 := Nat.div_add_mod n d
  have h2 := Nat.mod_lt n hd
  constructor
  · intro e
    have h3 : n + 1 = d * (n / d + 1) := by rw [Nat.mul_add, Nat.mul_one]; omega
    rw [h3, Nat.mul_mod_right, Nat.mul_div_cancel_left _ hd]
    exact ⟨rfl, rfl⟩
  · intro e
    have h3 : n + 1 = d * (n / d) + (n % d + 1) := by omega
    have h4 : n % d + 1 < d := by omega
    constructor
    · rw [h3, Nat.mul_add_mod, Nat.mod_eq_of_lt h4]
    · conv => lhs; rw [h3]
      rw [Nat.mul_add_div hd, Nat.div_eq_of_lt h4, Nat.add_zero]
theorem s_X2_fillsOverSubbase_10 {d b2 : Nat} (ha : a < 2 ^ m) (hd : 0 < d) (hdm : d ≤ m) (hs : (zsub P m d).length = d) (hb : zar b) (hb2 : zar b2) (hne : ¬ b2 = b) (hn : b ∉ [2, 3, 4]) : ∀ (f n : Nat) (M : mz_M) (o : Option Value), n + f = m → zCF P m M → zrow M b2 d (fun i => (zsub P m d).getD i 0) → zrow M b n (zno P m a d) →
    ∃ M', mq_G mq_X2_fillsOverSubbase (10, [some (.ref 1), some (.ref b), some (.ref b2), some (.int (nI d)), o, some (.int (nI (cj P m a (n - n % d)))), some (.int (nI (n % d))), some (.int (nI n))], [], M) (none, M') ∧ zK [b] M M' ∧ zrow M' b m (zno P m a d)
  | 0, n, M, o, hf, h, hr2, hr => by
    have h8 := h.g.2.1
    obtain rfl : n = m := by omega
    refine ⟨M, t_X2_fillsOverSubbase_10 _ _ _ _ _ _ _ _ ⟨fun _ => rfl, fun c => absurd ?_ c⟩, zK.rf _ _, hr⟩
    rw [h.m1, zn_le (by omega) (by omega)]
    exact Nat.le_refl _
  | f + 1, n, M, o, hf, h, hr2, hr => by
    have h8 := h.g.2.1
    have hmd := Nat.mod_lt n hd
    have hl := (zsub_ok P m d).1.2 (n % d) (by omega)
    have hk5 : zK [b] M (mz_wr M b (upd (M.1 b) n (nI (zno P m a d n)))) := zK.wr (by simp)
    have h5 := h.k hk5 (fun q => hn (by simp at q ⊢; omega)) (fun q => hn (by simp at q ⊢; omega)) (fun q => hn (by simp at q ⊢; omega))
    obtain ⟨z1, z2⟩ := zmods (n := n) hd
    have hcj := cj_lt h.g ha (n - n % d)
    have ih := fun o => s_X2_fillsOverSubbase_10 ha hd hdm hs hb hb2 hne hn f (n + 1) _ o (by omega) h5 (hr2.k hk5 (zns (fun q => hne q.symm))) hr.put
    have hle := Nat.mod_le n d
    by_cases e : n % d + 1 = d
    · obtain ⟨M', g1, g2, g3⟩ := ih (mz_nw o)
      refine ⟨M', t_X2_fillsOverSubbase_10 _ _ _ _ _ _ _ _ ⟨fun c => ?_, fun _ => ⟨hb2, zn_in (by omega) (by decide), nI (zno P m a d n), ?_, hb, zn_in (by omega) (by decide), fun M5 e5 => ⟨fun c => absurd ?_ c, fun _ => ⟨nI (cj P m a (n + 1 - (n + 1) % d)), ?_, ?_⟩⟩⟩⟩, hk5.tr g2, g3⟩
      · rw [h.m1, zn_le (by omega) (by omega)] at c
        omega
      · rw [zn_cl (by omega), hr2 (n % d) hmd]
        exact h.t hl hcj
      · rw [nI_1, e]
      · rw [zn_cl (by omega)] at e5
        rw [e5, (z1 e).1, show n + 1 - 0 = n - n % d + d by omega, ← cj_add]
        exact h5.sq hcj (by omega)
      · rw [zn_cl (by omega)] at e5
        rw [e5, nI_1]
        rw [(z1 e).1] at g1 ⊢
        exact g1
    · obtain ⟨M', g1, g2, g3⟩ := ih o
      refine ⟨M', t_X2_fillsOverSubbase_10 _ _ _ _ _ _ _ _ ⟨fun c => ?_, fun _ => ⟨hb2, zn_in (by omega) (by decide), nI (zno P m a d n), ?_, hb, zn_in (by omega) (by decide), fun M5 e5 => ⟨fun _ => ?_, fun c => absurd ?_ c⟩⟩⟩, hk5.tr g2, g3⟩
      · rw [h.m1, zn_le (by omega) (by omega)] at c
        omega
      · rw [zn_cl (by omega), hr2 (n % d) hmd]
        exact h.t hl hcj
      · rw [zn_cl (by omega)] at e5
        rw [e5, nI_1, nI_1]
        rw [(z2 e).1, show n + 1 - (n % d + 1) = n - n % d by omega] at g1
        exact g1
      · rw [nI_1, zn_eq (by omega) (by omega)]
        exact e
theorem s_X2_fillsOverSubbase {d b2 : Nat} (h : zCF P m M) (ha : a < 2 ^ m) (hd : 0 < d) (hdm : d ≤ m) (hs : (zsub P m d).length = d) (hb : zar b) (hb2 : zar b2) (hne : ¬ b2 = b) (hn : b ∉ [2, 3, 4]) (hr2 : zrow M b2 d (fun i => (zsub P m d).getD i 0)) : ∃ M', mq_C mq_X2_fillsOverSubbase [.ref 1, .ref b, .ref b2, .int (nI d), .int (nI a)] M (none, M') ∧ zK [b] M M' ∧ zrow M' b m (zno P m a d) := by
  obtain ⟨M', g1, g2, g3⟩ := s_X2_fillsOverSubbase_10 ha hd hdm hs hb hb2 hne hn m 0 M (some (.int (nI a))) (by omega) h hr2 (fun j hj => absurd hj (by omega))
  rw [Nat.zero_mod] at g1
  exact ⟨M', t_X2_fillsOverSubbase_0 _ _ _ _ _ g1, g2, g3⟩
theorem s_X2_fillsTower_9 {d b2 : Nat} (ha : a < 2 ^ m) (hd : 0 < d) (hdm : d ≤ m) (hs : (zsub P m d).length = d) (hb : zar b) (hb2 : zar b2) (hne : ¬ b2 = b) (hn : b ∉ [2, 3, 4]) : ∀ (f n : Nat) (M : mz_M), n + f = m → zCF P m M → zrow M b2 d (fun i => (zsub P m d).getD i 0) → zrow M b n (zto P m a d) →
    ∃ M', mq_G mq_X2_fillsTower (9, [some (.ref 1), some (.ref b), some (.ref b2), some (.int (nI d)), some (.int (nI a)), some (.int (nI (fpw P m a (n / d)))), some (.int (nI (n % d))), some (.int (nI n))], [], M) (none, M') ∧ zK [b] M M' ∧ zrow M' b m (zto P m a d)
  | 0, n, M, hf, h, hr2, hr => by
    have h8 := h.g.2.1
    obtain rfl : n = m := by omega
    refine ⟨M, t_X2_fillsTower_9 _ _ _ _ _ _ _ _ ⟨fun _ => rfl, fun c => absurd ?_ c⟩, zK.rf _ _, hr⟩
    rw [h.m1, zn_le (by omega) (by omega)]
    exact Nat.le_refl _
  | f + 1, n, M, hf, h, hr2, hr => by
    have h8 := h.g.2.1
    have hmd := Nat.mod_lt n hd
    have hl := (zsub_ok P m d).1.2 (n % d) (by omega)
    have hk5 : zK [b] M (mz_wr M b (upd (M.1 b) n (nI (zto P m a d n)))) := zK.wr (by simp)
    have h5 := h.k hk5 (fun q => hn (by simp at q ⊢; omega)) (fun q => hn (by simp at q ⊢; omega)) (fun q => hn (by simp at q ⊢; omega))
    obtain ⟨z1, z2⟩ := zmods (n := n) hd
    have hcj := fpw_lt h.g ha (n / d)
    obtain ⟨M', g1, g2, g3⟩ := s_X2_fillsTower_9 ha hd hdm hs hb hb2 hne hn f (n + 1) _ (by omega) h5 (hr2.k hk5 (zns (fun q => hne q.symm))) hr.put
    have hle := Nat.mod_le n d
    by_cases e : n % d + 1 = d
    · refine ⟨M', t_X2_fillsTower_9 _ _ _ _ _ _ _ _ ⟨fun c => ?_, fun _ => ⟨hb2, zn_in (by omega) (by decide), nI (zto P m a d n), ?_, hb, zn_in (by omega) (by decide), fun M5 e5 => ⟨fun c => absurd ?_ c, fun _ => ⟨nI (fpw P m a ((n + 1) / d)), ?_, ?_⟩⟩⟩⟩, hk5.tr g2, g3⟩
      · rw [h.m1, zn_le (by omega) (by omega)] at c
        omega
      · rw [zn_cl (by omega), hr2 (n % d) hmd]
        exact h.t hl hcj
      · rw [nI_1, e]
      · rw [zn_cl (by omega)] at e5
        rw [e5, (z1 e).2]
        exact h5.t hcj ha
      · rw [zn_cl (by omega)] at e5
        rw [e5, nI_1]
        rw [(z1 e).1] at g1
        exact g1
    · refine ⟨M', t_X2_fillsTower_9 _ _ _ _ _ _ _ _ ⟨fun c => ?_, fun _ => ⟨hb2, zn_in (by omega) (by decide), nI (zto P m a d n), ?_, hb, zn_in (by omega) (by decide), fun M5 e5 => ⟨fun _ => ?_, fun c => absurd ?_ c⟩⟩⟩, hk5.tr g2, g3⟩
      · rw [h.m1, zn_le (by omega) (by omega)] at c
        omega
      · rw [zn_cl (by omega), hr2 (n % d) hmd]
        exact h.t hl hcj
      · rw [zn_cl (by omega)] at e5
        rw [e5, nI_1, nI_1]
        rw [(z2 e).1, (z2 e).2] at g1
        exact g1
      · rw [nI_1, zn_eq (by omega) (by omega)]
        exact e
theorem s_X2_fillsTower {d b2 : Nat} (h : zCF P m M) (ha : a < 2 ^ m) (hd : 0 < d) (hdm : d ≤ m) (hs : (zsub P m d).length = d) (hb : zar b) (hb2 : zar b2) (hne : ¬ b2 = b) (hn : b ∉ [2, 3, 4]) (hr2 : zrow M b2 d (fun i => (zsub P m d).getD i 0)) : ∃ M', mq_C mq_X2_fillsTower [.ref 1, .ref b, .ref b2, .int (nI d), .int (nI a)] M (none, M') ∧ zK [b] M M' ∧ zrow M' b m (zto P m a d) := by
  obtain ⟨M', g1, g2, g3⟩ := s_X2_fillsTower_9 ha hd hdm hs hb hb2 hne hn m 0 M (by omega) h hr2 (fun j hj => absurd hj (by omega))
  rw [Nat.zero_mod, Nat.zero_div] at g1
  exact ⟨M', t_X2_fillsTower_0 _ _ _ _ _ g1, g2, g3⟩
/-! traces, duals, places -/
theorem zcmb_or {t : Nat → Nat} (h : ∀ i, t i < 2) (n : Nat) : zcmb t n ||| t n * 2 ^ n = zcmb t (n + 1) := by
  show _ = zcmb t n + t n * 2 ^ n
  have hl := zcmb_lt h n
  have h2 := h n
  by_cases e : t n = 0
  · rw [e, Nat.zero_mul, Nat.or_zero, Nat.add_zero]
  · rw [show t n = 1 by omega, Nat.one_mul, Nat.or_comm, zor_two hl, Nat.add_comm]
theorem s_X2_traceBits_5 {v : Nat → Nat} (h : zCF P m M) (hv : ∀ i, i < m → v i < 2 ^ m) (ha : a < 2 ^ m) (hb : zar b) (hr : zrow M b m v) : ∀ (f j : Nat), j + f = m → mq_G mq_X2_traceBits (5, [some (.ref 1), some (.ref b), some (.int (nI a)), some (.int (nI (zcmb (ztv P m v a) j))), some (.int (nI j))], [], M) (some (.int (nI (zcmb (ztv P m v a) m))), M)
  | 0, j, hj => by
    have h8 := h.g.2.1
    obtain rfl : j = m := by omega
    refine t_X2_traceBits_5 _ _ _ _ _ ⟨fun _ => rfl, fun c => absurd ?_ c⟩
    rw [h.m1, zn_le (by omega) (by omega)]
    exact Nat.le_refl _
  | f + 1, j, hj => by
    have h8 := h.g.2.1
    obtain ⟨g, hc⟩ := h.c
    have hvj := hv j (by omega)
    have hlt := ztv_lt (P := P) (m := m) v a j
    have hp : 2 ^ j ≤ 256 := by have := zq256 (show j ≤ 8 by omega); exact this
    refine t_X2_traceBits_5 _ _ _ _ _ ⟨fun c => ?_, fun _ => ⟨hb, zn_in (by omega) (by decide), nI (fm P m (v j) a), ?_, nI (zT P m (fm P m (v j) a)), h.to (fm_lt h.g hvj), ?_⟩⟩
    · rw [h.m1, zn_le (by omega) (by omega)] at c
      omega
    · rw [zn_cl (by omega), hr j (by omega)]
      exact h.t hvj ha
    · have ih := s_X2_traceBits_5 h hv ha hb hr f (j + 1) (by omega)
      rw [← zcmb_or (ztv_lt v a) j] at ih
      rw [← ztv_eq h.g hc hvj, zn_shl (by omega) (by
        by_cases e : ztv P m v a j = 0
        · rw [e, Nat.zero_mul]; decide
        · rw [show ztv P m v a j = 1 by omega]; omega), zn_or, nI_1]
      exact ih
theorem s_X2_traceBits {v : Nat → Nat} (h : zCF P m M) (hv : ∀ i, i < m → v i < 2 ^ m) (ha : a < 2 ^ m) (hb : zar b) (hr : zrow M b m v) : mq_C mq_X2_traceBits [.ref 1, .ref b, .int (nI a)] M (some (.int (nI (zcmb (ztv P m v a) m))), M) :=
  t_X2_traceBits_0 _ _ _ (s_X2_traceBits_5 h hv ha hb hr m 0 (by omega))
theorem zcmb_one (j : Nat) : ∀ n, zcmb (fun i => if i = j then 1 else 0) n = if j < n then 2 ^ j else 0
  | 0 => by rw [if_neg (by omega)]; rfl
  | n + 1 => by
    show zcmb _ n + (if n = j then 1 else 0) * 2 ^ n = _
    rw [zcmb_one j n]
    by_cases e : n = j
    · rw [if_neg (by omega), if_pos e, if_pos (by omega), e, Nat.one_mul, Nat.zero_add]
    · rw [if_neg e, Nat.zero_mul, Nat.add_zero]
      by_cases e2 : j < n
      · rw [if_pos e2, if_pos (by omega)]
      · rw [if_neg e2, if_neg (by omega)]
theorem zdl_bits {g : Nat} {v : Nat → Nat} {j : Nat} (hz : (P, m, g) ∈ zirrs) (hb : zbas m v) (hj : j < m) (ha : a < 2 ^ m) : zcmb (ztv P m v a) m = 2 ^ j ↔ zdl P m v j = a := by
  obtain ⟨hg, hc⟩ := zirrs_ok _ hz
  dsimp only at hg hc
  have h1 := zcmb_one j m
  rw [if_pos hj] at h1
  have h2 : ∀ i, (fun i => if i = j then 1 else 0 : Nat → Nat) i < 2 := fun i => by dsimp only; split <;> decide
  constructor
  · intro e
    rw [← h1] at e
    exact (zdl_uniq hz hb hj ha (fun i hi => by rw [← ztv_eq hg hc (hb.2 i hi)]; exact zcmb_inj (ztv_lt v a) h2 e i hi)).symm
  · intro e
    obtain ⟨-, -, z3⟩ := zdl_spec hz hb hj
    rw [← h1]
    have ext : ∀ n, n ≤ m → zcmb (ztv P m v a) n = zcmb (fun i => if i = j then 1 else 0) n := by
      intro n
      induction n with
      | zero => intro _; rfl
      | succ n ih =>
        intro hn
        show zcmb _ n + ztv P m v a n * 2 ^ n = zcmb _ n + _ * 2 ^ n
        rw [ih (by omega), ztv_eq hg hc (hb.2 n (by omega)), ← e, z3 n (by omega)]
    exact ext m (Nat.le_refl _)
theorem s_X2_fillsDual_24 {g : Nat} {v : Nat → Nat} {b2 a : Nat} (hz : (P, m, g) ∈ zirrs) (hv : zbas m v) (hb : zar b) (hn : b ∉ [2, 3, 4]) (ha : a < 2 ^ m) : ∀ (f j : Nat) (M : mz_M), j + f = m → zCF P m M → (∀ k, k < m → (zdl P m v k < a ∨ (zdl P m v k = a ∧ k < j)) → M.1 b k = nI (zdl P m v k)) →
    ∃ M1, zK [b] M M1 ∧ (∀ k, k < m → zdl P m v k < a + 1 → M1.1 b k = nI (zdl P m v k)) ∧ ∀ res, (∀ o4 o5 : Option Value, mq_G mq_X2_fillsDual (2, [some (.ref 1), some (.ref b), some (.ref b2), some (.int (nI (a + 1))), o4, o5], [], M1) res) → mq_G mq_X2_fillsDual (24, [some (.ref 1), some (.ref b), some (.ref b2), some (.int (nI a)), some (.int (nI (zcmb (ztv P m v a) m))), some (.int (nI j))], [], M) res
  | 0, j, M, hj, h, hr => by
    have h8 := h.g.2.1
    obtain rfl : j = m := by omega
    refine ⟨M, zK.rf _ _, fun k hk hl => hr k hk (by omega), fun res kk => t_X2_fillsDual_24 _ _ _ _ _ _ ⟨fun _ => by rw [nI_1]; exact kk _ _, fun c => absurd ?_ c⟩⟩
    rw [h.m1, zn_le (by omega) (by omega)]
    exact Nat.le_refl _
  | f + 1, j, M, hj, h, hr => by
    have h8 := h.g.2.1
    have hq := zq256 h8
    have hcl := zcmb_lt (ztv_lt (P := P) (m := m) v a) m
    have hp : 2 ^ j < 2 ^ m := Nat.pow_lt_pow_right (by decide) (by omega)
    have hbits := zdl_bits hz hv (show j < m by omega) ha
    have hc1 : ¬ M.1 2 1 ≤ nI j := by
      rw [h.m1, zn_le (by omega) (by omega)]
      omega
    by_cases e : zdl P m v j = a
    · have hk3 : zK [b] M (mz_wr M b (upd (M.1 b) j (nI a))) := zK.wr (by simp)
      have h3 := h.k hk3 (fun q => hn (by simp at q ⊢; omega)) (fun q => hn (by simp at q ⊢; omega)) (fun q => hn (by simp at q ⊢; omega))
      obtain ⟨M1, k1, k2, k3⟩ := s_X2_fillsDual_24 (b2 := b2) hz hv hb hn ha f (j + 1) _ (by omega) h3 (fun k hk hl => by
        rw [zwr_s]
        by_cases ek : k = j
        · rw [ek, zupd_s, e]
        · rw [zupd_n ek]; exact hr k hk (by omega))
      refine ⟨M1, hk3.tr k1, k2, fun res kk => t_X2_fillsDual_24 _ _ _ _ _ _ ⟨fun c => absurd c hc1, fun _ => ⟨fun c => absurd ?_ c, fun _ => ⟨hb, zn_in (by omega) (by decide), fun N n3 => ?_⟩⟩⟩⟩
      · rw [zone_shl (by omega), hbits.mpr e]
      · rw [zn_cl (by omega)] at n3
        rw [n3, nI_1]
        exact k3 res kk
    · obtain ⟨M1, k1, k2, k3⟩ := s_X2_fillsDual_24 (b2 := b2) hz hv hb hn ha f (j + 1) M (by omega) h (fun k hk hl => hr k hk (by
        rcases hl with hl | ⟨l1, l2⟩
        · exact Or.inl hl
        · refine Or.inr ⟨l1, ?_⟩
          have : k ≠ j := fun q => e (by rw [← q]; exact l1)
          omega))
      refine ⟨M1, k1, k2, fun res kk => t_X2_fillsDual_24 _ _ _ _ _ _ ⟨fun c => absurd c hc1, fun _ => ⟨fun _ => by rw [nI_1]; exact k3 res kk, fun c => absurd ?_ c⟩⟩⟩
      rw [zone_shl (by omega), zn_eq (by omega) (by omega)]
      exact fun q => e (hbits.mp q)
theorem s_X2_fillsDual_2 {g : Nat} {v : Nat → Nat} {b2 : Nat} (hz : (P, m, g) ∈ zirrs) (hv : zbas m v) (hb : zar b) (hb2 : zar b2) (hne : ¬ b2 = b) (hn : b ∉ [2, 3, 4]) : ∀ (f a : Nat) (M : mz_M), a + f = 2 ^ m → zCF P m M → zrow M b2 m v → (∀ k, k < m → zdl P m v k < a → M.1 b k = nI (zdl P m v k)) →
    ∃ M', (∀ o4 o5 : Option Value, mq_G mq_X2_fillsDual (2, [some (.ref 1), some (.ref b), some (.ref b2), some (.int (nI a)), o4, o5], [], M) (none, M')) ∧ zK [b] M M' ∧ zrow M' b m (zdl P m v)
  | 0, a, M, hf, h, hr2, hr => by
    have hq := zq256 h.g.2.1
    refine ⟨M, fun o4 o5 => t_X2_fillsDual_2 _ _ _ _ _ _ ⟨fun _ => rfl, fun c => absurd ?_ c⟩, zK.rf _ _, fun k hk => hr k hk ?_⟩
    · rw [h.m2, zn_le (by omega) (by omega)]
      omega
    · have := (zdl_spec hz hv hk).2.1
      omega
  | f + 1, a, M, hf, h, hr2, hr => by
    have hq := zq256 h.g.2.1
    obtain ⟨M1, k1, k2, k3⟩ := s_X2_fillsDual_24 (b2 := b2) hz hv hb hn (show a < 2 ^ m by omega) m 0 M (by omega) h (fun k hk hl => hr k hk (by omega))
    have h1 := h.k k1 (fun q => hn (by simp at q ⊢; omega)) (fun q => hn (by simp at q ⊢; omega)) (fun q => hn (by simp at q ⊢; omega))
    obtain ⟨M', g1, g2, g3⟩ := s_X2_fillsDual_2 hz hv hb hb2 hne hn f (a + 1) M1 (by omega) h1 (hr2.k k1 (zns (fun q => hne q.symm))) k2
    refine ⟨M', fun o4 o5 => t_X2_fillsDual_2 _ _ _ _ _ _ ⟨fun c => ?_, fun _ => ⟨_, s_X2_traceBits h hv.2 (by omega) hb2 hr2, k3 _ g1⟩⟩, k1.tr g2, g3⟩
    rw [h.m2, zn_le (by omega) (by omega)] at c
    omega
theorem s_X2_fillsDual {g : Nat} {v : Nat → Nat} {b2 : Nat} (h : zCF P m M) (hz : (P, m, g) ∈ zirrs) (hv : zbas m v) (hb : zar b) (hb2 : zar b2) (hne : ¬ b2 = b) (hn : b ∉ [2, 3, 4]) (hr2 : zrow M b2 m v) : ∃ M', mq_C mq_X2_fillsDual [.ref 1, .ref b, .ref b2] M (none, M') ∧ zK [b] M M' ∧ zrow M' b m (zdl P m v) := by
  have hq := Nat.two_pow_pos m
  obtain ⟨M', g1, g2, g3⟩ := s_X2_fillsDual_2 hz hv hb hb2 hne hn (2 ^ m - 1) 1 M (by omega) h hr2 (fun k hk hl => by have := (zdl_spec hz hv hk).1; omega)
  exact ⟨M', t_X2_fillsDual_0 _ _ _ (g1 none none), g2, g3⟩
theorem zwa_mono {v w : Nat → Nat} {c : Nat} : ∀ {n k : Nat}, zwa P m v w c (n + k) = true → zwa P m v w c n = true
  | n, 0, h => h
  | n, k + 1, h => by
    have h : (zwa P m v w c (n + k) && (zwo P m v w c (n + k)).isSome) = true := h
    rw [Bool.and_eq_true] at h
    exact zwa_mono h.1
theorem s_X2_fillsPlaces_3 {v w : Nat → Nat} {c b2 b4 : Nat} (hv : ∀ i, i < m → v i < 2 ^ m) (hw : ∀ i, i < m → w i < 2 ^ m) (hc : c < 2 ^ m) (hb : zar b) (hb2 : zar b2) (hb4 : zar b4) (hne : ¬ b2 = b) (hne4 : ¬ b4 = b) (hn : b ∉ [2, 3, 4]) : ∀ (f i : Nat) (M : mz_M), i + f = m → zCF P m M → zrow M b2 m w → zrow M b4 m v → zwa P m v w c i = true → (∀ j, j < i → M.1 b j = zNo (zwo P m v w c j)) →
    ∃ M', mq_G mq_X2_fillsPlaces (3, [some (.ref 1), some (.ref b), some (.ref b2), some (.int (nI c)), some (.ref b4), some (.int (nI i))], [], M) (some (.int (zB (zwa P m v w c m))), M') ∧ zK [b] M M' ∧ (zwa P m v w c m = true → ∀ j, j < m → M'.1 b j = zNo (zwo P m v w c j))
  | 0, i, M, hi, h, hr2, hr4, ht, hr => by
    have h8 := h.g.2.1
    obtain rfl : i = m := by omega
    refine ⟨M, t_X2_fillsPlaces_3 _ _ _ _ _ _ ⟨fun _ => by rw [ht]; rfl, fun q0 => absurd ?_ q0⟩, zK.rf _ _, fun _ => hr⟩
    rw [h.m1, zn_le (by omega) (by omega)]
    exact Nat.le_refl _
  | f + 1, i, M, hi, h, hr2, hr4, ht, hr => by
    have h8 := h.g.2.1
    have hc1 : ¬ M.1 2 1 ≤ nI i := by
      rw [h.m1, zn_le (by omega) (by omega)]
      omega
    have hwi := hw i (by omega)
    have hfl := fm_lt h.g hc (b := w i)
    have hk6 : zK [b] M (mz_wr M b (upd (M.1 b) i (zNo (zwo P m v w c i)))) := zK.wr (by simp)
    have h6 := h.k hk6 (fun q => hn (by simp at q ⊢; omega)) (fun q => hn (by simp at q ⊢; omega)) (fun q => hn (by simp at q ⊢; omega))
    have hts : zwa P m v w c (i + 1) = (zwa P m v w c i && (zwo P m v w c i).isSome) := rfl
    have times : mq_C mq_X0_times [.ref 2, .int (nI c), .int (M.1 b2 (nI i).toNatClampNeg)] M (some (.int (nI (fm P m c (w i)))), M) := by
      rw [zn_cl (by omega), hr2 i (by omega)]
      exact h.t hc hwi
    have pl := s_X2_placeOf h hv hfl hb4 hr4
    by_cases e : (zwo P m v w c i).isSome = true
    · have ht1 : zwa P m v w c (i + 1) = true := by rw [hts, ht, e]; rfl
      obtain ⟨M', g1, g2, g3⟩ := s_X2_fillsPlaces_3 hv hw hc hb hb2 hb4 hne hne4 hn f (i + 1) _ (by omega) h6 (hr2.k hk6 (zns (fun q => hne q.symm))) (hr4.k hk6 (zns (fun q => hne4 q.symm))) ht1 (fun j hj => by
        rw [zwr_s]
        by_cases ej : j = i
        · rw [ej, zupd_s]
        · rw [zupd_n ej]; exact hr j (by omega))
      refine ⟨M', t_X2_fillsPlaces_3 _ _ _ _ _ _ ⟨fun q0 => absurd q0 hc1, fun _ => ⟨hb2, zn_in (by omega) (by decide), _, times, _, pl, hb, zn_in (by omega) (by decide), fun N n6 => ⟨hb, zn_in (by omega) (by decide), fun _ => ?_, fun q0 => absurd ?_ q0⟩⟩⟩, hk6.tr g2, g3⟩
      · rw [zn_cl (by omega)] at n6
        rw [n6, nI_1]
        exact g1
      · rw [zn_cl (by omega)] at n6 ⊢
        rw [n6, zwr_s, zupd_s]
        unfold zwo at e
        cases hz : zpl m v (fm P m c (w i)) m 0 with
        | none => rw [hz] at e; cases e
        | some x =>
          have hx := (zpl_lt hz).2
          show ¬ nI x = -1
          exact fun q => nI_pos (show x < 2 ^ 31 by omega) (by rw [q]; decide)
    · have e' : zwo P m v w c i = none := by
        cases hz : zwo P m v w c i with
        | none => rfl
        | some x => rw [hz] at e; exact absurd rfl e
      have hf0 : zwa P m v w c m = false := by
        cases hz : zwa P m v w c m with
        | false => rfl
        | true =>
          have := zwa_mono (n := i + 1) (k := f) (by rw [show i + 1 + f = m by omega]; exact hz)
          rw [hts, e'] at this
          simp at this
      refine ⟨_, t_X2_fillsPlaces_3 _ _ _ _ _ _ ⟨fun q0 => absurd q0 hc1, fun _ => ⟨hb2, zn_in (by omega) (by decide), _, times, _, pl, hb, zn_in (by omega) (by decide), fun N n6 => ⟨hb, zn_in (by omega) (by decide), fun q0 => absurd ?_ q0, fun _ => ?_⟩⟩⟩, hk6, fun q => (by rw [hf0] at q; cases q)⟩
      · rw [zn_cl (by omega)] at n6 ⊢
        rw [n6, zwr_s, zupd_s]
        show zNo (zwo P m v w c i) = -1
        rw [e']; rfl
      · rw [zn_cl (by omega)] at n6
        rw [n6, hf0]
        rfl
theorem s_X2_fillsPlaces {v w : Nat → Nat} {c b2 b4 : Nat} (h : zCF P m M) (hv : ∀ i, i < m → v i < 2 ^ m) (hw : ∀ i, i < m → w i < 2 ^ m) (hc : c < 2 ^ m) (hb : zar b) (hb2 : zar b2) (hb4 : zar b4) (hne : ¬ b2 = b) (hne4 : ¬ b4 = b) (hn : b ∉ [2, 3, 4]) (hr2 : zrow M b2 m w) (hr4 : zrow M b4 m v) : ∃ M', mq_C mq_X2_fillsPlaces [.ref 1, .ref b, .ref b2, .int (nI c), .ref b4] M (some (.int (zB (zwa P m v w c m))), M') ∧ zK [b] M M' ∧ (zwa P m v w c m = true → ∀ j, j < m → M'.1 b j = zNo (zwo P m v w c j)) := by
  obtain ⟨M', g1, g2, g3⟩ := s_X2_fillsPlaces_3 hv hw hc hb hb2 hb4 hne hne4 hn m 0 M (by omega) h hr2 hr4 rfl (fun j hj => absurd hj (by omega))
  exact ⟨M', t_X2_fillsPlaces_0 _ _ _ _ _ g1, g2, g3⟩
end MS
