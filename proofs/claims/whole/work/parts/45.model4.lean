/-! runs of the reference: weight, normal bases, places, duals -/
theorem s_X10_weightNow_14 {P m i : Nat} {v : Nat → Nat} {M : mz_M} (hF : zF P m M) (hL : zlk m v M) (hi : i < m) (A : Nat) {res : mz_O}
    (kk : ∀ x3 : Int32, mq_G mq_X10_weightNow (4, [some (.ref 77), some (.int (nI (A + zs (fun k => ztb P m v i (i + k)) (m - i)))), some (.int (nI (i + 1))), some (.int x3)], [], M) res) : ∀ (f t : Nat), i + t + f = m → mq_G mq_X10_weightNow (14, [some (.ref 77), some (.int (nI (A + zs (fun k => ztb P m v i (i + k)) t))), some (.int (nI i)), some (.int (nI (i + t)))], [], M) res
  | 0, t, ht => by
    have h8 := hF.1.2.1
    obtain rfl : t = m - i := by omega
    refine t_X10_weightNow_14 _ _ _ _ ⟨fun _ => ?_, fun c => absurd ?_ c⟩
    · rw [nI_1]; exact kk _
    · rw [hF.2.2.1, zn_le (by omega) (by omega)]
      omega
  | f + 1, t, ht => by
    have h8 := hF.1.2.1
    have hq := zq256 h8
    have ih := s_X10_weightNow_14 hF hL hi A kk f (t + 1) (by omega)
    have hl := fm_lt hF.1 (b := v (i + t)) (hL.1.2 i hi)
    have hc := crd_lt (v := v) (m := m) (e := fm P m (v i) (v (i + t)))
    refine t_X10_weightNow_14 _ _ _ _ ⟨fun c => ?_, fun _ => ⟨zn_in (by omega) (by decide), zn_in (by omega) (by decide), nI (fm P m (v i) (v (i + t))), ?_, zn_in (by omega) (by decide), nI (ztb P m v i (i + t)), ?_, ?_⟩⟩
    · rw [hF.2.2.1, zn_le (by omega) (by omega)] at c
      omega
    · rw [zn_cl (by omega), zn_cl (by omega), hL.2.1 i hi, hL.2.1 (i + t) (by omega)]
      exact s_X10_times M hF.1 hF.2.1 (hL.1.2 i hi) (hL.1.2 (i + t) (by omega))
    · rw [zn_cl (by omega), hL.2.2 _ hl]
      exact s_X10_bits M (by omega)
    · rw [nI_add, nI_1, Nat.add_assoc A, Nat.add_assoc i]
      exact ih
/-- WEIGHT -/
noncomputable def zwt (P m : Nat) (v : Nat → Nat) : Nat := zs (fun i => zs (fun k => ztb P m v i (i + k)) (m - i)) m
theorem s_X10_weightNow_4 {P m : Nat} {v : Nat → Nat} {M : mz_M} (hF : zF P m M) (hL : zlk m v M) : ∀ (f i : Nat) (o : Option Value), i + f = m → mq_G mq_X10_weightNow (4, [some (.ref 77), some (.int (nI (zs (fun i => zs (fun k => ztb P m v i (i + k)) (m - i)) i))), some (.int (nI i)), o], [], M) (some (.int (nI (zwt P m v))), M)
  | 0, i, o, hi => by
    obtain rfl : i = m := by omega
    have h8 := hF.1.2.1
    refine t_X10_weightNow_4 _ _ _ _ ⟨fun _ => rfl, fun c => absurd ?_ c⟩
    rw [hF.2.2.1, zn_le (by omega) (by omega)]
    exact Nat.le_refl _
  | f + 1, i, o, hi => by
    have h8 := hF.1.2.1
    refine t_X10_weightNow_4 _ _ _ _ ⟨fun c => ?_, fun _ => ?_⟩
    · rw [hF.2.2.1, zn_le (by omega) (by omega)] at c
      omega
    · exact s_X10_weightNow_14 hF hL (by omega) _ (fun x3 => s_X10_weightNow_4 hF hL f (i + 1) _ (by omega)) (m - i) 0 (by omega)
theorem s_X10_weightNow {P m : Nat} {v : Nat → Nat} {M : mz_M} (hF : zF P m M) (hL : zlk m v M) : mq_C mq_X10_weightNow [.ref 77] M (some (.int (nI (zwt P m v))), M) :=
  t_X10_weightNow_0 _ (s_X10_weightNow_4 hF hL m 0 none (by omega))
/-- a base is the conjugates of its first element -/
def znb (P m : Nat) (v : Nat → Nat) : Bool := decide (∀ i, i < m → 0 < i → v i = fm P m (v (i - 1)) (v (i - 1)))
theorem znb_cj {P m : Nat} {v : Nat → Nat} (h : znb P m v = true) : ∀ i, i < m → v i = cj P m (v 0) i
  | 0, _ => rfl
  | i + 1, hi => by
    have h1 := of_decide_eq_true h (i + 1) hi (by omega)
    rw [h1, show i + 1 - 1 = i from rfl, znb_cj h i (by omega)]
    rfl
theorem ind_ext {v w : Nat → Nat} {n : Nat} (h : ∀ i, i < n → v i = w i) (hv : ind v n) : ind w n := fun i hi q => by
  refine hv i hi ?_
  rw [h i hi]
  exact sp_ext (fun j hj => (h j (by omega)).symm) q
theorem s_X10_isNormalBase_2 {P m : Nat} {v : Nat → Nat} {M : mz_M} (hF : zF P m M) (hb : zbas m v) (hr : zrow M 87 m v) : ∀ (f i : Nat), i + f = m → 1 ≤ i → (∀ j, j < i → 0 < j → v j = fm P m (v (j - 1)) (v (j - 1))) → ∃ M', mq_G mq_X10_isNormalBase (2, [some (.ref 77), some (.int (nI i))], [], M) (some (.int (zB (znb P m v))), M') ∧ zK [84, 85] M M'
  | 0, i, hi, h1, hz => by
    obtain rfl : i = m := by omega
    have h8 := hF.1.2.1
    have e : znb P i v = true := decide_eq_true hz
    obtain ⟨M', g1, g2, -⟩ := s_X10_isNormal hF (hb.2 0 (by omega))
    rw [znor_iff.mpr (ind_ext (fun j hj => znb_cj e j hj) hb.1)] at g1
    refine ⟨M', t_X10_isNormalBase_2 _ _ ⟨fun _ => ⟨zn_in (a := 0) (by decide) (by decide), _, M', ?_, Or.inr rfl, ?_⟩, fun c => absurd ?_ c⟩, g2⟩
    · show mq_C mq_X10_isNormal [.ref 77, .int (M.1 87 0)] M (some (.int 1), M')
      rw [hr 0 (by omega)]
      exact g1
    · rw [e]; rfl
    · rw [hF.2.2.1, zn_le (by omega) (by omega)]
      exact Nat.le_refl _
  | f + 1, i, hi, h1, hz => by
    have h8 := hF.1.2.1
    have hp : (nI i - 1) = nI (i - 1) := zn_sub (b := 1) h1
    have hl := hb.2 (i - 1) (by omega)
    have hl2 := fm_lt hF.1 (b := v (i - 1)) hl
    by_cases hv : v i = fm P m (v (i - 1)) (v (i - 1))
    · obtain ⟨M', g1, g2⟩ := s_X10_isNormalBase_2 hF hb hr f (i + 1) (by omega) (by omega) (fun j hj hj0 => by
        by_cases e : j = i
        · rw [e]; exact hv
        · exact hz j (by omega) hj0)
      refine ⟨M', t_X10_isNormalBase_2 _ _ ⟨fun c => ?_, fun _ => ⟨zn_in (by omega) (by decide), by rw [hp]; exact zn_in (by omega) (by decide), by rw [hp]; exact zn_in (by omega) (by decide), nI (fm P m (v (i - 1)) (v (i - 1))), ?_, fun _ => ?_, fun c => absurd ?_ c⟩⟩, g2⟩
      · rw [hF.2.2.1, zn_le (by omega) (by omega)] at c
        omega
      · rw [hp, zn_cl (by omega), hr (i - 1) (by omega)]
        exact s_X10_times M hF.1 hF.2.1 hl hl
      · rw [nI_1]; exact g1
      · rw [zn_cl (by omega), hr i (by omega), hv]
    · have e : znb P m v = false := decide_eq_false (fun q => hv (q i (by omega) (by omega)))
      refine ⟨M, t_X10_isNormalBase_2 _ _ ⟨fun c => ?_, fun _ => ⟨zn_in (by omega) (by decide), by rw [hp]; exact zn_in (by omega) (by decide), by rw [hp]; exact zn_in (by omega) (by decide), nI (fm P m (v (i - 1)) (v (i - 1))), ?_, fun c => absurd ?_ hv, fun _ => by rw [e]; rfl⟩⟩, zK.rf _ _⟩
      · rw [hF.2.2.1, zn_le (by omega) (by omega)] at c
        omega
      · rw [hp, zn_cl (by omega), hr (i - 1) (by omega)]
        exact s_X10_times M hF.1 hF.2.1 hl hl
      · rw [zn_cl (by omega), hr i (by omega), zn_eq (z31 h8 (hb.2 i (by omega))) (z31 h8 hl2)] at c
        exact c
theorem s_X10_isNormalBase {P m : Nat} {v : Nat → Nat} {M : mz_M} (hF : zF P m M) (hb : zbas m v) (hr : zrow M 87 m v) : ∃ M', mq_C mq_X10_isNormalBase [.ref 77] M (some (.int (zB (znb P m v))), M') ∧ zK [84, 85] M M' := by
  obtain ⟨M', g1, g2⟩ := s_X10_isNormalBase_2 hF hb hr (m - 1) 1 (by have := hF.1.1; omega) (by omega) (fun j hj hj0 => by omega)
  exact ⟨M', t_X10_isNormalBase_0 _ g1, g2⟩
theorem s_X10_takesBase_2 {P m s : Nat} {v : Nat → Nat} (hs : s < 4) : ∀ (f i : Nat) (M : mz_M), i + f = m → zF P m M → zsl m s v M → zrow M 84 i v → ∃ M', mq_G mq_X10_takesBase (2, [some (.ref 77), some (.int (nI s)), some (.int (nI i))], [], M) (none, M') ∧ zK [84] M M' ∧ zrow M' 84 m v
  | 0, i, M, hi, hF, hv, hr => by
    obtain rfl : i = m := by omega
    have h8 := hF.1.2.1
    refine ⟨M, t_X10_takesBase_2 _ _ _ ⟨fun _ => rfl, fun c => absurd ?_ c⟩, zK.rf _ _, hr⟩
    rw [hF.2.2.1, zn_le (by omega) (by omega)]
    exact Nat.le_refl _
  | f + 1, i, M, hi, hF, hv, hr => by
    have h8 := hF.1.2.1
    have hk : zK [84] M (mz_wr M 84 (upd (M.1 84) i (nI (v i)))) := zK.wr (by simp)
    obtain ⟨M', g1, g2, g3⟩ := s_X10_takesBase_2 hs f (i + 1) _ (by omega) (hF.k hk (by decide) (by decide)) (fun j hj => by rw [hk.2 78 (by decide)]; exact hv j hj) hr.put
    refine ⟨M', t_X10_takesBase_2 _ _ _ ⟨fun c => ?_, fun _ => ⟨_, s_X10_baseAt M hs (by omega), zn_in (by omega) (by decide), fun M3 e3 => ?_⟩⟩, hk.tr g2, g3⟩
    · rw [hF.2.2.1, zn_le (by omega) (by omega)] at c
      omega
    · rw [e3, zn_cl (by omega), nI_1, hv i (by omega)]
      exact g1
theorem s_X10_takesBase {P m s : Nat} {v : Nat → Nat} {M : mz_M} (hs : s < 4) (hF : zF P m M) (hv : zsl m s v M) : ∃ M', mq_C mq_X10_takesBase [.ref 77, .int (nI s)] M (none, M') ∧ zK [84] M M' ∧ zrow M' 84 m v := by
  obtain ⟨M', g1, g2, g3⟩ := s_X10_takesBase_2 hs m 0 M (by omega) hF hv (fun j hj => absurd hj (by omega))
  exact ⟨M', t_X10_takesBase_0 _ _ g1, g2, g3⟩
/-- the first place from i on at which a stands -/
def zpl (m : Nat) (v : Nat → Nat) (a : Nat) : Nat → Nat → Option Nat
  | 0, _ => none
  | f + 1, i => if v i = a then some i else zpl m v a f (i + 1)
def zNo (o : Option Nat) : Int32 := match o with
  | none => -1
  | some i => nI i
theorem s_X10_placeOf_2 {P m s a : Nat} {v : Nat → Nat} {M : mz_M} (hs : s < 4) (hF : zF P m M) (hv : zsl m s v M) (hl : ∀ i, i < m → v i < 2 ^ m) (ha : a < 2 ^ m) : ∀ (f i : Nat), i + f = m → mq_G mq_X10_placeOf (2, [some (.ref 77), some (.int (nI s)), some (.int (nI a)), some (.int (nI i))], [], M) (some (.int (zNo (zpl m v a f i))), M)
  | 0, i, hi => by
    obtain rfl : i = m := by omega
    have h8 := hF.1.2.1
    refine t_X10_placeOf_2 _ _ _ _ ⟨fun _ => rfl, fun c => absurd ?_ c⟩
    rw [hF.2.2.1, zn_le (by omega) (by omega)]
    exact Nat.le_refl _
  | f + 1, i, hi => by
    have h8 := hF.1.2.1
    refine t_X10_placeOf_2 _ _ _ _ ⟨fun c => ?_, fun _ => ⟨_, s_X10_baseAt M hs (by omega), ?_⟩⟩
    · rw [hF.2.2.1, zn_le (by omega) (by omega)] at c
      omega
    · rw [hv i (by omega), zn_eq (z31 h8 (hl i (by omega))) (z31 h8 ha)]
      refine ⟨fun c => ?_, fun c => ?_⟩
      · simp only [zpl, c, if_false]
        rw [nI_1]
        exact s_X10_placeOf_2 hs hF hv hl ha f (i + 1) (by omega)
      · simp only [zpl, Decidable.not_not.mp c, if_true]
        rfl
theorem s_X10_placeOf {P m s a : Nat} {v : Nat → Nat} {M : mz_M} (hs : s < 4) (hF : zF P m M) (hv : zsl m s v M) (hl : ∀ i, i < m → v i < 2 ^ m) (ha : a < 2 ^ m) : mq_C mq_X10_placeOf [.ref 77, .int (nI s), .int (nI a)] M (some (.int (zNo (zpl m v a m 0))), M) :=
  t_X10_placeOf_0 _ _ _ (s_X10_placeOf_2 hs hF hv hl ha m 0 (by omega))
/-- TRACE alone -/
def zT (P m a : Nat) : Nat := ztr P m a 1 8 0 0
theorem ztr_lt {P m a d : Nat} (h : fgood P m) (ha : a < 2 ^ m) : ∀ f k v, v < 2 ^ m → ztr P m a d f k v < 2 ^ m
  | 0, k, v, hv => hv
  | f + 1, k, v, hv => by
    unfold ztr
    split
    · exact hv
    · exact ztr_lt h ha f _ _ (Nat.xor_lt_two_pow hv (cj_lt h ha k))
theorem zT_lt {P m a : Nat} (h : fgood P m) (ha : a < 2 ^ m) : zT P m a < 2 ^ m := ztr_lt h ha 8 0 0 (Nat.two_pow_pos m)
/-- is a at place j of the dual, as far as the places from i on go -/
def zda (P m : Nat) (v : Nat → Nat) (j a : Nat) : Nat → Nat → Bool
  | 0, _ => true
  | f + 1, i => if zT P m (fm P m (v i) a) = (if i = j then 1 else 0) then zda P m v j a f (i + 1) else false
/-- the first a from a0 on of which p is true; 0: none -/
def zfd (p : Nat → Bool) : Nat → Nat → Nat
  | 0, _ => 0
  | f + 1, a => if p a = true then a else zfd p f (a + 1)
theorem s_X10_dualAt_16 {P m s j a : Nat} {v : Nat → Nat} {M : mz_M} (hs : s < 4) (hF : zF P m M) (hv : zsl m s v M) (hl : ∀ i, i < m → v i < 2 ^ m) (ha : a < 2 ^ m) (hj : j < m) {res : mz_O} : ∀ (f i : Nat), i + f = m →
    (zda P m v j a f i = true → res = (some (.int (nI a)), M)) → (zda P m v j a f i = false → ∀ o4 o5 : Option Value, mq_G mq_X10_dualAt (2, [some (.ref 77), some (.int (nI s)), some (.int (nI j)), some (.int (nI (a + 1))), o4, o5], [], M) res) → mq_G mq_X10_dualAt (16, [some (.ref 77), some (.int (nI s)), some (.int (nI j)), some (.int (nI a)), some (.int 1), some (.int (nI i))], [], M) res
  | 0, i, hi, k1, k2 => by
    obtain rfl : i = m := by omega
    have h8 := hF.1.2.1
    refine t_X10_dualAt_16 _ _ _ _ _ _ ⟨fun _ => ⟨fun c => absurd c (by decide), fun _ => k1 rfl⟩, fun c => absurd ?_ c⟩
    rw [hF.2.2.1, zn_le (by omega) (by omega)]
    exact Nat.le_refl _
  | f + 1, i, hi, k1, k2 => by
    have h8 := hF.1.2.1
    have hp := fm_lt hF.1 (b := a) (hl i (by omega))
    have ht := zT_lt hF.1 hp
    have dead : zda P m v j a (f + 1) i = false → mq_G mq_X10_dualAt (16, [some (.ref 77), some (.int (nI s)), some (.int (nI j)), some (.int (nI a)), some (.int 0), some (.int (nI i + 1))], [], M) res := by
      intro hd
      have h2 := k2 hd
      rw [← nI_1] at h2
      refine t_X10_dualAt_16 _ _ _ _ _ _ ⟨fun _ => ⟨fun _ => h2 _ _, fun c => absurd rfl c⟩, fun _ => ⟨fun _ => ⟨fun _ => h2 _ _, fun c => absurd rfl c⟩, fun c => absurd rfl c⟩⟩
    have live : zT P m (fm P m (v i) a) = (if i = j then 1 else 0) → mq_G mq_X10_dualAt (16, [some (.ref 77), some (.int (nI s)), some (.int (nI j)), some (.int (nI a)), some (.int 1), some (.int (nI i + 1))], [], M) res := by
      intro e
      rw [nI_1]
      exact s_X10_dualAt_16 hs hF hv hl ha hj f (i + 1) (by omega) (fun q => k1 (by simp only [zda, e, if_true]; exact q)) (fun q => k2 (by simp only [zda, e, if_true]; exact q))
    refine t_X10_dualAt_16 _ _ _ _ _ _ ⟨fun c => ?_, fun _ => ⟨fun c => absurd c (by decide), fun _ => ⟨_, s_X10_baseAt M hs (by omega), nI (fm P m (v i) a), ?_, nI (zT P m (fm P m (v i) a)), s_X10_traceTo hF hp (by decide) (by decide), ?_⟩⟩⟩
    · rw [hF.2.2.1, zn_le (by omega) (by omega)] at c
      omega
    · rw [hv i (by omega)]
      exact s_X10_times M hF.1 hF.2.1 (hl i (by omega)) ha
    · rw [zn_eq (by omega) (by omega), zn_eq0 (z31 h8 ht), show (1 : Int32) = nI 1 from rfl, zn_eq (z31 h8 ht) (by decide)]
      refine ⟨fun c => ⟨fun c2 => dead ?_, fun c2 => live ?_⟩, fun c => ⟨fun c2 => dead ?_, fun c2 => live ?_⟩⟩
      · simp [zda, c, c2]
      · rw [if_neg c]; exact Decidable.not_not.mp c2
      · unfold zda
        rw [if_neg (by rw [if_pos (Decidable.not_not.mp c)]; exact c2)]
      · rw [if_pos (Decidable.not_not.mp c)]; exact Decidable.not_not.mp c2
theorem s_X10_dualAt_2 {P m s j : Nat} {v : Nat → Nat} {M : mz_M} (hs : s < 4) (hF : zF P m M) (hv : zsl m s v M) (hl : ∀ i, i < m → v i < 2 ^ m) (hj : j < m) : ∀ (f a : Nat), a + f = 2 ^ m → ∀ (o4 o5 : Option Value), mq_G mq_X10_dualAt (2, [some (.ref 77), some (.int (nI s)), some (.int (nI j)), some (.int (nI a)), o4, o5], [], M) (some (.int (nI (zfd (fun a => zda P m v j a m 0) f a))), M)
  | 0, a, hf, o4, o5 => by
    have hq := zq256 hF.1.2.1
    refine t_X10_dualAt_2 _ _ _ _ _ _ ⟨fun _ => rfl, fun c => absurd ?_ c⟩
    rw [hF.2.2.2, zn_le (by omega) (by omega)]
    omega
  | f + 1, a, hf, o4, o5 => by
    have hq := zq256 hF.1.2.1
    refine t_X10_dualAt_2 _ _ _ _ _ _ ⟨fun c => ?_, fun _ => ?_⟩
    · rw [hF.2.2.2, zn_le (by omega) (by omega)] at c
      omega
    · refine s_X10_dualAt_16 hs hF hv hl (by omega) hj m 0 (by omega) (fun q => ?_) (fun q o4 o5 => ?_)
      · simp only [zfd, q, if_true]
      · have ih := s_X10_dualAt_2 hs hF hv hl hj f (a + 1) (by omega) o4 o5
        simp only [zfd, q]
        exact ih
/-- the dual, as the reference finds it -/
def zdl (P m : Nat) (v : Nat → Nat) (j : Nat) : Nat := zfd (fun a => zda P m v j a m 0) (2 ^ m - 1) 1
theorem s_X10_dualAt {P m s j : Nat} {v : Nat → Nat} {M : mz_M} (hs : s < 4) (hF : zF P m M) (hv : zsl m s v M) (hl : ∀ i, i < m → v i < 2 ^ m) (hj : j < m) : mq_C mq_X10_dualAt [.ref 77, .int (nI s), .int (nI j)] M (some (.int (nI (zdl P m v j))), M) :=
  t_X10_dualAt_0 _ _ _ (s_X10_dualAt_2 hs hF hv hl hj (2 ^ m - 1) 1 (by have := Nat.two_pow_pos m; omega) none none)
theorem s_X10_takesDual_2 {P m s : Nat} {v : Nat → Nat} (hs : s < 4) (hl : ∀ i, i < m → v i < 2 ^ m) : ∀ (f i : Nat) (M : mz_M), i + f = m → zF P m M → zsl m s v M → zrow M 89 i (zdl P m v) → ∃ M', mq_G mq_X10_takesDual (2, [some (.ref 77), some (.int (nI s)), some (.int (nI i))], [], M) (none, M') ∧ zK [89] M M' ∧ zrow M' 89 m (zdl P m v)
  | 0, i, M, hi, hF, hv, hr => by
    obtain rfl : i = m := by omega
    have h8 := hF.1.2.1
    refine ⟨M, t_X10_takesDual_2 _ _ _ ⟨fun _ => rfl, fun c => absurd ?_ c⟩, zK.rf _ _, hr⟩
    rw [hF.2.2.1, zn_le (by omega) (by omega)]
    exact Nat.le_refl _
  | f + 1, i, M, hi, hF, hv, hr => by
    have h8 := hF.1.2.1
    have hk : zK [89] M (mz_wr M 89 (upd (M.1 89) i (nI (zdl P m v i)))) := zK.wr (by simp)
    obtain ⟨M', g1, g2, g3⟩ := s_X10_takesDual_2 hs hl f (i + 1) _ (by omega) (hF.k hk (by decide) (by decide)) (fun j hj => by rw [hk.2 78 (by decide)]; exact hv j hj) hr.put
    refine ⟨M', t_X10_takesDual_2 _ _ _ ⟨fun c => ?_, fun _ => ⟨_, s_X10_dualAt hs hF hv hl (by omega), zn_in (by omega) (by decide), fun M3 e3 => ?_⟩⟩, hk.tr g2, g3⟩
    · rw [hF.2.2.1, zn_le (by omega) (by omega)] at c
      omega
    · rw [e3, zn_cl (by omega), nI_1]
      exact g1
theorem s_X10_takesDual {P m s : Nat} {v : Nat → Nat} {M : mz_M} (hs : s < 4) (hF : zF P m M) (hv : zsl m s v M) (hl : ∀ i, i < m → v i < 2 ^ m) : ∃ M', mq_C mq_X10_takesDual [.ref 77, .int (nI s)] M (none, M') ∧ zK [89] M M' ∧ zrow M' 89 m (zdl P m v) := by
  obtain ⟨M', g1, g2, g3⟩ := s_X10_takesDual_2 hs hl m 0 M (by omega) hF hv (fun j hj => absurd hj (by omega))
  exact ⟨M', t_X10_takesDual_0 _ _ g1, g2, g3⟩
