/-! reference: a slot holds a base, a field is told, duals, quotients -/
section ZH
variable {M0 M M' : mz_M} {σ : zSg}
def zset (a : zSt) (s : Nat) (v : Nat → Nat) : zSt := (a.1, a.2.1, fun t => if t = s then v else a.2.2 t)
def znow (σ : zSg) (a : zSt) : zSg := (a, σ.2.1, σ.2.2.1, σ.2.2.2.1, σ.2.2.2.2)
theorem zset_ok {a : zSt} {s : Nat} {v : Nat → Nat} (h : zok a) (hv : zbas a.2.1 v) : zok (zset a s v) := ⟨h.1, h.2.1, fun t ht => by
  show zbas a.2.1 (if t = s then v else a.2.2 t)
  split
  · exact hv
  · exact h.2.2 t ht⟩
theorem zidx8 (s i : Nat) : ((1 : Int32) + 8 * nI s) + nI i = nI (1 + 8 * s + i) := by
  rw [show (8 : Int32) = nI 8 from rfl, pk_mul, show (1 : Int32) = nI 1 from rfl, nI_add, nI_add]
theorem s_X10_holds_6 {P m s : Nat} {v : Nat → Nat} (hs : s < 4) : ∀ (f i : Nat) (M : mz_M), i + f = m → zF P m M → zlk m v M → ∃ M', mq_G mq_X10_holds (6, [some (.ref 77), some (.int (nI s)), some (.int (nI i))], [], M) (some (.int (nI (zs (ztb P m v 0) m))), M') ∧ zK [78] M M' ∧ zlk m v M' ∧ (∀ j, i ≤ j → j < m → M'.1 78 (1 + 8 * s + j) = nI (v j)) ∧ (∀ x, (x < 1 + 8 * s + i ∨ 1 + 8 * s + m ≤ x) → M'.1 78 x = M.1 78 x)
  | 0, i, M, hi, hF, hL => by
    obtain rfl : i = m := by omega
    have h8 := hF.1.2.1
    refine ⟨M, t_X10_holds_6 _ _ _ ⟨fun _ => ⟨_, s_X10_complexityNow hF hL, rfl⟩, fun c => absurd ?_ c⟩, zK.rf _ _, hL, fun j h1 h2 => absurd h1 (by omega), fun x _ => rfl⟩
    rw [hF.2.2.1, zn_le (by omega) (by omega)]
    exact Nat.le_refl _
  | f + 1, i, M, hi, hF, hL => by
    have h8 := hF.1.2.1
    have hK : zK [78] M (mz_wr M 78 (upd (M.1 78) (1 + 8 * s + i) (nI (v i)))) := zK.wr (by simp)
    have hF' : zF P m (mz_wr M 78 (upd (M.1 78) (1 + 8 * s + i) (nI (v i)))) := ⟨hF.1, by rw [zwr_s, zupd_n (by omega)]; exact hF.2.1, by rw [zwr_n (by decide)]; exact hF.2.2.1, by rw [zwr_n (by decide)]; exact hF.2.2.2⟩
    obtain ⟨M', g1, g2, g3, g4, g5⟩ := s_X10_holds_6 hs f (i + 1) _ (by omega) hF' (hL.k hK (by decide) (by decide))
    refine ⟨M', t_X10_holds_6 _ _ _ ⟨fun c => ?_, fun _ => ⟨zn_in (by omega) (by decide), by rw [zidx8]; exact zn_in (by omega) (by decide), fun M3 e3 => ?_⟩⟩, hK.tr g2, g3, fun j h1 h2 => ?_, fun x hx => ?_⟩
    · rw [hF.2.2.1, zn_le (by omega) (by omega)] at c
      omega
    · rw [e3, zidx8, zn_cl (by omega), zn_cl (by omega), hL.2.1 i (by omega), nI_1]
      exact g1
    · by_cases e : j = i
      · subst e
        rw [g5 _ (by omega), zwr_s, zupd_s]
      · exact g4 j (by omega) h2
    · rw [g5 x (by omega), zwr_s, zupd_n (by omega)]
/-- what a deed answers that lays a base into a slot, and the state behind it -/
def zhold (σ : zSg) (s : Nat) (v : Nat → Nat) : zSg := znow (zdo σ) (zset σ.1 s v)
theorem s_X10_holds (h : zP M0 σ M) {s : Nat} {v : Nat → Nat} (hs : s < 4) (hL : zlk σ.1.2.1 v M) : ∃ M', mq_C mq_X10_holds [.ref 77, .int (nI s)] M (some (.int (nI (zs (ztb σ.1.1 σ.1.2.1 v 0) σ.1.2.1))), M') ∧ zP M0 (zhold σ s v) M' := by
  obtain ⟨M1, g1, g2, g3⟩ := s_X10_does h
  have h8 := h.g.2.1
  obtain ⟨M', k1, k2, k3, k4, k5⟩ := s_X10_holds_6 (P := σ.1.1) (m := σ.1.2.1) (v := v) hs σ.1.2.1 0 M1 (by omega) g2.F (hL.k g3 (by decide) (by decide))
  refine ⟨M', t_X10_holds_0 _ _ ⟨M1, g1, k1⟩, g2.1.k k2 (by decide), ?_, g2.2.2.1.k (k2.2 _ (by decide)) (by rw [k2.2 77 (by decide)]), g2.2.2.2.1.k (k2.2 _ (by decide)) (by rw [k2.2 77 (by decide)]), g2.2.2.2.2.1.k (k2.2 _ (by decide)) (by rw [k2.2 77 (by decide)]), g2.2.2.2.2.2.k (by rw [k2.1]) (by rw [k2.2 77 (by decide)])⟩
  refine ⟨zset_ok h.2.1.1 hL.1, ⟨?_, fun t ht i hi => ?_⟩, ?_, ?_⟩
  · rw [k5 0 (by omega)]
    exact g2.2.1.2.1.1
  · have hi : i < σ.1.2.1 := hi
    show M'.1 78 (0 + 1 + 8 * t + i) = nI ((if t = s then v else σ.1.2.2 t) i)
    rw [show 0 + 1 + 8 * t + i = 1 + 8 * t + i by omega]
    by_cases e : t = s
    · subst e
      rw [if_pos rfl]
      exact k4 i (Nat.zero_le _) hi
    · rw [if_neg e, k5 _ (by omega)]
      exact g2.s ht i hi
  · rw [k2.2 77 (by decide)]; exact g2.F.2.2.1
  · rw [k2.2 77 (by decide)]; exact g2.F.2.2.2
/-! a field told anew -/
theorem zlog_good {P m : Nat} (h : fgood P m) : zdeg (nI P) = nI m := zdeg_of h.2.2.1 h.2.2.2.1 (by have := h.2.1; omega)
theorem zone_shl {k : Nat} (hk : k < 31) : (1 : Int32) <<< (nI k &&& 31) = nI (2 ^ k) := by
  have h1 : 2 ^ k ≤ 2 ^ 30 := Nat.pow_le_pow_right (by decide) (by omega)
  have := zn_shl (n := 1) (k := k) (by omega) (by omega)
  rw [Nat.one_mul] at this
  exact this
theorem s_X10_lays {P m : Nat} (hg : fgood P m) (M : mz_M) (h0 : M.1 78 0 = nI P) : ∃ M', mq_C mq_X10_lays [.ref 77] M (none, M') ∧ zK [77] M M' ∧ (∀ k, ¬ k = 11 → ¬ k = 12 → M'.1 77 k = M.1 77 k) ∧ M'.1 77 11 = nI m ∧ M'.1 77 12 = nI (2 ^ m) := by
  refine ⟨mz_wr (mz_wr M 77 (upd (M.1 77) 11 (nI m))) 77 (upd ((mz_wr M 77 (upd (M.1 77) 11 (nI m))).1 77) 12 (nI (2 ^ m))), t_X10_lays_0 _ ⟨zn_in (a := 0) (by decide) (by decide), zdeg (nI P), ?_, fun M3 e3 M4 e4 => ?_⟩, (zK.wr (by simp)).tr (zK.wr (by simp)), fun k h1 h2 => ?_, ?_, ?_⟩
  · show mq_C mq_X10_degree [.int (M.1 78 0)] M _
    rw [h0]
    exact s_X10_degree M _
  · rw [e4, e3, zlog_good hg, zwr_s, zupd_s, zone_shl (by have := hg.2.1; omega)]
  · rw [zwr_s, zupd_n h2, zwr_s, zupd_n h1]
  · rw [zwr_s, zupd_n (by decide), zwr_s, zupd_s]
  · rw [zwr_s, zupd_s]
theorem s_X10_fields_16 {P m s : Nat} (hg : fgood P m) (hs : s < 4) : ∀ (f i : Nat) (M : mz_M), i + f = 8 → ∃ M', zK [78] M M' ∧ (∀ j, i ≤ j → j < m → M'.1 78 (1 + 8 * s + j) = nI (2 ^ j)) ∧ (∀ x, (x < 1 + 8 * s + i ∨ 1 + 8 * s + 8 ≤ x) → M'.1 78 x = M.1 78 x) ∧ ∀ res, mq_G mq_X10_fields (9, [some (.ref 77), some (.int (nI P)), some (.int (nI (s + 1))), some (.int (nI 8))], [], M') res → mq_G mq_X10_fields (16, [some (.ref 77), some (.int (nI P)), some (.int (nI s)), some (.int (nI i))], [], M) res
  | 0, i, M, hi => by
    obtain rfl : i = 8 := by omega
    refine ⟨M, zK.rf _ _, fun j h1 h2 => absurd h1 (by have := hg.2.1; omega), fun _ _ => rfl, fun res g => t_X10_fields_16 _ _ _ _ ⟨fun _ => ?_, fun c => absurd (show (8 : Int32) ≤ nI 8 by decide) c⟩⟩
    rw [nI_1]; exact g
  | f + 1, i, M, hi => by
    have h8 := hg.2.1
    have hx : nI (if m ≤ i then 0 else 2 ^ i) = if m ≤ i then (0 : Int32) else nI (2 ^ i) := by split <;> rfl
    have hK : zK [78] M (mz_wr M 78 (upd (M.1 78) (1 + 8 * s + i) (nI (if m ≤ i then 0 else 2 ^ i)))) := zK.wr (by simp)
    obtain ⟨M', g1, g2, g3, g4⟩ := s_X10_fields_16 hg hs f (i + 1) (mz_wr M 78 (upd (M.1 78) (1 + 8 * s + i) (nI (if m ≤ i then 0 else 2 ^ i)))) (by omega)
    refine ⟨M', hK.tr g1, fun j h1 h2 => ?_, fun x hx => ?_, fun res g => t_X10_fields_16 _ _ _ _ ⟨fun c => absurd c ?_, fun _ => ⟨_, s_X10_degree M _, ?_⟩⟩⟩
    · by_cases e : j = i
      · subst e
        rw [g3 _ (by omega), zwr_s, zupd_s, if_neg (by omega)]
      · exact g2 j (by omega) h2
    · rw [g3 x (by omega), zwr_s, zupd_n (by omega)]
    · show ¬ nI 8 ≤ nI i
      rw [zn_le (by decide) (by omega)]
      omega
    · rw [zlog_good hg, zn_le (by omega) (by omega)]
      have g5 := g4 res g
      refine ⟨fun c => ⟨by rw [zidx8]; exact zn_in (by omega) (by decide), fun M4 e4 => ?_⟩, fun c => ⟨by rw [zidx8]; exact zn_in (by omega) (by decide), fun M6 e6 => ?_⟩⟩
      · rw [hx, if_pos c] at g5
        rw [e4, zidx8, zn_cl (by omega), nI_1]
        exact g5
      · rw [hx, if_neg c] at g5
        rw [e6, zidx8, zn_cl (by omega), nI_1, zone_shl (by omega)]
        exact g5
theorem s_X10_fields_9 {P m : Nat} (hg : fgood P m) : ∀ (f s : Nat) (M : mz_M) (o : Option Value), s + f = 4 → M.1 78 0 = nI P → (∀ t, t < s → ∀ i, i < m → M.1 78 (1 + 8 * t + i) = nI (2 ^ i)) → ∃ M', mq_G mq_X10_fields (9, [some (.ref 77), some (.int (nI P)), some (.int (nI s)), o], [], M) (none, M') ∧ zK [77, 78] M M' ∧ (∀ k, ¬ k = 11 → ¬ k = 12 → M'.1 77 k = M.1 77 k) ∧ M'.1 77 11 = nI m ∧ M'.1 77 12 = nI (2 ^ m) ∧ M'.1 78 0 = nI P ∧ ∀ t, t < 4 → ∀ i, i < m → M'.1 78 (1 + 8 * t + i) = nI (2 ^ i)
  | 0, s, M, o, hs, h0, h1 => by
    obtain rfl : s = 4 := by omega
    obtain ⟨M', g1, g2, g3, g4, g5⟩ := s_X10_lays hg M h0
    have e := g2.2 78 (by decide)
    exact ⟨M', t_X10_fields_9 _ _ _ _ ⟨fun _ => ⟨M', g1, rfl⟩, fun c => absurd (show (4 : Int32) ≤ nI 4 by decide) c⟩, g2.sub (by decide), g3, g4, g5, by rw [e]; exact h0, fun t ht i hi => by rw [e]; exact h1 t ht i hi⟩
  | f + 1, s, M, o, hs, h0, h1 => by
    have h8 := hg.2.1
    obtain ⟨M1, g1, g2, g3, g4⟩ := s_X10_fields_16 hg (s := s) (by omega) 8 0 M rfl
    obtain ⟨M', k1, k2, k3, k4⟩ := s_X10_fields_9 hg f (s + 1) M1 (some (.int (nI 8))) (by omega) (by rw [g3 0 (by omega)]; exact h0) (fun t ht i hi => by
      by_cases e : t = s
      · subst e; exact g2 i (Nat.zero_le _) hi
      · rw [g3 _ (by omega)]; exact h1 t (by omega) i hi)
    refine ⟨M', t_X10_fields_9 _ _ _ _ ⟨fun c => absurd c ?_, fun _ => g4 _ k1⟩, (g1.sub (by decide)).tr k2, fun k a b => by rw [k3 k a b, g1.2 77 (by decide)], k4⟩
    show ¬ nI 4 ≤ nI s
    rw [zn_le (by decide) (by omega)]
    omega
theorem ind_two (m : Nat) : ind (fun i => 2 ^ i) m := fun i hi q => by
  have := sp_lt (m := i) (fun j hj => Nat.pow_lt_pow_right (by decide) hj) q
  exact absurd this (by simp)
theorem zbas_two (m : Nat) : zbas m (fun i => 2 ^ i) := ⟨ind_two m, fun i hi => Nat.pow_lt_pow_right (by decide) hi⟩
def znew (P m : Nat) : zSt := (P, m, fun _ i => 2 ^ i)
theorem znew_ok {P m g : Nat} (hc : (P, m, g) ∈ zirrs) : zok (znew P m) := ⟨(zirrs_ok _ hc).1, ⟨g, hc⟩, fun _ _ => zbas_two m⟩
theorem s_X10_fields {P m g : Nat} (hc : (P, m, g) ∈ zirrs) (h : zP M0 σ M) : ∃ M', mq_C mq_X10_fields [.ref 77, .int (nI P)] M (none, M') ∧ zP M0 (znow σ (znew P m)) M' := by
  have hg : fgood P m := (zirrs_ok _ hc).1
  have hK : zK [77, 78] M (mz_wr M 78 (upd (M.1 78) 0 (nI P))) := zK.wr (by simp)
  obtain ⟨M', k1, k2, k3, k4, k5, k6, k7⟩ := s_X10_fields_9 hg 4 0 (mz_wr M 78 (upd (M.1 78) 0 (nI P))) none rfl (by rw [zwr_s, zupd_s]) (fun t ht => absurd ht (Nat.not_lt_zero t))
  have e : ∀ k, ¬ k = 11 → ¬ k = 12 → M'.1 77 k = M.1 77 k := fun k a b => by rw [k3 k a b, zwr_n (by decide)]
  have k2' := hK.tr k2
  refine ⟨M', t_X10_fields_0 _ _ ⟨zn_in (a := 0) (by decide) (by decide), fun M1 e1 => by rw [e1]; exact k1⟩, h.1.k k2' (by decide), ⟨znew_ok hc, ⟨k6, fun s hs i hi => ?_⟩, k4, k5⟩, h.2.2.1.k (k2'.2 _ (by decide)) (e _ (by decide) (by decide)), h.2.2.2.1.k (k2'.2 _ (by decide)) (e _ (by decide) (by decide)), h.2.2.2.2.1.k (k2'.2 _ (by decide)) (e _ (by decide) (by decide)), h.2.2.2.2.2.k (by rw [k2'.1]) (e _ (by decide) (by decide))⟩
  rw [show 0 + 1 + 8 * s + i = 1 + 8 * s + i by omega]
  exact k7 s hs i hi
/-! duals, quotients, what is told of coordinates -/
theorem s_X10_tellsCoordinates {n m e : Nat} {v : Nat → Nat} {f : Nat → Int64} (h : zP M0 (zrw σ (n, f)) M) (hn : n < 16) (hm : m ≤ 8) (hL : zlk m v M) (he : e < 2 ^ m) (hx : f n = (nI (crd v m e)).toInt64) : ∃ M', mq_C mq_X10_tellsCoordinates [.ref 77, .int (nI e)] M (some (.int (nI (zpop 10 (crd v m e)))), M') ∧ zP M0 (zrw σ (n + 1, f)) M' ∧ ∀ c, ¬ c = 77 → M'.1 c = M.1 c := by
  obtain ⟨M', g1, g2, g3⟩ := s_X10_tell h hn hx
  have hq := zq256 hm
  have hc := crd_lt (v := v) (m := m) (e := e)
  have e8 : M.1 88 (nI e).toNatClampNeg = nI (crd v m e) := by rw [zn_cl (by omega), hL.2.2 e he]
  refine ⟨M', t_X10_tellsCoordinates_0 _ _ ⟨zn_in (by omega) (by decide), M', by rw [e8]; exact g1, zn_in (by omega) (by decide), _, ?_, rfl⟩, g2, g3⟩
  rw [g3 88 (by decide), e8]
  exact s_X10_bits M' (by omega)
end ZH
