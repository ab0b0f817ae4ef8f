/-! runs of the reference: subbases, NORMAL over d -/
noncomputable def zsbf (P m d : Nat) : Nat → Nat → List Nat → List Nat
  | 0, _, l => l
  | f + 1, a, l => if l.length < d then @ite _ (cj P m a d = a ∧ ¬ sp (fun i => l.getD i 0) l.length a) (Classical.propDecidable _) (zsbf P m d f (a + 1) (l ++ [a])) (zsbf P m d f (a + 1) l) else l
/-- SUBBASE d -/
noncomputable def zsub (P m d : Nat) : List Nat := zsbf P m d (2 ^ m - 1) 1 []
theorem zget_lo {l : List Nat} {a i : Nat} (h : i < l.length) : (l ++ [a]).getD i 0 = l.getD i 0 := by
  simp [List.getD, List.getElem?_append_left h]
theorem zget_at {l : List Nat} {a : Nat} : (l ++ [a]).getD l.length 0 = a := by simp [List.getD]
/-- a list so far: independent, below 2^m -/
def zlok (m : Nat) (l : List Nat) : Prop := ind (fun i => l.getD i 0) l.length ∧ ∀ i, i < l.length → l.getD i 0 < 2 ^ m
theorem zlok_add {m a : Nat} {l : List Nat} (h : zlok m l) (ha : a < 2 ^ m) (hs : ¬ sp (fun i => l.getD i 0) l.length a) : zlok m (l ++ [a]) := by
  constructor
  · intro i hi q
    rw [List.length_append, List.length_singleton] at hi
    dsimp only at q
    by_cases e : i = l.length
    · subst e
      rw [zget_at] at q
      exact hs (sp_ext (fun j hj => zget_lo hj) q)
    · rw [zget_lo (by omega)] at q
      exact h.1 i (by omega) (sp_ext (fun j hj => zget_lo (by omega)) q)
  · intro i hi
    rw [List.length_append, List.length_singleton] at hi
    by_cases e : i = l.length
    · subst e; rw [zget_at]; exact ha
    · rw [zget_lo (by omega)]; exact h.2 i (by omega)
theorem zsbf_ok {P m d : Nat} : ∀ (f a : Nat) (l : List Nat), a + f = 2 ^ m → zlok m l → l.length ≤ d → zlok m (zsbf P m d f a l) ∧ (zsbf P m d f a l).length ≤ d
  | 0, a, l, _, h, hd => ⟨h, hd⟩
  | f + 1, a, l, hf, h, hd => by
    unfold zsbf
    split
    · split
      · next hc => exact zsbf_ok f (a + 1) _ (by omega) (zlok_add h (by omega) hc.2) (by rw [List.length_append, List.length_singleton]; omega)
      · exact zsbf_ok f (a + 1) l (by omega) h hd
    · exact ⟨h, hd⟩
theorem zsub_ok (P m d : Nat) : zlok m (zsub P m d) ∧ (zsub P m d).length ≤ d :=
  zsbf_ok _ 1 [] (by have := Nat.two_pow_pos m; omega) ⟨fun i hi => absurd hi (by simp), fun i hi => absurd hi (by simp)⟩ (Nat.zero_le _)
theorem s_X10_takesSubbase_33 {P m d a n : Nat} {v : Nat → Nat} (hn : n ≤ 7) (hv : ∀ j, j < n → v j < 2 ^ m) (hva : v n = a) (ha : a < 2 ^ m) : ∀ (f i : Nat) (M : mz_M), i + f = n → zF P m M → zrow M 86 n v → zrow M 84 i v →
    ∃ (M' : mz_M) (o : Int32), zK [84, 85] M M' ∧ ((¬ sp v n a → rk v (n + 1) = rk v n + 1) ∧ (sp v n a → rk v (n + 1) = rk v n)) ∧
      ∀ res, (n < rk v (n + 1) → mq_G mq_X10_takesSubbase (4, [some (.ref 77), some (.int (nI d)), some (.int (nI (n + 1))), some (.int (nI (a + 1))), some (.int o)], [], mz_wr M' 86 (upd (M'.1 86) n (nI a))) res) → (¬ n < rk v (n + 1) → mq_G mq_X10_takesSubbase (4, [some (.ref 77), some (.int (nI d)), some (.int (nI n)), some (.int (nI (a + 1))), some (.int o)], [], M') res) →
        mq_G mq_X10_takesSubbase (33, [some (.ref 77), some (.int (nI d)), some (.int (nI n)), some (.int (nI a)), some (.int (nI i))], [], M) res
  | 0, i, M, hi, hF, h6, h4 => by
    obtain rfl : i = n := by omega
    have h8 := hF.1.2.1
    have hk : zK [84, 85] M (mz_wr M 84 (upd (M.1 84) i (nI (v i)))) := zK.wr (by simp)
    obtain ⟨M', r1, r2⟩ := s_X10_rank (n := i + 1) (by omega) _ (v := v) (fun j hj => ⟨h4.put j hj, z256 h8 (by
      by_cases e : j = i
      · rw [e, hva]; exact ha
      · exact hv j (by omega))⟩)
    refine ⟨M', nI i, hk.tr (r2.sub (by decide)), ⟨fun q => rk_out (by rw [hva]; exact q), fun q => rk_in (by rw [hva]; exact q)⟩, fun res k1 k2 => ?_⟩
    refine t_X10_takesSubbase_33 _ _ _ _ _ ⟨fun _ => ⟨zn_in (by omega) (by decide), fun M2 e2 => ⟨nI (rk v (i + 1)), M', ?_, fun c => ⟨zn_in (by omega) (by decide), fun M6 e6 => ?_⟩, fun c => ?_⟩⟩, fun c => absurd ((zn_le (by omega) (by omega)).mpr (Nat.le_refl i)) c⟩
    · rw [e2, nI_1, zn_cl (by omega), ← hva]
      exact r1
    · have := rk_le v (i + 1)
      rw [zn_lt (by omega) (by omega)] at c
      have h9 := k1 c
      rw [e6, zn_cl (by omega), nI_1, nI_1]
      exact h9
    · have := rk_le v (i + 1)
      rw [zn_lt (by omega) (by omega)] at c
      rw [nI_1]
      exact k2 c
  | f + 1, i, M, hi, hF, h6, h4 => by
    have hk : zK [84, 85] M (mz_wr M 84 (upd (M.1 84) i (nI (v i)))) := zK.wr (by simp)
    obtain ⟨M', o, g1, g2, g3⟩ := s_X10_takesSubbase_33 hn hv hva ha f (i + 1) _ (by omega) (hF.k hk (by decide) (by decide)) (h6.k hk (by decide)) h4.put
    refine ⟨M', o, hk.tr g1, g2, fun res k1 k2 => t_X10_takesSubbase_33 _ _ _ _ _ ⟨fun c => ?_, fun _ => ⟨zn_in (by omega) (by decide), zn_in (by omega) (by decide), fun M8 e8 => ?_⟩⟩⟩
    · rw [zn_le (by omega) (by omega)] at c
      omega
    · rw [e8, zn_cl (by omega), h6 i (by omega), nI_1]
      exact g3 res k1 k2
theorem s_X10_takesSubbase_4 {P m d : Nat} (hd8 : d ≤ 8) : ∀ (f a : Nat) (l : List Nat) (M : mz_M) (o : Option Value), a + f = 2 ^ m → zF P m M → zlok m l → l.length ≤ d → zrow M 86 l.length (fun i => l.getD i 0) →
    ∃ M', mq_G mq_X10_takesSubbase (4, [some (.ref 77), some (.int (nI d)), some (.int (nI l.length)), some (.int (nI a)), o], [], M) (none, M') ∧ zK [84, 85, 86] M M' ∧ zrow M' 86 (zsbf P m d f a l).length (fun i => (zsbf P m d f a l).getD i 0)
  | 0, a, l, M, o, hf, hF, hl, hd, h6 => by
    have hq := zq256 hF.1.2.1
    refine ⟨M, t_X10_takesSubbase_4 _ _ _ _ _ ⟨fun _ => rfl, fun c => absurd ?_ c⟩, zK.rf _ _, h6⟩
    rw [hF.2.2.2, zn_le (by omega) (by omega)]
    omega
  | f + 1, a, l, M, o, hf, hF, hl, hd, h6 => by
    have h8 := hF.1.2.1
    have hq := zq256 h8
    have hge : ¬ (M.1 77 12 ≤ nI a) := by
      rw [hF.2.2.2, zn_le (by omega) (by omega)]
      omega
    unfold zsbf
    by_cases hld : l.length < d
    · rw [if_pos hld]
      have hcl := cj_lt hF.1 (a := a) (by omega) d
      by_cases hc : cj P m a d = a
      · obtain ⟨M1, o1, g1, g2, g3⟩ := s_X10_takesSubbase_33 (P := P) (d := d) (n := l.length) (a := a) (v := fun i => (l ++ [a]).getD i 0) (by omega) (fun j hj => by show (l ++ [a]).getD j 0 < 2 ^ m; rw [zget_lo hj]; exact hl.2 j hj) zget_at (by omega) l.length 0 M (by omega) hF (fun j hj => by show M.1 86 j = nI ((l ++ [a]).getD j 0); rw [zget_lo hj]; exact h6 j hj) (fun j hj => absurd hj (by omega))
        have hsp : sp (fun i => (l ++ [a]).getD i 0) l.length a ↔ sp (fun i => l.getD i 0) l.length a := ⟨sp_ext (fun j hj => zget_lo hj), sp_ext (fun j hj => (zget_lo hj).symm)⟩
        have hrl : rk (fun i => (l ++ [a]).getD i 0) l.length = l.length := rk_ind.mpr (ind_ext (fun j hj => (zget_lo hj).symm) hl.1)
        have hF1 := hF.k g1 (by decide) (by decide)
        have h61 := h6.k g1 (by decide)
        have start : ∀ res, mq_G mq_X10_takesSubbase (33, [some (.ref 77), some (.int (nI d)), some (.int (nI l.length)), some (.int (nI a)), some (.int (nI 0))], [], M) res → mq_G mq_X10_takesSubbase (4, [some (.ref 77), some (.int (nI d)), some (.int (nI l.length)), some (.int (nI a)), o], [], M) res := by
          intro res g
          refine t_X10_takesSubbase_4 _ _ _ _ _ ⟨fun c => absurd c hge, fun _ => ⟨fun c => ?_, fun _ => ⟨_, s_X10_conj hF (by omega) (by omega), fun _ => g, fun c => ?_⟩⟩⟩
          · rw [zn_le (by omega) (by omega)] at c
            omega
          · rw [hc] at c
            exact absurd rfl c
        by_cases hs : sp (fun i => l.getD i 0) l.length a
        · rw [if_neg (fun q => q.2 hs)]
          have hr := g2.2 (hsp.mpr hs)
          rw [hrl] at hr
          obtain ⟨M', k1, k2, k3⟩ := s_X10_takesSubbase_4 hd8 f (a + 1) l M1 (some (.int o1)) (by omega) hF1 hl hd h61
          exact ⟨M', start _ (g3 _ (fun q => absurd q (by omega)) (fun _ => k1)), (g1.sub (by decide)).tr k2, k3⟩
        · rw [if_pos ⟨hc, hs⟩]
          have hr := g2.1 (fun q => hs (hsp.mp q))
          rw [hrl] at hr
          have hk : zK [84, 85, 86] M1 (mz_wr M1 86 (upd (M1.1 86) l.length (nI a))) := zK.wr (by simp)
          have hlen : (l ++ [a]).length = l.length + 1 := by simp
          obtain ⟨M', k1, k2, k3⟩ := s_X10_takesSubbase_4 hd8 f (a + 1) (l ++ [a]) _ (some (.int o1)) (by omega) (hF1.k hk (by decide) (by decide)) (zlok_add hl (by omega) hs) (by rw [hlen]; omega) (by
            rw [hlen]
            intro j hj
            show _ = nI ((l ++ [a]).getD j 0)
            rw [zwr_s]
            by_cases e : j = l.length
            · subst e
              rw [zupd_s, zget_at]
            · rw [zupd_n e, zget_lo (by omega)]
              exact h61 j (by omega))
          rw [hlen] at k1
          exact ⟨M', start _ (g3 _ (fun _ => k1) (fun q => absurd (by omega) q)), ((g1.sub (by decide)).tr hk).tr k2, k3⟩
      · rw [if_neg (fun q => hc q.1)]
        obtain ⟨M', k1, k2, k3⟩ := s_X10_takesSubbase_4 hd8 f (a + 1) l M o (by omega) hF hl hd h6
        refine ⟨M', t_X10_takesSubbase_4 _ _ _ _ _ ⟨fun c => absurd c hge, fun _ => ⟨fun c => ?_, fun _ => ⟨_, s_X10_conj hF (by omega) (by omega), fun c => ?_, fun _ => ?_⟩⟩⟩, k2, k3⟩
        · rw [zn_le (by omega) (by omega)] at c
          omega
        · rw [zn_eq (z31 h8 hcl) (by omega)] at c
          exact absurd c hc
        · rw [nI_1]; exact k1
    · rw [if_neg hld]
      refine ⟨M, t_X10_takesSubbase_4 _ _ _ _ _ ⟨fun c => absurd c hge, fun _ => ⟨fun _ => rfl, fun c => absurd ?_ c⟩⟩, zK.rf _ _, h6⟩
      rw [zn_le (by omega) (by omega)]
      omega
theorem s_X10_takesSubbase {P m d : Nat} {M : mz_M} (hd8 : d ≤ 8) (hF : zF P m M) : ∃ M', mq_C mq_X10_takesSubbase [.ref 77, .int (nI d)] M (none, M') ∧ zK [84, 85, 86] M M' ∧ zrow M' 86 (zsub P m d).length (fun i => (zsub P m d).getD i 0) := by
  obtain ⟨M', k1, k2, k3⟩ := s_X10_takesSubbase_4 (P := P) hd8 (2 ^ m - 1) 1 [] M none (by have := Nat.two_pow_pos m; omega) hF ⟨fun i hi => absurd hi (by simp), fun i hi => absurd hi (by simp)⟩ (Nat.zero_le _) (fun j hj => absurd hj (by simp))
  exact ⟨M', t_X10_takesSubbase_0 _ _ k1, k2, k3⟩
/-- the products by which a is NORMAL over d, in their order -/
noncomputable def zno (P m a d n : Nat) : Nat := fm P m ((zsub P m d).getD (n % d) 0) (cj P m a (n - n % d))
theorem zno_lt {P m a d n : Nat} (h : fgood P m) (hd : 0 < d) (hs : (zsub P m d).length = d) : zno P m a d n < 2 ^ m := fm_lt h ((zsub_ok P m d).1.2 _ (by rw [hs]; exact Nat.mod_lt _ hd))
theorem s_X10_isNormalOver_22 {P m a d : Nat} (ha : a < 2 ^ m) (hd : 0 < d) (hdm : d ≤ m) (hs : (zsub P m d).length = d) (k : Nat) (hk : k + d ≤ m) (hkd : k % d = 0) : ∀ (f i : Nat) (M : mz_M), i + f = d → zF P m M → zrow M 86 d (fun i => (zsub P m d).getD i 0) → zrow M 84 (k + i) (zno P m a d) →
    ∃ (M' : mz_M) (o : Int32), zK [84] M M' ∧ zrow M' 84 (k + d) (zno P m a d) ∧ ∀ res, mq_G mq_X10_isNormalOver (10, [some (.ref 77), some (.int (nI a)), some (.int (nI d)), some (.int (nI (k + d))), some (.int (nI (k + d))), some (.int o)], [], M') res → mq_G mq_X10_isNormalOver (22, [some (.ref 77), some (.int (nI a)), some (.int (nI d)), some (.int (nI (k + i))), some (.int (nI k)), some (.int (nI i))], [], M) res
  | 0, i, M, hi, hF, h6, h4 => by
    obtain rfl : i = d := by omega
    have h8 := hF.1.2.1
    refine ⟨M, nI i, zK.rf _ _, h4, fun res g => t_X10_isNormalOver_22 _ _ _ _ _ _ ⟨fun _ => ?_, fun c => absurd ((zn_le (by omega) (by omega)).mpr (Nat.le_refl i)) c⟩⟩
    rw [nI_add]; exact g
  | f + 1, i, M, hi, hF, h6, h4 => by
    have h8 := hF.1.2.1
    have e1 : (k + i) % d = i := by rw [Nat.add_mod, hkd, Nat.zero_add, Nat.mod_mod, Nat.mod_eq_of_lt (by omega)]
    have e2 : zno P m a d (k + i) = fm P m ((zsub P m d).getD i 0) (cj P m a k) := by
      unfold zno
      rw [e1, Nat.add_sub_cancel]
    have hK : zK [84] M (mz_wr M 84 (upd (M.1 84) (k + i) (nI (zno P m a d (k + i))))) := zK.wr (by simp)
    obtain ⟨M', o, g1, g2, g3⟩ := s_X10_isNormalOver_22 ha hd hdm hs k hk hkd f (i + 1) _ (by omega) (hF.k hK (by decide) (by decide)) (h6.k hK (by decide)) h4.put
    refine ⟨M', o, hK.tr g1, g2, fun res g => t_X10_isNormalOver_22 _ _ _ _ _ _ ⟨fun c => ?_, fun _ => ⟨zn_in (by omega) (by decide), _, s_X10_conj hF ha (by omega), nI (zno P m a d (k + i)), ?_, zn_in (by omega) (by decide), fun M5 e5 => ?_⟩⟩⟩
    · rw [zn_le (by omega) (by omega)] at c
      omega
    · rw [zn_cl (by omega), h6 i (by omega), e2]
      exact s_X10_times M hF.1 hF.2.1 ((zsub_ok P m d).1.2 _ (by omega)) (cj_lt hF.1 ha k)
    · rw [e5, zn_cl (by omega), nI_1, nI_1]
      exact g3 res g
theorem s_X10_isNormalOver_10 {P m a d : Nat} (ha : a < 2 ^ m) (hd : 0 < d) (hdm : d ≤ m) (hmd : m % d = 0) (hs : (zsub P m d).length = d) : ∀ (f k : Nat) (M : mz_M) (o : Option Value), k + d * f = m → k % d = 0 → zF P m M → zrow M 86 d (fun i => (zsub P m d).getD i 0) → zrow M 84 k (zno P m a d) →
    ∃ M', mq_G mq_X10_isNormalOver (10, [some (.ref 77), some (.int (nI a)), some (.int (nI d)), some (.int (nI k)), some (.int (nI k)), o], [], M) (some (.int (zB (@decide (ind (zno P m a d) m) (Classical.propDecidable _)))), M') ∧ zK [84, 85] M M'
  | 0, k, M, o, hk, hkd, hF, h6, h4 => by
    obtain rfl : k = m := by omega
    have h8 := hF.1.2.1
    obtain ⟨M2, r1, r2⟩ := s_X10_rank h8 M (v := zno P k a d) (fun j hj => ⟨h4 j hj, z256 h8 (zno_lt hF.1 hd hs)⟩)
    have hF2 := hF.k r2 (by decide) (by decide)
    refine ⟨M2, t_X10_isNormalOver_10 _ _ _ _ _ _ ⟨fun _ => ⟨nI (rk (zno P k a d) k), M2, by rw [hF.2.2.1]; exact r1, fun c => ?_, fun c => ?_⟩, fun c => absurd ?_ c⟩, r2.sub (by decide)⟩
    · rw [hF2.2.2.1, zn_eq (by have := rk_le (zno P k a d) k; omega) (by omega), rk_ind] at c
      rw [(@decide_eq_false_iff_not _ (Classical.propDecidable _)).mpr c]
      rfl
    · rw [hF2.2.2.1, zn_eq (by have := rk_le (zno P k a d) k; omega) (by omega), rk_ind] at c
      rw [(@decide_eq_true_iff _ (Classical.propDecidable _)).mpr (Classical.not_not.mp c)]
      rfl
    · rw [hF.2.2.1, zn_le (by omega) (by omega)]
      exact Nat.le_refl _
  | f + 1, k, M, o, hk, hkd, hF, h6, h4 => by
    have h8 := hF.1.2.1
    have hstep : k + d + d * f = m := by rw [Nat.mul_succ] at hk; omega
    have hle : k + d ≤ m := by
      have : 0 ≤ d * f := Nat.zero_le _
      omega
    obtain ⟨M1, o1, g1, g2, g3⟩ := s_X10_isNormalOver_22 ha hd hdm hs k hle hkd d 0 M (by omega) hF h6 h4
    obtain ⟨M', k1, k2⟩ := s_X10_isNormalOver_10 ha hd hdm hmd hs f (k + d) M1 (some (.int o1)) hstep (by rw [Nat.add_mod_right]; exact hkd) (hF.k g1 (by decide) (by decide)) (h6.k g1 (by decide)) g2
    refine ⟨M', t_X10_isNormalOver_10 _ _ _ _ _ _ ⟨fun c => ?_, fun _ => g3 _ k1⟩, (g1.sub (by decide)).tr k2⟩
    rw [hF.2.2.1, zn_le (by omega) (by omega)] at c
    omega
theorem s_X10_isNormalOver {P m a d : Nat} {M : mz_M} (ha : a < 2 ^ m) (hd : 0 < d) (hdm : d ≤ m) (hmd : m % d = 0) (hs : (zsub P m d).length = d) (hF : zF P m M) : ∃ M', mq_C mq_X10_isNormalOver [.ref 77, .int (nI a), .int (nI d)] M (some (.int (zB (@decide (ind (zno P m a d) m) (Classical.propDecidable _)))), M') ∧ zK [84, 85, 86] M M' := by
  have h8 := hF.1.2.1
  obtain ⟨M1, g1, g2, g3⟩ := s_X10_takesSubbase (d := d) (by omega) hF
  rw [hs] at g3
  have hdiv := Nat.div_add_mod m d
  obtain ⟨M', k1, k2⟩ := s_X10_isNormalOver_10 ha hd hdm hmd hs (m / d) 0 M1 none (by omega) (Nat.zero_mod d) (hF.k g2 (by decide) (by decide)) g3 (fun j hj => absurd hj (by omega))
  exact ⟨M', t_X10_isNormalOver_0 _ _ _ ⟨M1, g1, k1⟩, g2.tr (k2.sub (by decide))⟩
