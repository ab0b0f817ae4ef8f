/-! calls of the reference: leastNormal, leastPowers, quadratic -/
theorem zpop_le : ∀ f n, zpop f n ≤ f
  | 0, _ => Nat.le_refl _
  | f + 1, n => by
    have := zpop_le f (n / 2)
    show n % 2 + zpop f (n / 2) ≤ f + 1
    omega
theorem zs_le {f : Nat → Nat} {b : Nat} (h : ∀ i, f i ≤ b) : ∀ n, zs f n ≤ n * b
  | 0 => Nat.zero_le _
  | n + 1 => by
    have := zs_le h n
    have := h n
    show zs f n + f n ≤ _
    rw [Nat.succ_mul]
    omega
theorem ztb_le (P m : Nat) (v : Nat → Nat) (i j : Nat) : ztb P m v i j ≤ 10 := zpop_le _ _
theorem zcx_le {P m : Nat} (v : Nat → Nat) (h : m ≤ 8) : zs (ztb P m v 0) m ≤ 80 := by
  have := zs_le (ztb_le P m v 0) m
  omega
theorem zwt_le {P m : Nat} (v : Nat → Nat) (h : m ≤ 8) : zwt P m v ≤ 640 := by
  have h1 : ∀ i, zs (fun k => ztb P m v i (i + k)) (m - i) ≤ 80 := fun i => by
    have := zs_le (f := fun k => ztb P m v i (i + k)) (fun k => ztb_le P m v i (i + k)) (m - i)
    omega
  have := zs_le h1 m
  show zs _ m ≤ _
  omega
/-- one more is looked at: the least so far, the first that has it, how many have it -/
def zbs1 (c a : Nat) (t : Nat × Option Nat × Nat) : Nat × Option Nat × Nat := match t.2.1 with
  | none => (c, some a, 1)
  | some x => if c < t.1 then (c, some a, 1) else if c = t.1 then (t.1, some x, t.2.2 + 1) else t
def zbst (q : Nat → Bool) (c : Nat → Nat) : Nat → Nat → Nat × Option Nat × Nat → Nat × Option Nat × Nat
  | 0, _, t => t
  | f + 1, a, t => zbst q c f (a + 1) (if q a = true then zbs1 (c a) a t else t)
theorem zNo_m1 {o : Option Nat} (h : ∀ x, o = some x → x < 2 ^ 31) : zNo o = -1 ↔ o = none := by
  cases o with
  | none => exact ⟨fun _ => rfl, fun _ => rfl⟩
  | some x =>
    refine ⟨fun e => ?_, fun e => by cases e⟩
    have h1 := zn_ge0 (h x rfl)
    rw [show nI x = -1 from e] at h1
    exact absurd h1 (by decide)
theorem zbs1_ok {c a : Nat} {t : Nat × Option Nat × Nat} (hc : c < 1000) (ha : a < 2 ^ 31) (h1 : t.1 < 1000) (h2 : ∀ x, t.2.1 = some x → x < 2 ^ 31) : (zbs1 c a t).1 < 1000 ∧ ∀ x, (zbs1 c a t).2.1 = some x → x < 2 ^ 31 := by
  obtain ⟨b, o, n⟩ := t
  cases o with
  | none => exact ⟨hc, fun x e => by cases e; exact ha⟩
  | some y =>
    simp only [zbs1]
    by_cases q1 : c < b
    · rw [if_pos q1]
      exact ⟨hc, fun x e => by cases e; exact ha⟩
    · rw [if_neg q1]
      by_cases q2 : c = b
      · rw [if_pos q2]
        exact ⟨h1, h2⟩
      · rw [if_neg q2]
        exact ⟨h1, h2⟩
section ZC4
variable {M0 M M' : mz_M} {σ : zSg}
noncomputable def zcn (P m a : Nat) : Nat := zs (ztb P m (cj P m a) 0) m
noncomputable def k_leastNormal (σ : zSg) : Int32 × zSg := (nI (zbst (znor σ.1.1 σ.1.2.1) (zcn σ.1.1 σ.1.2.1) (2 ^ σ.1.2.1 - 1) 1 (0, none, 0)).1, zrw σ (zr2 (zNo (zbst (znor σ.1.1 σ.1.2.1) (zcn σ.1.1 σ.1.2.1) (2 ^ σ.1.2.1 - 1) 1 (0, none, 0)).2.1) (nI (zbst (znor σ.1.1 σ.1.2.1) (zcn σ.1.1 σ.1.2.1) (2 ^ σ.1.2.1 - 1) 1 (0, none, 0)).2.2)))
theorem c_X10_leastNormal_14 : ∀ (f a : Nat) (t : Nat × Option Nat × Nat) (o : Option Value) (M : mz_M), zP M0 σ M → a + f = 2 ^ σ.1.2.1 → t.1 < 1000 → (∀ x, t.2.1 = some x → x < 2 ^ 31) → ∃ M', mq_G mq_X10_leastNormal (14, [some (.ref 77), some (.int (nI t.1)), some (.int (zNo t.2.1)), some (.int (nI t.2.2)), some (.int (nI a)), o], [], M) (some (.int (nI (zbst (znor σ.1.1 σ.1.2.1) (zcn σ.1.1 σ.1.2.1) f a t).1)), M') ∧ zP M0 (zrw σ (zr2 (zNo (zbst (znor σ.1.1 σ.1.2.1) (zcn σ.1.1 σ.1.2.1) f a t).2.1) (nI (zbst (znor σ.1.1 σ.1.2.1) (zcn σ.1.1 σ.1.2.1) f a t).2.2))) M'
  | 0, a, t, o, M, h, hf, h1, h2 => by
    have hq := h.q
    obtain ⟨M3, M4, M5, e3, g1, g2, g3, -⟩ := s_tell2 h (zNo t.2.1) (nI t.2.2)
    refine ⟨M5, t_X10_leastNormal_14 _ _ _ _ _ _ ⟨fun _ M2 e2 => ?_, fun c => absurd ?_ c⟩, g3⟩
    · obtain rfl := e2.trans e3
      exact ⟨M4, g1, M5, g2, rfl⟩
    · rw [h.F.2.2.2, zn_le (by omega) (by omega)]
      omega
  | f + 1, a, t, o, M, h, hf, h1, h2 => by
    have hq := h.q
    have h8 := h.g.2.1
    have ha : a < 2 ^ σ.1.2.1 := by omega
    have hge : ¬ (M.1 77 12 ≤ nI a) := by
      rw [h.F.2.2.2, zn_le (by omega) (by omega)]
      omega
    obtain ⟨M1, n1, n2, n3⟩ := s_X10_isNormal h.F ha
    have hp1 := h.k n2 (by decide)
    unfold zbst
    by_cases e : znor σ.1.1 σ.1.2.1 a = true
    · rw [if_pos e]
      rw [e] at n1
      have hb : zbas σ.1.2.1 (cj σ.1.1 σ.1.2.1 a) := ⟨znor_iff.mp e, fun i _ => cj_lt h.g ha i⟩
      obtain ⟨M2, s1, s2, s3⟩ := s_X10_someIsBase hb hp1.F n3
      have hp2 := hp1.k s2 (by decide)
      have hcx := zcx_le (P := σ.1.1) (cj σ.1.1 σ.1.2.1 a) h8
      have hcl : zcn σ.1.1 σ.1.2.1 a < 1000 := by show zs _ _ < _; omega
      obtain ⟨b1, b2⟩ := zbs1_ok (c := zcn σ.1.1 σ.1.2.1 a) (a := a) hcl (by omega) h1 h2
      obtain ⟨M', k1, k2⟩ := c_X10_leastNormal_14 f (a + 1) (zbs1 (zcn σ.1.1 σ.1.2.1 a) a t) (some (.int (nI (zcn σ.1.1 σ.1.2.1 a)))) M2 hp2 (by omega) b1 b2
      refine ⟨M', t_X10_leastNormal_14 _ _ _ _ _ _ ⟨fun c => absurd c hge, fun _ => ⟨1, M1, n1, fun _ => ⟨M2, s1, nI (zcn σ.1.1 σ.1.2.1 a), s_X10_complexityNow hp2.F s3, ?_⟩, fun c => absurd z10 c⟩⟩, k2⟩
      have kk : ∀ t', zbs1 (zcn σ.1.1 σ.1.2.1 a) a t = t' → mq_G mq_X10_leastNormal (14, [some (.ref 77), some (.int (nI t'.1)), some (.int (zNo t'.2.1)), some (.int (nI t'.2.2)), some (.int (nI (a + 1))), some (.int (nI (zcn σ.1.1 σ.1.2.1 a)))], [], M2) (some (.int (nI (zbst (znor σ.1.1 σ.1.2.1) (zcn σ.1.1 σ.1.2.1) f (a + 1) (zbs1 (zcn σ.1.1 σ.1.2.1 a) a t)).1)), M') := fun t' e => by rw [← e]; exact k1
      rw [zNo_m1 h2]
      obtain ⟨b, oo, n⟩ := t
      refine ⟨fun c => ⟨fun c2 => absurd rfl c2, fun _ => ?_⟩, fun c => ?_⟩
      · have c : oo = none := c
        subst c
        rw [nI_1]
        exact kk (zcn σ.1.1 σ.1.2.1 a, some a, 1) rfl
      · cases oo with
        | none => exact absurd rfl c
        | some y =>
          have h1 : b < 1000 := h1
          show (nI b ≤ _ → _) ∧ (¬ nI b ≤ _ → _)
          rw [zn_le (by omega) (by omega)]
          refine ⟨fun c2 => ⟨fun c3 => ?_, fun c3 => ?_⟩, fun c2 => ⟨fun c3 => absurd rfl c3, fun _ => ?_⟩⟩
          · have c3 : ¬ nI (zcn σ.1.1 σ.1.2.1 a) = nI b := c3
            rw [zn_eq (by omega) (by omega)] at c3
            rw [Int32.add_zero, nI_1]
            exact kk (b, some y, n) (by simp only [zbs1]; rw [if_neg (by omega), if_neg c3])
          · have c3 : ¬ ¬ nI (zcn σ.1.1 σ.1.2.1 a) = nI b := c3
            rw [zn_eq (by omega) (by omega)] at c3
            rw [nI_1, nI_1]
            exact kk (b, some y, n + 1) (by simp only [zbs1]; rw [if_neg (by omega), if_pos (Classical.not_not.mp c3)])
          · rw [nI_1]
            exact kk (zcn σ.1.1 σ.1.2.1 a, some a, 1) (by simp only [zbs1]; rw [if_pos (by omega)])
    · rw [if_neg e]
      have e0 : znor σ.1.1 σ.1.2.1 a = false := by simpa using e
      rw [e0] at n1
      obtain ⟨M', k1, k2⟩ := c_X10_leastNormal_14 f (a + 1) t o M1 hp1 (by omega) h1 h2
      refine ⟨M', t_X10_leastNormal_14 _ _ _ _ _ _ ⟨fun c => absurd c hge, fun _ => ⟨0, M1, n1, fun c => absurd rfl c, fun _ => ?_⟩⟩, k2⟩
      rw [nI_1]
      exact k1
theorem c_X10_leastNormal (h : zP M0 σ M) : zA M0 mq_X10_leastNormal [.ref 77] M (k_leastNormal σ) := by
  obtain ⟨M1, eM, h1, -⟩ := h.thr
  have hq0 := f1_lt h.g
  obtain ⟨M', k1, k2⟩ := c_X10_leastNormal_14 (2 ^ σ.1.2.1 - 1) 1 (0, none, 0) none M1 h1 (by omega) (by decide) (fun x e => by cases e)
  refine ⟨M', t_X10_leastNormal_0 _ (fun M2 e2 => ?_), k2⟩
  obtain rfl := e2.trans eM
  exact k1
noncomputable def zpok (P m a : Nat) : Bool := @decide (ind (fpw P m a) m) (Classical.propDecidable _)
theorem zpok_iff {P m a : Nat} : zpok P m a = true ↔ ind (fpw P m a) m := by
  unfold zpok
  exact @decide_eq_true_iff _ (Classical.propDecidable _)
noncomputable def zwp (P m a : Nat) : Nat := zwt P m (fpw P m a)
noncomputable def k_leastPowers (σ : zSg) : Int32 × zSg := (nI (zbst (zpok σ.1.1 σ.1.2.1) (zwp σ.1.1 σ.1.2.1) (2 ^ σ.1.2.1 - 1) 1 (0, none, 0)).1, zrw σ (zr2 (zNo (zbst (zpok σ.1.1 σ.1.2.1) (zwp σ.1.1 σ.1.2.1) (2 ^ σ.1.2.1 - 1) 1 (0, none, 0)).2.1) (nI (zbst (zpok σ.1.1 σ.1.2.1) (zwp σ.1.1 σ.1.2.1) (2 ^ σ.1.2.1 - 1) 1 (0, none, 0)).2.2)))
theorem c_X10_leastPowers_14 : ∀ (f a : Nat) (t : Nat × Option Nat × Nat) (o : Option Value) (M : mz_M), zP M0 σ M → a + f = 2 ^ σ.1.2.1 → t.1 < 1000 → (∀ x, t.2.1 = some x → x < 2 ^ 31) → ∃ M', mq_G mq_X10_leastPowers (14, [some (.ref 77), some (.int (nI t.1)), some (.int (zNo t.2.1)), some (.int (nI t.2.2)), some (.int (nI a)), o], [], M) (some (.int (nI (zbst (zpok σ.1.1 σ.1.2.1) (zwp σ.1.1 σ.1.2.1) f a t).1)), M') ∧ zP M0 (zrw σ (zr2 (zNo (zbst (zpok σ.1.1 σ.1.2.1) (zwp σ.1.1 σ.1.2.1) f a t).2.1) (nI (zbst (zpok σ.1.1 σ.1.2.1) (zwp σ.1.1 σ.1.2.1) f a t).2.2))) M'
  | 0, a, t, o, M, h, hf, h1, h2 => by
    have hq := h.q
    obtain ⟨M3, M4, M5, e3, g1, g2, g3, -⟩ := s_tell2 h (zNo t.2.1) (nI t.2.2)
    refine ⟨M5, t_X10_leastPowers_14 _ _ _ _ _ _ ⟨fun _ M2 e2 => ?_, fun c => absurd ?_ c⟩, g3⟩
    · obtain rfl := e2.trans e3
      exact ⟨M4, g1, M5, g2, rfl⟩
    · rw [h.F.2.2.2, zn_le (by omega) (by omega)]
      omega
  | f + 1, a, t, o, M, h, hf, h1, h2 => by
    have hq := h.q
    have h8 := h.g.2.1
    have ha : a < 2 ^ σ.1.2.1 := by omega
    have hge : ¬ (M.1 77 12 ≤ nI a) := by
      rw [h.F.2.2.2, zn_le (by omega) (by omega)]
      omega
    obtain ⟨M1, n1, n2, n3⟩ := s_X10_takesPowers h.F ha
    rw [show @decide (ind (fpw σ.1.1 σ.1.2.1 a) σ.1.2.1) (Classical.propDecidable _) = zpok σ.1.1 σ.1.2.1 a from rfl] at n1
    have hp1 := h.k n2 (by decide)
    unfold zbst
    by_cases e : zpok σ.1.1 σ.1.2.1 a = true
    · rw [if_pos e]
      rw [e] at n1
      have hb : zbas σ.1.2.1 (fpw σ.1.1 σ.1.2.1 a) := ⟨zpok_iff.mp e, fun i _ => fpw_lt h.g ha i⟩
      obtain ⟨M2, s1, s2, s3⟩ := s_X10_someIsBase hb hp1.F n3
      have hp2 := hp1.k s2 (by decide)
      have hcx := zwt_le (P := σ.1.1) (fpw σ.1.1 σ.1.2.1 a) h8
      have hcl : zwp σ.1.1 σ.1.2.1 a < 1000 := by show zwt _ _ _ < _; omega
      obtain ⟨b1, b2⟩ := zbs1_ok (c := zwp σ.1.1 σ.1.2.1 a) (a := a) hcl (by omega) h1 h2
      obtain ⟨M', k1, k2⟩ := c_X10_leastPowers_14 f (a + 1) (zbs1 (zwp σ.1.1 σ.1.2.1 a) a t) (some (.int (nI (zwp σ.1.1 σ.1.2.1 a)))) M2 hp2 (by omega) b1 b2
      refine ⟨M', t_X10_leastPowers_14 _ _ _ _ _ _ ⟨fun c => absurd c hge, fun _ => ⟨1, M1, n1, fun _ => ⟨M2, s1, nI (zwp σ.1.1 σ.1.2.1 a), s_X10_weightNow hp2.F s3, ?_⟩, fun c => absurd z10 c⟩⟩, k2⟩
      have kk : ∀ t', zbs1 (zwp σ.1.1 σ.1.2.1 a) a t = t' → mq_G mq_X10_leastPowers (14, [some (.ref 77), some (.int (nI t'.1)), some (.int (zNo t'.2.1)), some (.int (nI t'.2.2)), some (.int (nI (a + 1))), some (.int (nI (zwp σ.1.1 σ.1.2.1 a)))], [], M2) (some (.int (nI (zbst (zpok σ.1.1 σ.1.2.1) (zwp σ.1.1 σ.1.2.1) f (a + 1) (zbs1 (zwp σ.1.1 σ.1.2.1 a) a t)).1)), M') := fun t' e => by rw [← e]; exact k1
      rw [zNo_m1 h2]
      obtain ⟨b, oo, n⟩ := t
      refine ⟨fun c => ⟨fun c2 => absurd rfl c2, fun _ => ?_⟩, fun c => ?_⟩
      · have c : oo = none := c
        subst c
        rw [nI_1]
        exact kk (zwp σ.1.1 σ.1.2.1 a, some a, 1) rfl
      · cases oo with
        | none => exact absurd rfl c
        | some y =>
          have h1 : b < 1000 := h1
          show (nI b ≤ _ → _) ∧ (¬ nI b ≤ _ → _)
          rw [zn_le (by omega) (by omega)]
          refine ⟨fun c2 => ⟨fun c3 => ?_, fun c3 => ?_⟩, fun c2 => ⟨fun c3 => absurd rfl c3, fun _ => ?_⟩⟩
          · have c3 : ¬ nI (zwp σ.1.1 σ.1.2.1 a) = nI b := c3
            rw [zn_eq (by omega) (by omega)] at c3
            rw [Int32.add_zero, nI_1]
            exact kk (b, some y, n) (by simp only [zbs1]; rw [if_neg (by omega), if_neg c3])
          · have c3 : ¬ ¬ nI (zwp σ.1.1 σ.1.2.1 a) = nI b := c3
            rw [zn_eq (by omega) (by omega)] at c3
            rw [nI_1, nI_1]
            exact kk (b, some y, n + 1) (by simp only [zbs1]; rw [if_neg (by omega), if_pos (Classical.not_not.mp c3)])
          · rw [nI_1]
            exact kk (zwp σ.1.1 σ.1.2.1 a, some a, 1) (by simp only [zbs1]; rw [if_pos (by omega)])
    · rw [if_neg e]
      have e0 : zpok σ.1.1 σ.1.2.1 a = false := by simpa using e
      rw [e0] at n1
      obtain ⟨M', k1, k2⟩ := c_X10_leastPowers_14 f (a + 1) t o M1 hp1 (by omega) h1 h2
      refine ⟨M', t_X10_leastPowers_14 _ _ _ _ _ _ ⟨fun c => absurd c hge, fun _ => ⟨0, M1, n1, fun c => absurd rfl c, fun _ => ?_⟩⟩, k2⟩
      rw [nI_1]
      exact k1
theorem c_X10_leastPowers (h : zP M0 σ M) : zA M0 mq_X10_leastPowers [.ref 77] M (k_leastPowers σ) := by
  obtain ⟨M1, eM, h1, -⟩ := h.thr
  have hq0 := f1_lt h.g
  obtain ⟨M', k1, k2⟩ := c_X10_leastPowers_14 (2 ^ σ.1.2.1 - 1) 1 (0, none, 0) none M1 h1 (by omega) (by decide) (fun x e => by cases e)
  refine ⟨M', t_X10_leastPowers_0 _ (fun M2 e2 => ?_), k2⟩
  obtain rfl := e2.trans eM
  exact k1
/-! rows that are told one by one -/
def zrl (l : List Nat) : Nat × (Nat → Int64) := (l.length, fun k => (nI (l.getD k 0)).toInt64)
theorem zP.ext {n : Nat} {f f' : Nat → Int64} (h : zP M0 (zrw σ (n, f)) M) (e : ∀ k, k < n → f k = f' k) : zP M0 (zrw σ (n, f')) M :=
  ⟨h.1, h.2.1, h.2.2.1, h.2.2.2.1, h.2.2.2.2.1, h.2.2.2.2.2.1, h.2.2.2.2.2.2.1, fun k hk => (h.2.2.2.2.2.2.2 k hk).trans (e k hk)⟩
theorem s_tellL {l : List Nat} {x : Nat} (h : zP M0 (zrw σ (zrl l)) M) (hl : l.length < 16) : ∃ M', mq_C mq_X10_tell [.ref 77, .long (nI x).toInt64] M (none, M') ∧ zP M0 (zrw σ (zrl (l ++ [x]))) M' ∧ ∀ c, ¬ c = 77 → M'.1 c = M.1 c := by
  have h1 : zP M0 (zrw σ (l.length, (zrl (l ++ [x])).2)) M := h.ext (fun k hk => by
    show (nI (l.getD k 0)).toInt64 = (nI ((l ++ [x]).getD k 0)).toInt64
    rw [zget_lo hk])
  obtain ⟨M', g1, g2, g3⟩ := s_X10_tell h1 hl (x := (nI x).toInt64) (by
    show (nI ((l ++ [x]).getD l.length 0)).toInt64 = _
    rw [zget_at])
  refine ⟨M', g1, ?_, g3⟩
  have e : zrl (l ++ [x]) = (l.length + 1, (zrl (l ++ [x])).2) := by
    show ((l ++ [x]).length, _) = _
    rw [List.length_append, List.length_singleton]
    rfl
  rw [e]
  exact g2
theorem zP.rowL (h : zP M0 σ M) : zP M0 (zrw σ (zrl [])) (mz_wr M 77 (upd (M.1 77) 9 0)) := h.row0 _
/-- those that are true from x on: the first eight told, all counted -/
def zqd (p : Nat → Bool) : Nat → Nat → List Nat → Nat → List Nat × Nat
  | 0, _, l, n => (l, n)
  | f + 1, x, l, n => if p x = true then zqd p f (x + 1) (if n < 8 then l ++ [x] else l) (n + 1) else zqd p f (x + 1) l n
def zqp (P m a b c x : Nat) : Bool := Nat.beq (fm P m a (fm P m x x) ^^^ fm P m b x) c
def k_quadratic (σ : zSg) (x y z : Int32) : Int32 × zSg := if zel (2 ^ σ.1.2.1) x = true then (if zel (2 ^ σ.1.2.1) y = true then (if zel (2 ^ σ.1.2.1) z = true then (nI (zqd (zqp σ.1.1 σ.1.2.1 (zu x) (zu y) (zu z)) (2 ^ σ.1.2.1) 0 [] 0).2, zrw σ (zrl (zqd (zqp σ.1.1 σ.1.2.1 (zu x) (zu y) (zu z)) (2 ^ σ.1.2.1) 0 [] 0).1)) else (-1, σ)) else (-1, σ)) else (-1, σ)
theorem c_X10_quadratic_42 {a b c : Nat} (ha : a < 2 ^ σ.1.2.1) (hb : b < 2 ^ σ.1.2.1) (hc : c < 2 ^ σ.1.2.1) : ∀ (f x : Nat) (l : List Nat) (n : Nat) (M : mz_M), zP M0 (zrw σ (zrl l)) M → x + f = 2 ^ σ.1.2.1 → n ≤ x → l.length ≤ n → l.length ≤ 8 → ∃ M', mq_G mq_X10_quadratic (42, [some (.ref 77), some (.int (nI a)), some (.int (nI b)), some (.int (nI c)), some (.int (nI n)), some (.int (nI x))], [], M) (some (.int (nI (zqd (zqp σ.1.1 σ.1.2.1 a b c) f x l n).2)), M') ∧ zP M0 (zrw σ (zrl (zqd (zqp σ.1.1 σ.1.2.1 a b c) f x l n).1)) M'
  | 0, x, l, n, M, h, hx, hn, hl, hl8 => by
    have hq : 2 ^ σ.1.2.1 ≤ 256 := h.q
    refine ⟨M, t_X10_quadratic_42 _ _ _ _ _ _ ⟨fun _ => rfl, fun c => absurd ?_ c⟩, h⟩
    rw [show M.1 77 12 = nI (2 ^ σ.1.2.1) from h.F.2.2.2, zn_le (by omega) (by omega)]
    omega
  | f + 1, x, l, n, M, h, hx, hn, hl, hl8 => by
    have hq : 2 ^ σ.1.2.1 ≤ 256 := h.q
    have hg : fgood σ.1.1 σ.1.2.1 := h.g
    have hF : zF σ.1.1 σ.1.2.1 M := h.F
    have hx2 : x < 2 ^ σ.1.2.1 := by omega
    have hge : ¬ (M.1 77 12 ≤ nI x) := by
      rw [hF.2.2.2, zn_le (by omega) (by omega)]
      omega
    have l1 := fm_lt hg (b := x) hx2
    have l2 := fm_lt hg (b := fm σ.1.1 σ.1.2.1 x x) ha
    have l3 := fm_lt hg (b := x) hb
    have l4 := Nat.xor_lt_two_pow l2 l3
    have t1 := s_X10_times M hg hF.2.1 hx2 hx2
    have t2 := s_X10_times M hg hF.2.1 ha l1
    have t3 := s_X10_times M hg hF.2.1 hb hx2
    unfold zqd
    by_cases e : fm σ.1.1 σ.1.2.1 a (fm σ.1.1 σ.1.2.1 x x) ^^^ fm σ.1.1 σ.1.2.1 b x = c
    · rw [if_pos (by unfold zqp; rw [e]; exact Nat.beq_refl c)]
      by_cases q : n < 8
      · rw [if_pos q]
        obtain ⟨M1, g1, g2, g3⟩ := s_tellL (x := x) h (by omega)
        obtain ⟨M', k1, k2⟩ := c_X10_quadratic_42 ha hb hc f (x + 1) (l ++ [x]) (n + 1) M1 g2 (by omega) (by omega) (by simp; omega) (by simp; omega)
        refine ⟨M', t_X10_quadratic_42 _ _ _ _ _ _ ⟨fun c => absurd c hge, fun _ => ⟨_, t1, _, t2, _, t3, fun _ => ⟨fun c => ?_, fun _ => ⟨M1, g1, ?_⟩⟩, fun c => absurd (by rw [zn_xor, e]) c⟩⟩, k2⟩
        · rw [show (8 : Int32) = nI 8 from rfl, zn_le (by omega) (by omega)] at c
          omega
        · rw [nI_1, nI_1]; exact k1
      · rw [if_neg q]
        obtain ⟨M', k1, k2⟩ := c_X10_quadratic_42 ha hb hc f (x + 1) l (n + 1) M h (by omega) (by omega) (by omega) (by omega)
        refine ⟨M', t_X10_quadratic_42 _ _ _ _ _ _ ⟨fun c => absurd c hge, fun _ => ⟨_, t1, _, t2, _, t3, fun _ => ⟨fun _ => ?_, fun c => absurd ?_ c⟩, fun c => absurd (by rw [zn_xor, e]) c⟩⟩, k2⟩
        · rw [nI_1, nI_1]; exact k1
        · rw [show (8 : Int32) = nI 8 from rfl, zn_le (by omega) (by omega)]
          omega
    · rw [if_neg (show ¬ zqp σ.1.1 σ.1.2.1 a b c x = true from fun q => e (Nat.eq_of_beq_eq_true q))]
      obtain ⟨M', k1, k2⟩ := c_X10_quadratic_42 ha hb hc f (x + 1) l n M h (by omega) (by omega) hl hl8
      refine ⟨M', t_X10_quadratic_42 _ _ _ _ _ _ ⟨fun c => absurd c hge, fun _ => ⟨_, t1, _, t2, _, t3, fun c2 => ?_, fun _ => ?_⟩⟩, k2⟩
      · rw [zn_xor, zn_eq (by omega) (by omega)] at c2
        exact absurd c2 e
      · rw [nI_1]; exact k1
theorem c_X10_quadratic (h : zP M0 σ M) (x y z : Int32) : zA M0 mq_X10_quadratic [.ref 77, .int x, .int y, .int z] M (k_quadratic σ x y z) := by
  obtain ⟨M1, eM, h1, -⟩ := h.thr
  have hq := h.q
  by_cases he : zel (2 ^ σ.1.2.1) x = true
  · by_cases hf : zel (2 ^ σ.1.2.1) y = true
    · by_cases hz : zel (2 ^ σ.1.2.1) z = true
      · simp only [zA, k_quadratic, he, hf, hz, if_true]
        obtain ⟨a, ha, rfl⟩ := h1.en he
        obtain ⟨b, hb, rfl⟩ := h1.en hf
        obtain ⟨c, hc, rfl⟩ := h1.en hz
        rw [zu_nI (by omega), zu_nI (by omega), zu_nI (by omega)]
        obtain ⟨M', k1, k2⟩ := c_X10_quadratic_42 (σ := σ) (M0 := M0) ha hb hc (2 ^ σ.1.2.1) 0 [] 0 _ h1.rowL (by omega) (by omega) (by simp) (by simp)
        refine ⟨M', t_X10_quadratic_0 _ _ _ _ (fun M2 e2 => ?_), k2⟩
        obtain rfl := e2.trans eM
        exact ⟨1, h1.el1 he, fun c => absurd c z10, fun _ => ⟨1, h1.el1 hf, fun c => absurd c z10, fun _ => ⟨1, h1.el1 hz, fun _ M8 e8 => by rw [e8]; exact k1, fun c => absurd z10 c⟩⟩⟩
      · simp only [zA, k_quadratic, he, hf, hz, if_true]
        refine ⟨M1, t_X10_quadratic_0 _ _ _ _ (fun M2 e2 => ?_), h1⟩
        obtain rfl := e2.trans eM
        exact ⟨1, h1.el1 he, fun c => absurd c z10, fun _ => ⟨1, h1.el1 hf, fun c => absurd c z10, fun _ => ⟨0, h1.el0 hz, fun c => absurd rfl c, fun _ => rfl⟩⟩⟩
    · simp only [zA, k_quadratic, he, hf, if_true]
      refine ⟨M1, t_X10_quadratic_0 _ _ _ _ (fun M2 e2 => ?_), h1⟩
      obtain rfl := e2.trans eM
      exact ⟨1, h1.el1 he, fun c => absurd c z10, fun _ => ⟨0, h1.el0 hf, fun _ => rfl, fun c => absurd rfl c⟩⟩
  · simp only [zA, k_quadratic, he]
    refine ⟨M1, t_X10_quadratic_0 _ _ _ _ (fun M2 e2 => ?_), h1⟩
    obtain rfl := e2.trans eM
    exact ⟨0, h1.el0 he, fun _ => rfl, fun c => absurd rfl c⟩
end ZC4
