/-! calls of the class: factors, classes -/
theorem zn_dbl (a : Nat) : (2 : Int32) * nI a = nI (2 * a) := pk_mul 2 a
/-- from place d + n on down, what is above being nought -/
theorem s_X4_quot (M : mz_M) {P d : Nat} (hd : d ≤ 15) (h1 : 2 ^ d ≤ P) (hP : P < 2 ^ (d + 1)) (o : Option Value) : ∀ (n r v : Nat), n ≤ 15 → r < 2 ^ (d + n) → mq_G mq_X4_quotient (16, [o, some (.int (nI P)), some (.int (nI d)), some (.int (nI r)), some (.int (nI v)), some (.int (nI (d + n) + (-1)))], [], M) (some (.int (nI (zqt P d n r v))), M)
  | 0, r, v, hn, hr => by
    refine t_X4_quotient_16 _ _ _ _ _ _ _ ⟨fun _ => rfl, fun c => absurd ?_ c⟩
    cases d with
    | zero => decide +kernel
    | succ e =>
      rw [Nat.add_zero, zn_m1, zn_lt (by omega) (by omega)]
      omega
  | n + 1, r, v, hn, hr => by
    have e1 : nI (d + (n + 1)) + (-1) = nI (d + n) := zn_m1 (d + n)
    have e2 : nI (d + n) - nI d = nI n := by rw [zn_sub (by omega), show d + n - d = n by omega]
    have c1 : ¬ nI (d + n) < nI d := by rw [zn_lt (by omega) (by omega)]; omega
    have c2 : ¬ nI d < 0 := nI_pos (by omega)
    have hr31 : r < 2 ^ 31 := Nat.lt_of_lt_of_le hr (Nat.pow_le_pow_right (by decide) (by omega))
    have hsh : P * 2 ^ n < 2 ^ 31 := by
      have h5 : P * 2 ^ n < 2 ^ (d + 1) * 2 ^ n := Nat.mul_lt_mul_of_pos_right hP (Nat.two_pow_pos n)
      rw [← Nat.pow_add] at h5
      exact Nat.lt_of_lt_of_le h5 (Nat.pow_le_pow_right (by decide) (by omega))
    rw [e1]
    by_cases hb : r.testBit (d + n) = true
    · simp only [zqt, hb, if_true]
      refine t_X4_quotient_16 _ _ _ _ _ _ _ ⟨fun c => absurd c c1, fun _ => ⟨fun c => absurd c c2, fun _ => ⟨fun c => ?_, fun _ => ?_⟩⟩⟩
      · rw [zn_bit0 hr31 (by omega)] at c
        rw [Nat.testBit_eq_decide_div_mod_eq, decide_eq_true_eq] at hb
        omega
      · rw [e2, zn_shl (by omega) (by omega), zn_xor, ← Nat.shiftLeft_eq, zone_shl (by omega), zn_or]
        exact s_X4_quot M hd h1 hP o n _ _ (by omega) (zsub_bit h1 hP (by rw [Nat.add_assoc]; exact hr) hb)
    · have hb2 : r.testBit (d + n) = false := by simpa using hb
      simp only [zqt, hb2]
      refine t_X4_quotient_16 _ _ _ _ _ _ _ ⟨fun c => absurd c c1, fun _ => ⟨fun c => absurd c c2, fun _ => ⟨fun _ => ?_, fun c => ?_⟩⟩⟩
      · exact s_X4_quot M hd h1 hP o n r v (by omega) (zlt_bit (by rw [Nat.add_assoc]; exact hr) hb2)
      · rw [zn_bit0 hr31 (by omega)] at c
        rw [Nat.testBit_eq_decide_div_mod_eq, decide_eq_true_eq] at hb
        omega
theorem s_X4_quotient (M : mz_M) {p f : Nat} (hf : f ≠ 0) (hf2 : f < 1024) (hp0 : p ≠ 0) (hp : p < 1024) : mq_C mq_X4_quotient [.int (nI p), .int (nI f)] M (some (.int (nI (zquot p f))), M) := by
  have hl := zlog_1024 hf hf2
  have hlp := zlog_1024 hp0 hp
  refine t_X4_quotient_0 _ _ _ ⟨_, s_X4_degreeOf M _, _, s_X4_degreeOf M _, ?_⟩
  rw [zlog_deg hf (by omega), zlog_deg hp0 (by omega)]
  unfold zquot
  by_cases hlt : p.log2 < f.log2
  · have e := zqt_more (P := f) (d := f.log2) 0 11 p 0 (Nat.lt_of_lt_of_le (zlog_hi p) (Nat.pow_le_pow_right (by decide) (by omega)))
    rw [Nat.zero_add] at e
    rw [e]
    exact t_X4_quotient_16 _ _ _ _ _ _ _ ⟨fun _ => rfl, fun c => absurd ((zn_lt (by omega) (by omega)).mpr hlt) c⟩
  · have e := zqt_more (P := f) (d := f.log2) (p.log2 + 1 - f.log2) (11 - (p.log2 + 1 - f.log2)) p 0 (Nat.lt_of_lt_of_le (zlog_hi p) (Nat.pow_le_pow_right (by decide) (by omega)))
    rw [show p.log2 + 1 - f.log2 + (11 - (p.log2 + 1 - f.log2)) = 11 by omega] at e
    rw [e]
    have h := s_X4_quot M (P := f) (d := f.log2) (by omega) (zlog_lo hf) (zlog_hi f) (some (.int (nI p))) (p.log2 + 1 - f.log2) p 0 (by omega) (Nat.lt_of_lt_of_le (zlog_hi p) (Nat.pow_le_pow_right (by decide) (by omega)))
    rw [show f.log2 + (p.log2 + 1 - f.log2) = p.log2 + 1 by omega, zn_m1] at h
    exact h
/-- the first of a list, -1 if there is none -/
def zhd : List Nat → Int32
  | [] => -1
  | x :: _ => nI x
theorem zhd_m1 {l : List Nat} (h : ∀ x ∈ l, x < 1024) : zhd l = -1 ↔ l = [] := by
  cases l with
  | nil => exact ⟨fun _ => rfl, fun _ => rfl⟩
  | cons x t =>
    have hx := h x List.mem_cons_self
    refine ⟨fun e => ?_, fun e => by cases e⟩
    have e : nI x = -1 := e
    have := nI_pos (n := x) (by omega)
    rw [e] at this
    exact absurd (by decide) this
theorem zhd_app {l : List Nat} (x : Nat) (h : l ≠ []) : zhd (l ++ [x]) = zhd l := by
  cases l with
  | nil => exact absurd rfl h
  | cons y t => rfl
/-- what stands between: the list and what is left to split -/
def yinv (r : Nat) (l : List Nat) : Prop := (∀ x ∈ l, x < 1024) ∧ ∃ k, l.length + k ≤ 9 ∧ r < 2 ^ (k + 1)
theorem yinv.lt {r : Nat} {l : List Nat} (h : yinv r l) : r < 1024 := by
  obtain ⟨-, k, h1, h2⟩ := h
  exact Nat.lt_of_lt_of_le h2 (Nat.pow_le_pow_right (by decide) (show k + 1 ≤ 10 by omega))
section CC5
variable {M0 M M' : mz_M} {σ : zSg}
theorem c_X9_factors_66 {g q : Nat} (hg : 2 ≤ g) (hg2 : g < 1024) : ∀ (f k r : Nat) (l : List Nat) (M : mz_M), k + f = 10 → zC M0 (zrw σ (zrl l)) M → yinv r l → yinv (yin g f r l).1 (yin g f r l).2 ∧ ∃ M', zC M0 (zrw σ (zrl (yin g f r l).2)) M' ∧ ∀ (o : Option Value) {res : mz_O},
    (∀ o1 o5 o6 : Option Value, mq_G mq_X9_factors (28, [some (.ref 0), o1, some (.int (zhd (yin g f r l).2)), some (.int (nI (yin g f r l).1)), some (.int (nI (q + 1))), o5, o6], [], M') res) →
    mq_G mq_X9_factors (66, [some (.ref 0), o, some (.int (zhd l)), some (.int (nI r)), some (.int (nI q)), some (.int (nI g)), some (.int (nI k))], [], M) res
  | 0, k, r, l, M, hk, h, hi => by
    obtain rfl : k = 10 := by omega
    refine ⟨hi, M, h, fun o res hh => t_X9_factors_66 _ _ _ _ _ _ _ ⟨fun _ => ?_, fun c => absurd (by decide) c⟩⟩
    rw [nI_1]
    exact hh _ _ _
  | f + 1, k, r, l, M, hk, h, hi => by
    have hr := hi.lt
    have c1 : ¬ ((10 : Int32) ≤ nI k) := by
      rw [show (10 : Int32) = nI 10 from rfl, zn_le (by decide) (by omega)]
      omega
    by_cases h1 : r ≤ 1
    · have e : yin g (f + 1) r l = (r, l) := by
        unfold yin
        rw [show Nat.ble r 1 = true from Nat.ble_eq.mpr h1]
      rw [e]
      refine ⟨hi, M, h, fun o res hh => t_X9_factors_66 _ _ _ _ _ _ _ ⟨fun c => absurd c c1, fun _ => ⟨fun _ => ?_, fun c => absurd ?_ c⟩⟩⟩
      · rw [nI_1]
        exact hh _ _ _
      · show nI r ≤ nI 1
        rw [zn_le (by omega) (by decide)]
        exact h1
    · have e1 : Nat.ble r 1 = false := by
        cases e : Nat.ble r 1 with
        | false => rfl
        | true => exact absurd (Nat.ble_eq.mp e) h1
      have c2 : ¬ nI r ≤ 1 := by
        show ¬ nI r ≤ nI 1
        rw [zn_le (by omega) (by decide)]
        exact h1
      by_cases h0 : zremk r g = 0
      · have e : yin g (f + 1) r l = yin g f (zquot r g) (l ++ [g]) := by
          rw [yin, e1, h0]
          simp only [frc_eq]
        rw [e]
        obtain ⟨hl, k2, a1, a2⟩ := hi
        have hk2 : k2 ≠ 0 := by
          intro q
          rw [q] at a2
          omega
        obtain ⟨k3, rfl⟩ : ∃ k3, k2 = k3 + 1 := ⟨k2 - 1, by omega⟩
        have hlt := zquot_lt (p := r) (f := g) (k := k3 + 1) hg (by omega) a2
        obtain ⟨M5, b1, b2, b3⟩ := s_cputL (x := g) h (by omega)
        have hi2 : yinv (zquot r g) (l ++ [g]) := ⟨fun x hx => by
          rcases List.mem_append.mp hx with hx | hx
          · exact hl x hx
          · rw [List.mem_singleton.mp hx]; exact hg2, k3, by rw [List.length_append, List.length_singleton]; omega, hlt⟩
        obtain ⟨d1, M', d2, d3⟩ := c_X9_factors_66 hg hg2 f (k + 1) (zquot r g) (l ++ [g]) M5 (by omega) b2 hi2
        refine ⟨d1, M', d2, fun o res hh => t_X9_factors_66 _ _ _ _ _ _ _ ⟨fun c => absurd c c1, fun _ => ⟨fun c => absurd c c2, fun _ => ⟨_, s_X4_modk M (by omega) hg2 hr, fun c => absurd (by rw [h0]; rfl) c, fun _ => ⟨M5, b1, fun c => ⟨_, s_X4_quotient M5 (by omega) hg2 (by omega) hr, ?_⟩, fun c => ⟨_, s_X4_quotient M5 (by omega) hg2 (by omega) hr, ?_⟩⟩⟩⟩⟩⟩
        · have hne : l ≠ [] := fun q => c ((zhd_m1 hl).mpr q)
          rw [nI_1, ← zhd_app g hne]
          exact d3 _ hh
        · have he : l = [] := (zhd_m1 hl).mp (Decidable.not_not.mp c)
          subst he
          rw [nI_1]
          exact d3 _ hh
      · have e : yin g (f + 1) r l = (r, l) := by
          rw [yin, e1, show Nat.beq (zremk r g) 0 = false by
            cases e : Nat.beq (zremk r g) 0 with
            | false => rfl
            | true => exact absurd (Nat.eq_of_beq_eq_true e) h0]
        rw [e]
        refine ⟨hi, M, h, fun o res hh => t_X9_factors_66 _ _ _ _ _ _ _ ⟨fun c => absurd c c1, fun _ => ⟨fun c => absurd c c2, fun _ => ⟨_, s_X4_modk M (by omega) hg2 hr, fun _ => ?_, fun c => absurd ?_ c⟩⟩⟩⟩
        · rw [nI_1]
          exact hh _ _ _
        · rw [zn_eq0 (zremk_lt (by omega) hg2 hr)]
          exact h0
theorem yg_ok {q r : Nat} (hq : 2 ≤ q) (hq2 : q < 1024) (hr : 2 ≤ r) (hr2 : r < 1024) : 2 ≤ yg q r ∧ yg q r < 1024 := by
  unfold yg
  split
  · exact ⟨hq, hq2⟩
  · exact ⟨hr, hr2⟩
theorem c_X9_factors_28 : ∀ (f q r : Nat) (l : List Nat) (M : mz_M), q + f = 1024 → 2 ≤ q → zC M0 (zrw σ (zrl l)) M → yinv r l → ∃ M', zC M0 (zrw σ (zrl (yout f q r l))) M' ∧ ∀ o1 o5 o6 : Option Value, mq_G mq_X9_factors (28, [some (.ref 0), o1, some (.int (zhd l)), some (.int (nI r)), some (.int (nI q)), o5, o6], [], M) (some (.int (zhd (yout f q r l))), M')
  | 0, q, r, l, M, hq, hq2, h, hi => by
    obtain rfl : q = 1024 := by omega
    exact ⟨M, h, fun o1 o5 o6 => t_X9_factors_28 _ _ _ _ _ _ _ ⟨fun _ => rfl, fun c => absurd (by decide) c⟩⟩
  | f + 1, q, r, l, M, hq, hq2, h, hi => by
    have hr := hi.lt
    have c1 : ¬ ((1023 : Int32) < nI q) := by
      rw [show (1023 : Int32) = nI 1023 from rfl, zn_lt (by decide) (by omega)]
      omega
    by_cases h1 : r ≤ 1
    · have e : yout (f + 1) q r l = l := by
        rw [yout, show Nat.ble r 1 = true from Nat.ble_eq.mpr h1]
      rw [e]
      refine ⟨M, h, fun o1 o5 o6 => t_X9_factors_28 _ _ _ _ _ _ _ ⟨fun c => absurd c c1, fun _ => ⟨fun _ => rfl, fun c => absurd ?_ c⟩⟩⟩
      show nI r ≤ nI 1
      rw [zn_le (by omega) (by decide)]
      exact h1
    · have e1 : Nat.ble r 1 = false := by
        cases e : Nat.ble r 1 with
        | false => rfl
        | true => exact absurd (Nat.ble_eq.mp e) h1
      have c2 : ¬ nI r ≤ 1 := by
        show ¬ nI r ≤ nI 1
        rw [zn_le (by omega) (by decide)]
        exact h1
      obtain ⟨y1, y2⟩ := yg_ok hq2 (show q < 1024 by omega) (show 2 ≤ r by omega) hr
      obtain ⟨d1, M2, d2, d3⟩ := c_X9_factors_66 (σ := σ) (M0 := M0) (q := q) y1 y2 10 0 r l M rfl h hi
      have e : yout (f + 1) q r l = yout f (q + 1) (yin (yg q r) 10 r l).1 (yin (yg q r) 10 r l).2 := by
        rw [yout, e1]
        simp only [frc_eq]
      rw [e]
      obtain ⟨M', k1, k2⟩ := c_X9_factors_28 f (q + 1) _ _ M2 (by omega) (by omega) d2 d1
      have lq := zlog_1024 (n := q) (by omega) (by omega)
      have lr := zlog_1024 (n := r) (by omega) hr
      refine ⟨M', k1, fun o1 o5 o6 => t_X9_factors_28 _ _ _ _ _ _ _ ⟨fun c => absurd c c1, fun _ => ⟨fun c => absurd c c2, fun _ => ⟨_, s_X4_degreeOf M _, _, s_X4_degreeOf M _, fun c => ?_, fun c => ?_⟩⟩⟩⟩
      · rw [zlog_deg (by omega) (by omega), zlog_deg (by omega) (by omega), zn_dbl, zn_le (by omega) (by omega)] at c
        have eg : yg q r = q := by
          unfold yg
          rw [show Nat.ble (Nat.mul 2 (Nat.log2 q)) (Nat.log2 r) = true from Nat.ble_eq.mpr c]
        rw [eg] at d3 k2 ⊢
        exact d3 _ k2
      · rw [zlog_deg (by omega) (by omega), zlog_deg (by omega) (by omega), zn_dbl, zn_le (by omega) (by omega)] at c
        have eg : yg q r = r := by
          unfold yg
          rw [show Nat.ble (Nat.mul 2 (Nat.log2 q)) (Nat.log2 r) = false by
            cases e : Nat.ble (Nat.mul 2 (Nat.log2 q)) (Nat.log2 r) with
            | false => rfl
            | true => exact absurd (Nat.ble_eq.mp e) c]
        rw [eg] at d3 k2 ⊢
        exact d3 _ k2
theorem c_X9_factors (h : zC M0 σ M) (x : Int32) : zE M0 mq_X9_factors [.ref 0, .int x] M (k_factors σ x) := by
  by_cases he : zbt 2 1023 x = true
  · simp only [zE, k_factors, he, if_true]
    obtain ⟨p, hp2, hp, rfl⟩ := zbtn (a := 2) (b := 1023) (by decide) (by decide) he
    rw [zu_nI (by omega)]
    obtain ⟨M1, e1, e2, -⟩ := s_cemptyL h
    obtain ⟨M', k1, k2⟩ := c_X9_factors_28 (σ := σ) (M0 := M0) 1022 2 p [] M1 rfl (by decide) e2 ⟨fun x hx => absurd hx (List.not_mem_nil), 9, by decide, by omega⟩
    rw [yfac_eq hp2 (by omega)] at k1 k2
    obtain ⟨t, e⟩ := zfac_hd (f := 9) (p := p) (by omega)
    have ez : zhd (zfac 10 p) = nI (zlf p 1024 2) := by rw [e]; rfl
    rw [ez] at k2
    refine ⟨M', t_X9_factors_0 _ _ ⟨fun c => ?_, fun _ => ⟨fun _ => ⟨M1, e1, k2 _ _ _⟩, fun c => absurd (zbt_iff.mp he).2 c⟩⟩, k1⟩
    exact absurd (zbt_iff.mp he).1 (Int32.not_le.mpr c)
  · simp only [zE, k_factors, he]
    refine ⟨M, t_X9_factors_0 _ _ ⟨fun _ => rfl, fun c => ⟨fun d => absurd (zbt_iff.mpr ⟨Int32.not_lt.mp c, d⟩) he, fun _ => rfl⟩⟩, h⟩
/-! classes -/
theorem c_X9_classes_27 {k u : Nat} (hk : k < σ.1.2.1) {l : Nat} : ∀ (f a : Nat) {res : mz_O}, zC M0 (zrw σ (k, zcr σ.1.1 σ.1.2.1 (2 ^ σ.1.2.1))) M → a + f = 2 ^ σ.1.2.1 →
    (∀ (M2 : mz_M) (o3 o4 : Option Value), M2 = M' → mq_G mq_X9_classes (11, [some (.ref 0), some (.int (nI (u + zcnt (zhs σ.1.1 σ.1.2.1 k) (2 ^ σ.1.2.1) 0 / (k + 1)))), some (.int (nI (k + 1 + 1))), o3, o4], [], M2) res) →
    mq_C mq_X6_puts [.ref 73, .long (nI (zcnt (zhs σ.1.1 σ.1.2.1 k) (2 ^ σ.1.2.1) 0)).toInt64] M (none, M') →
    mq_G mq_X9_classes (27, [some (.ref 0), some (.int (nI u)), some (.int (nI (k + 1))), some (.int (nI (zcnt (zhs σ.1.1 σ.1.2.1 k) a 0))), some (.int (nI a))], [], M) res
  | 0, a, res, h, ha, hh, hp => by
    obtain rfl : a = 2 ^ σ.1.2.1 := by omega
    have hq : 2 ^ σ.1.2.1 ≤ 256 := h.q
    have h8 : σ.1.2.1 ≤ 8 := h.g.2.1
    have hm2 : M.1 2 2 = nI (2 ^ σ.1.2.1) := h.m2
    have hc := zcnt_le (zhs σ.1.1 σ.1.2.1 k) (2 ^ σ.1.2.1) 0
    refine t_X9_classes_27 _ _ _ _ _ ⟨fun _ => ⟨M', hp, ?_, ?_⟩, fun c => absurd ?_ c⟩
    · rw [zn_eq0 (by omega)]
      omega
    · rw [pk_div (by omega) (by omega) (by omega), nI_add, nI_1]
      exact hh _ _ _ rfl
    · rw [hm2]
      exact Int32.le_refl _
  | f + 1, a, res, h, ha, hh, hp => by
    have hq : 2 ^ σ.1.2.1 ≤ 256 := h.q
    have h8 : σ.1.2.1 ≤ 8 := h.g.2.1
    have hm2 : M.1 2 2 = nI (2 ^ σ.1.2.1) := h.m2
    obtain ⟨g, hG⟩ : ∃ g, zfG σ.1.1 σ.1.2.1 g M := h.fg
    have s2 := zsz_le σ.1.1 σ.1.2.1 a (σ.1.2.1 - 1) 1
    have ih := c_X9_classes_27 hk (u := u) (l := l) f (a + 1) (res := res) h (by omega) hh hp
    refine t_X9_classes_27 _ _ _ _ _ ⟨fun c => ?_, fun _ => ⟨_, s_X0_sizeOf hG (by omega), fun c => ?_, fun c => ?_⟩⟩
    · rw [hm2, zn_le (by omega) (by omega)] at c
      omega
    · rw [zn_eq (by omega) (by omega)] at c
      rw [ycnt_f (Nat.zero_add a) (fun q => c (Nat.eq_of_beq_eq_true q))] at ih
      rw [Int32.add_zero, nI_1]
      exact ih
    · have c := Decidable.not_not.mp c
      rw [zn_eq (by omega) (by omega)] at c
      rw [ycnt_t (Nat.zero_add a) (show Nat.beq (zsi σ.1.1 σ.1.2.1 a) (k + 1) = true by rw [Nat.beq_eq]; exact c)] at ih
      rw [nI_1, nI_1]
      exact ih
theorem ysd_le (P m : Nat) : ∀ n, ysd P m n ≤ n * 2 ^ m
  | 0 => Nat.zero_le _
  | n + 1 => by
    have h1 := ysd_le P m n
    have h2 := zcnt_le (zhs P m n) (2 ^ m) 0
    have h3 := Nat.div_le_self (zcnt (zhs P m n) (2 ^ m) 0) (n + 1)
    unfold ysd
    rw [Nat.add_mul, Nat.one_mul]
    omega
theorem c_X9_classes_11 : ∀ (f k : Nat) (M : mz_M), k + f = σ.1.2.1 → zC M0 (zrw σ (k, zcr σ.1.1 σ.1.2.1 (2 ^ σ.1.2.1))) M → ∃ M', zC M0 (zrw σ (σ.1.2.1, zcr σ.1.1 σ.1.2.1 (2 ^ σ.1.2.1))) M' ∧ ∀ o3 o4 : Option Value, mq_G mq_X9_classes (11, [some (.ref 0), some (.int (nI (ysd σ.1.1 σ.1.2.1 k))), some (.int (nI (k + 1))), o3, o4], [], M) (some (.int (nI (ysd σ.1.1 σ.1.2.1 σ.1.2.1))), M')
  | 0, k, M, hk, h => by
    have h8 : σ.1.2.1 ≤ 8 := h.g.2.1
    have hm1 : M.1 2 1 = nI σ.1.2.1 := h.m1
    have e : k = σ.1.2.1 := by omega
    rw [e] at h ⊢
    refine ⟨M, h, fun o3 o4 => t_X9_classes_11 _ _ _ _ _ ⟨fun _ => rfl, fun c => absurd ?_ c⟩⟩
    rw [hm1, zn_lt (by omega) (by omega)]
    omega
  | f + 1, k, M, hk, h => by
    have h8 : σ.1.2.1 ≤ 8 := h.g.2.1
    have hm1 : M.1 2 1 = nI σ.1.2.1 := h.m1
    obtain ⟨M2, a1, a2, a3⟩ := s_cputs h (by omega) (x := (nI (zcnt (zhs σ.1.1 σ.1.2.1 k) (2 ^ σ.1.2.1) 0)).toInt64) rfl
    obtain ⟨M', k1, k2⟩ := c_X9_classes_11 f (k + 1) M2 (by omega) a2
    refine ⟨M', k1, fun o3 o4 => t_X9_classes_11 _ _ _ _ _ ⟨fun c => ?_, fun _ => ?_⟩⟩
    · rw [hm1, zn_lt (by omega) (by omega)] at c
      omega
    · exact c_X9_classes_27 (σ := σ) (M0 := M0) (M' := M2) (k := k) (u := ysd σ.1.1 σ.1.2.1 k) (l := 0) (by omega) (2 ^ σ.1.2.1) 0 h (Nat.zero_add _) (fun M3 o5 o6 e3 => by rw [e3]; exact k2 _ _) a1
theorem c_X9_classes (h : zC M0 σ M) : zE M0 mq_X9_classes [.ref 0] M (k_classes σ) := by
  obtain ⟨g, hz⟩ := h.tb
  obtain ⟨M1, e1, e2, e3, -⟩ := s_cempties h (zcr σ.1.1 σ.1.2.1 (2 ^ σ.1.2.1))
  obtain ⟨M', k1, k2⟩ := c_X9_classes_11 (σ := σ) (M0 := M0) σ.1.2.1 0 M1 (Nat.zero_add _) e2
  rw [yclass hz] at k2
  exact ⟨M', t_X9_classes_0 _ ⟨M1, e1, k2 _ _⟩, k1⟩
end CC5
