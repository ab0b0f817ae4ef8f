/-! calls of the reference: factors, types, orders, classes -/
def zqt (P d : Nat) : Nat → Nat → Nat → Nat
  | 0, _, v => v
  | n + 1, r, v => if r.testBit (d + n) = true then zqt P d n (r ^^^ (P <<< n)) (v ||| 2 ^ n) else zqt P d n r v
theorem zqt_lt {P d k : Nat} : ∀ (n r v : Nat), n ≤ k → v < 2 ^ k → zqt P d n r v < 2 ^ k
  | 0, r, v, _, hv => hv
  | n + 1, r, v, hn, hv => by
    unfold zqt
    split
    · exact zqt_lt n _ _ (by omega) (Nat.or_lt_two_pow hv (Nat.pow_lt_pow_right (by decide) (by omega)))
    · exact zqt_lt n r v (by omega) hv
theorem zqt_more {P d : Nat} (n : Nat) : ∀ (k r v : Nat), r < 2 ^ (d + n) → zqt P d (n + k) r v = zqt P d n r v
  | 0, r, v, _ => rfl
  | k + 1, r, v, h => by
    have e : r.testBit (d + (n + k)) = false := Nat.testBit_lt_two_pow (Nat.lt_of_lt_of_le h (Nat.pow_le_pow_right (by decide) (by omega)))
    rw [show zqt P d (n + (k + 1)) r v = if r.testBit (d + (n + k)) = true then zqt P d (n + k) (r ^^^ (P <<< (n + k))) (v ||| 2 ^ (n + k)) else zqt P d (n + k) r v from rfl, e, if_neg (by decide)]
    exact zqt_more (P := P) n k r v h
theorem s_X10_quotient_16 (M : mz_M) {P d : Nat} (hd : d ≤ 15) (h1 : 2 ^ d ≤ P) (hP : P < 2 ^ (d + 1)) (o : Option Value) : ∀ (n r v : Nat), n ≤ 15 → r < 2 ^ (d + n) → mq_G mq_X10_quotient (16, [o, some (.int (nI P)), some (.int (nI r)), some (.int (nI v)), some (.int (nI d)), some (.int (zdeg (nI r)))], [], M) (some (.int (nI (zqt P d n r v))), M)
  | 0, r, v, hn, hr => by
    refine t_X10_quotient_16 _ _ _ _ _ _ _ ⟨fun _ => rfl, fun c => absurd ?_ c⟩
    by_cases hz : r = 0
    · subst hz
      exact Int32.lt_of_lt_of_le (by decide +kernel) (nI_pos' (by omega))
    · have hr31 : r < 2 ^ 31 := Nat.lt_of_lt_of_le hr (Nat.pow_le_pow_right (by decide) (by omega))
      rw [zdeg_pos (by omega) hr31]
      have h3 := zb_le.mpr hr
      have h4 : 1 ≤ zb r := by unfold zb; split <;> omega
      rw [zn_lt (by omega) (by omega)]
      omega
  | n + 1, r, v, hn, hr => by
    have ih := s_X10_quotient_16 M hd h1 hP o n
    by_cases hb : r.testBit (d + n) = true
    · have hge : 2 ^ (d + n) ≤ r := Nat.ge_two_pow_of_testBit hb
      have hdeg : zdeg (nI r) = nI (d + n) := zdeg_of hge hr (by omega)
      have hsh : P * 2 ^ n < 2 ^ 31 := by
        have h5 : P * 2 ^ n < 2 ^ (d + 1) * 2 ^ n := Nat.mul_lt_mul_of_pos_right hP (Nat.two_pow_pos n)
        rw [← Nat.pow_add] at h5
        exact Nat.lt_of_lt_of_le h5 (Nat.pow_le_pow_right (by decide) (by omega))
      simp only [zqt, hb, if_true]
      refine t_X10_quotient_16 _ _ _ _ _ _ _ ⟨fun c => ?_, fun _ => ⟨_, s_X10_degree M _, ?_⟩⟩
      · rw [hdeg, zn_lt (by omega) (by omega)] at c
        omega
      · rw [hdeg, zn_sub (by omega), show d + n - d = n by omega, zn_shl (by omega) (by omega), zn_xor, ← Nat.shiftLeft_eq, zone_shl (by omega), zn_or]
        exact ih _ _ (by omega) (zsub_bit h1 hP (by rw [Nat.add_assoc]; exact hr) hb)
    · have hb2 : r.testBit (d + n) = false := by simpa using hb
      simp only [zqt, hb2]
      exact ih r v (by omega) (zlt_bit (by rw [Nat.add_assoc]; exact hr) hb2)
/-- the quotient -/
def zquot (p f : Nat) : Nat := zqt f f.log2 11 p 0
theorem s_X10_quotient (M : mz_M) {p f : Nat} (hf : f ≠ 0) (hf2 : f < 1024) (hp : p < 1024) : mq_C mq_X10_quotient [.int (nI p), .int (nI f)] M (some (.int (nI (zquot p f))), M) := by
  have hl := zlog_1024 hf hf2
  refine t_X10_quotient_0 _ _ _ ⟨_, s_X10_degree M _, _, s_X10_degree M _, ?_⟩
  rw [zlog_deg hf (by omega)]
  exact s_X10_quotient_16 M (by omega) (zlog_lo hf) (zlog_hi f) _ 11 p 0 (by decide) (Nat.lt_of_lt_of_le hp (by rw [Nat.pow_add]; exact Nat.le_trans (show 1024 ≤ 1 * 2 ^ 11 by decide) (Nat.mul_le_mul_right _ (Nat.two_pow_pos _))))
theorem zlf_ge (p : Nat) : ∀ (n f : Nat), f ≤ p → f ≤ zlf p n f
  | 0, f, h => h
  | n + 1, f, h => by
    unfold zlf
    split
    · next e =>
      rw [Nat.blt_eq] at e
      split
      · exact Nat.le_refl _
      · rw [frc_eq]
        exact Nat.le_of_succ_le (zlf_ge p n (f + 1) e)
    · exact h
theorem zquot_lt {p f k : Nat} (hf : 2 ≤ f) (hk : k ≤ 9) (hp : p < 2 ^ (k + 1)) : zquot p f < 2 ^ k := by
  have hl : 1 ≤ f.log2 := (Nat.le_log2 (by omega)).mpr hf
  unfold zquot
  have h1 : p < 2 ^ (f.log2 + k) := Nat.lt_of_lt_of_le hp (Nat.pow_le_pow_right (by decide) (by omega))
  have h2 := zqt_more (P := f) (d := f.log2) k (11 - k) p 0 h1
  rw [show k + (11 - k) = 11 by omega] at h2
  rw [h2]
  exact zqt_lt k p 0 (Nat.le_refl k) (Nat.two_pow_pos k)
def zfac : Nat → Nat → List Nat
  | 0, _ => []
  | f + 1, p => if p ≤ 1 then [] else zlf p 1024 2 :: zfac f (zquot p (zlf p 1024 2))
theorem zfac_len : ∀ f p, (zfac f p).length ≤ f
  | 0, _ => Nat.le_refl _
  | f + 1, p => by
    unfold zfac
    split
    · exact Nat.zero_le _
    · have := zfac_len f (zquot p (zlf p 1024 2))
      simp only [List.length_cons]
      omega
section ZC5
variable {M0 M M' : mz_M} {σ : zSg}
theorem c_X10_factors_28 : ∀ (f p : Nat) (l : List Nat) (o : Option Value) (M : mz_M), zP M0 (zrw σ (zrl l)) M → p < 2 ^ f → l.length + f ≤ 10 → ∃ M', mq_G mq_X10_factors (28, [some (.ref 77), o, some (.int (nI p))], [], M) (some (.int ((M'.2 83 0).toInt32)), M') ∧ zP M0 (zrw σ (zrl (l ++ zfac f p))) M'
  | 0, p, l, o, M, h, hp, hl => by
    have hp : p < 1 := hp
    refine ⟨M, t_X10_factors_28 _ _ _ ⟨fun _ => ⟨zn_in (a := 0) (by decide) (by decide), rfl⟩, fun c => absurd ?_ c⟩, by rw [zfac, List.append_nil]; exact h⟩
    show nI p ≤ nI 1
    rw [zn_le (by omega) (by decide)]
    omega
  | f + 1, p, l, o, M, h, hp, hl => by
    have hp10 : p < 2 ^ 10 := Nat.lt_of_lt_of_le hp (Nat.pow_le_pow_right (by decide) (by omega))
    by_cases h1 : p ≤ 1
    · refine ⟨M, t_X10_factors_28 _ _ _ ⟨fun _ => ⟨zn_in (a := 0) (by decide) (by decide), rfl⟩, fun c => absurd ?_ c⟩, by rw [zfac, if_pos h1, List.append_nil]; exact h⟩
      show nI p ≤ nI 1
      rw [zn_le (by omega) (by decide)]
      exact h1
    · have hge := zlf_ge p 1024 2 (by omega)
      have hle := zlf_le p 1024 2
      obtain ⟨M1, g1, g2, -⟩ := s_tellL (x := zlf p 1024 2) h (by omega)
      obtain ⟨M', k1, k2⟩ := c_X10_factors_28 f (zquot p (zlf p 1024 2)) (l ++ [zlf p 1024 2]) (mz_nw o) M1 g2 (zquot_lt hge (by omega) hp) (by simp; omega)
      refine ⟨M', t_X10_factors_28 _ _ _ ⟨fun c => absurd c ?_, fun _ => ⟨_, s_X10_leastFactor M (by omega), M1, g1, _, s_X10_leastFactor M1 (by omega), _, s_X10_quotient M1 (by omega) (by omega) (by omega), k1⟩⟩, ?_⟩
      · show ¬ nI p ≤ nI 1
        rw [zn_le (by omega) (by decide)]
        exact h1
      · rw [zfac, if_neg h1]
        rw [List.append_assoc] at k2
        exact k2
def k_factors (σ : zSg) (x : Int32) : Int32 × zSg := if zbt 2 1023 x = true then (nI (zlf (zu x) 1024 2), zrw σ (zrl (zfac 10 (zu x)))) else (-1, σ)
theorem zP.hd {l : List Nat} {y : Nat} {t : List Nat} (h : zP M0 (zrw σ (zrl l)) M) (e : l = y :: t) : (M.2 83 0).toInt32 = nI y := by
  subst e
  have := h.2.2.2.2.2.2.2 0 (by show 0 < (y :: t).length; simp)
  rw [this]
  show ((nI ((y :: t).getD 0 0)).toInt64).toInt32 = _
  simp
theorem zfac_hd {f p : Nat} (h : ¬ p ≤ 1) : ∃ t, zfac (f + 1) p = zlf p 1024 2 :: t := ⟨zfac f (zquot p (zlf p 1024 2)), by rw [zfac, if_neg h]⟩
theorem c_X10_factors (h : zP M0 σ M) (x : Int32) : zA M0 mq_X10_factors [.ref 77, .int x] M (k_factors σ x) := by
  obtain ⟨M1, eM, h1, -⟩ := h.thr
  by_cases he : zbt 2 1023 x = true
  · simp only [zA, k_factors, he, if_true]
    obtain ⟨p, hp2, hp, rfl⟩ := zbtn (a := 2) (b := 1023) (by decide) (by decide) he
    rw [zu_nI (by omega)]
    obtain ⟨M', k1, k2⟩ := c_X10_factors_28 (σ := σ) (M0 := M0) 10 p [] (some (.int (nI p))) _ h1.rowL (by omega) (by decide)
    obtain ⟨t, e⟩ := zfac_hd (f := 9) (p := p) (by omega)
    rw [List.nil_append] at k2
    have e0 := k2.hd e
    generalize zlf p 1024 2 = y at *
    rw [e0] at k1
    refine ⟨M', t_X10_factors_0 _ _ (fun M2 e2 => ?_), k2⟩
    obtain rfl := e2.trans eM
    exact ⟨1, zin1 _ he, fun _ M4 e4 => by rw [e4]; exact k1, fun c => absurd z10 c⟩
  · simp only [zA, k_factors, he]
    refine ⟨M1, t_X10_factors_0 _ _ (fun M2 e2 => ?_), h1⟩
    obtain rfl := e2.trans eM
    exact ⟨0, zin0 _ he, fun c => absurd rfl c, fun _ => rfl⟩
/-! types -/
def zprf (v : Nat) : Nat → Nat → Bool
  | 0, _ => Nat.blt 1 v
  | f + 1, k => if v < k * k then Nat.blt 1 v else if v % k = 0 then false else zprf v f (k + 1)
theorem s_X10_isPrime_2 (M : mz_M) {v : Nat} (hv : v < 300) : ∀ (f k : Nat), k + f = 18 → 2 ≤ k → mq_G mq_X10_isPrime (2, [some (.int (nI v)), some (.int (nI k))], [], M) (some (.int (zB (zprf v f k))), M) := by
  have ex : ∀ k, 2 ≤ k → k ≤ 18 → v < k * k → mq_G mq_X10_isPrime (2, [some (.int (nI v)), some (.int (nI k))], [], M) (some (.int (zB (Nat.blt 1 v))), M) := by
    intro k h1 h2 h3
    have hk : k * k ≤ 18 * 18 := Nat.mul_le_mul h2 h2
    refine t_X10_isPrime_2 _ _ _ ⟨fun _ => ⟨fun c => ?_, fun c => ?_⟩, fun c => absurd ?_ c⟩
    · have c : nI v ≤ nI 1 := c
      rw [zn_le (by omega) (by decide)] at c
      rw [show Nat.blt 1 v = false by cases e : Nat.blt 1 v with
        | false => rfl
        | true => rw [Nat.blt_eq] at e; omega]
      rfl
    · have c : ¬ nI v ≤ nI 1 := c
      rw [zn_le (by omega) (by decide)] at c
      rw [show Nat.blt 1 v = true by rw [Nat.blt_eq]; omega]
      rfl
    · rw [pk_mul, zn_lt (by omega) (by omega)]
      exact h3
  intro f
  induction f with
  | zero =>
    intro k hk h2
    exact ex k h2 (by omega) (by obtain rfl : k = 18 := by omega
                                 omega)
  | succ f ih =>
    intro k hk h2
    unfold zprf
    by_cases h3 : v < k * k
    · rw [if_pos h3]
      exact ex k h2 (by omega) h3
    · rw [if_neg h3]
      have hkk : k * k ≤ 18 * 18 := Nat.mul_le_mul (by omega) (by omega)
      refine t_X10_isPrime_2 _ _ _ ⟨fun c => ?_, fun _ => ⟨fun q => ?_, ?_⟩⟩
      · rw [pk_mul, zn_lt (by omega) (by omega)] at c
        exact absurd c h3
      · rw [zn_eq0 (by omega)] at q
        omega
      · rw [pk_rem (by omega) (by omega) (by omega), zn_eq0 (by have := Nat.mod_lt v (show 0 < k by omega); omega), nI_1]
        refine ⟨fun q => ?_, fun q => ?_⟩
        · rw [if_neg q]
          exact ih (k + 1) (by omega) (by omega)
        · rw [if_pos (Classical.not_not.mp q)]
          rfl
def zp2f (by_ : Nat) : Nat → Nat → Nat → Nat
  | 0, n, _ => n
  | f + 1, n, v => if v = 1 then n else zp2f by_ f (n + 1) (2 * v % by_)
def zp2h (by_ : Nat) : Nat → Nat → Bool
  | 0, v => Nat.beq v 1
  | f + 1, v => Nat.beq v 1 || zp2h by_ f (2 * v % by_)
theorem zp2_ok : zall (fun b => match zprf b 16 2 with
  | true => Nat.blt b 3 || zp2h b 200 (2 % b)
  | false => true) 202 = true := by decide +kernel
/-- how many unlike powers of 2 there are by a prime -/
def zp2 (b : Nat) : Nat := if zprf b 16 2 = true then zp2f b 200 1 (2 % b) else 0
theorem s_X10_powersOfTwo_15 (M : mz_M) {b : Nat} (hb0 : 0 < b) (hb : b < 300) : ∀ (f n v : Nat), v < b → zp2h b f v = true → mq_G mq_X10_powersOfTwo (15, [some (.int (nI b)), some (.int (nI n)), some (.int (nI v))], [], M) (some (.int (nI (zp2f b f n v))), M)
  | 0, n, v, hv, h => by
    refine t_X10_powersOfTwo_15 _ _ _ _ ⟨fun _ => rfl, fun c => absurd ?_ c⟩
    rw [Nat.eq_of_beq_eq_true h]; rfl
  | f + 1, n, v, hv, h => by
    unfold zp2f
    refine t_X10_powersOfTwo_15 _ _ _ _ ?_
    rw [show (1 : Int32) = nI 1 from rfl, zn_eq (by omega) (by decide)]
    refine ⟨fun c => by rw [if_pos c], fun c => ⟨fun q => ?_, ?_⟩⟩
    · rw [zn_eq0 (by omega)] at q
      omega
    · rw [if_neg c, show (2 : Int32) = nI 2 from rfl, pk_mul, pk_rem (by omega) hb0 (by omega), nI_add]
      refine s_X10_powersOfTwo_15 M hb0 hb f (n + 1) _ (Nat.mod_lt _ hb0) ?_
      simp only [zp2h, Bool.or_eq_true] at h
      exact h.resolve_left (fun q => c (Nat.eq_of_beq_eq_true q))
theorem s_X10_powersOfTwo (M : mz_M) {b : Nat} (h3 : 3 ≤ b) (hb : b < 202) : mq_C mq_X10_powersOfTwo [.int (nI b)] M (some (.int (nI (zp2 b))), M) := by
  unfold zp2
  refine t_X10_powersOfTwo_0 _ _ ⟨_, t_X10_isPrime_0 _ _ (s_X10_isPrime_2 M (by omega) 16 2 rfl (by decide)), fun c => ?_, fun c => ?_⟩
  · have e : zprf b 16 2 = true := by
      cases q : zprf b 16 2 with
      | true => rfl
      | false => rw [q] at c; exact absurd rfl c
    have hk := zall_iff zp2_ok b hb
    simp only [e, Bool.or_eq_true, Nat.blt_eq] at hk
    refine ⟨fun q => ?_, ?_⟩
    · rw [zn_eq0 (by omega)] at q
      omega
    · rw [if_pos e, show (2 : Int32) = nI 2 from rfl, pk_rem (by decide) (by omega) (by omega)]
      exact s_X10_powersOfTwo_15 M (by omega) (by omega) 200 1 _ (Nat.mod_lt _ (by omega)) (hk.resolve_left (by omega))
  · have e : ¬ zprf b 16 2 = true := fun q => by
      rw [q] at c; exact c (by decide)
    rw [if_neg e]
    rfl
theorem zp2f_le (b : Nat) : ∀ f n v, zp2f b f n v ≤ n + f
  | 0, n, v => Nat.le_refl _
  | f + 1, n, v => by
    have := zp2f_le b f (n + 1) (2 * v % b)
    unfold zp2f
    split <;> omega
theorem zp2_le (b : Nat) : zp2 b ≤ 201 := by
  have := zp2f_le b 200 1 (2 % b)
  unfold zp2
  split <;> omega
def zty (n : Nat) : Nat := (if zp2 (n + 1) = n then 1 else 0) ||| (if zp2 (2 * n + 1) = 2 * n then 2 else if zp2 (2 * n + 1) = n then (if (2 * n + 1) % 4 = 3 then 2 else 0) else 0)
def k_types (σ : zSg) (x : Int32) : Int32 × zSg := if zbt 2 100 x = true then (nI (zty (zu x)), zrw σ (zr2 (nI (zp2 (zu x + 1))) (nI (zp2 (2 * zu x + 1))))) else (-1, σ)
theorem c_X10_types (h : zP M0 σ M) (x : Int32) : zA M0 mq_X10_types [.ref 77, .int x] M (k_types σ x) := by
  obtain ⟨M1, eM, h1, -⟩ := h.thr
  by_cases he : zbt 2 100 x = true
  · simp only [zA, k_types, he, if_true]
    obtain ⟨n, hn2, hn, rfl⟩ := zbtn (a := 2) (b := 100) (by decide) (by decide) he
    rw [zu_nI (by omega)]
    obtain ⟨M3, M4, M5, e3, g1, g2, g3, -⟩ := s_tell2 h1 (nI (zp2 (n + 1))) (nI (zp2 (2 * n + 1)))
    have b1 := zp2_le (n + 1)
    have b2 := zp2_le (2 * n + 1)
    refine ⟨M5, t_X10_types_0 _ _ (fun M2 e2 => ?_), g3⟩
    obtain rfl := e2.trans eM
    refine ⟨1, zin1 _ he, fun _ => ⟨nI (zp2 (n + 1)), by rw [nI_1]; exact s_X10_powersOfTwo M2 (by omega) (by omega), nI (zp2 (2 * n + 1)), by rw [show (2 : Int32) = nI 2 from rfl, pk_mul, nI_1]; exact s_X10_powersOfTwo M2 (by omega) (by omega), fun M6 e6 => ?_⟩, fun c => absurd z10 c⟩
    obtain rfl := e6.trans e3
    refine ⟨M4, g1, M5, g2, ?_⟩
    have er : ((2 * nI n + 1) - (2 * nI n + 1) / 4 * 4) = nI ((2 * n + 1) % 4) := by
      rw [show (2 : Int32) = nI 2 from rfl, pk_mul, nI_1, show (4 : Int32) = nI 4 from rfl, pk_rem (by omega) (by decide) (by decide)]
    rw [er, show (2 : Int32) * nI n = nI (2 * n) from pk_mul 2 n, zn_eq (by omega) (by omega), zn_eq (by omega) (by omega), zn_eq (by omega) (by omega), show (3 : Int32) = nI 3 from rfl, zn_eq (by omega) (by decide)]
    unfold zty
    refine ⟨fun c1 => ⟨fun c2 => ?_, fun c2 => ⟨fun c3 => ?_, fun c3 => ⟨by decide, fun c4 => ?_, fun c4 => ?_⟩⟩⟩, fun c1 => ⟨fun c2 => ?_, fun c2 => ⟨fun c3 => ?_, fun c3 => ⟨by decide, fun c4 => ?_, fun c4 => ?_⟩⟩⟩⟩
    · rw [if_neg c1, if_pos c2]; rfl
    · rw [if_neg c1, if_neg c2, if_neg c3]; rfl
    · rw [if_neg c1, if_neg c2, if_pos (Classical.not_not.mp c3), if_neg c4]; rfl
    · rw [if_neg c1, if_neg c2, if_pos (Classical.not_not.mp c3), if_pos (Classical.not_not.mp c4)]; rfl
    · rw [if_pos (Classical.not_not.mp c1), if_pos c2]; rfl
    · rw [if_pos (Classical.not_not.mp c1), if_neg c2, if_neg c3]; rfl
    · rw [if_pos (Classical.not_not.mp c1), if_neg c2, if_pos (Classical.not_not.mp c3), if_neg c4]; rfl
    · rw [if_pos (Classical.not_not.mp c1), if_neg c2, if_pos (Classical.not_not.mp c3), if_pos (Classical.not_not.mp c4)]; rfl
  · simp only [zA, k_types, he]
    refine ⟨M1, t_X10_types_0 _ _ (fun M2 e2 => ?_), h1⟩
    obtain rfl := e2.trans eM
    exact ⟨0, zin0 _ he, fun c => absurd rfl c, fun _ => rfl⟩
end ZC5
