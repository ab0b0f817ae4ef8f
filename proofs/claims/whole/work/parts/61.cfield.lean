/-! the class: THE FIELD by logarithms -/
def zfG (P m g : Nat) (M : mz_M) : Prop := fgood P m ∧ fcy P m g ∧ M.1 2 0 = nI P ∧ M.1 2 1 = nI m ∧ M.1 2 2 = nI (2 ^ m) ∧ (∀ k, k < 2 ^ m - 1 → M.1 3 k = nI (fpw P m g k)) ∧ ∀ k, k < 2 ^ m - 1 → M.1 4 (fpw P m g k) = nI k
theorem zsub1 (a b : Nat) (h : b ≤ a + 1) : (nI a - nI b) + 1 = nI (a + 1 - b) := by
  rw [show (nI a - nI b) + 1 = (nI a + 1) - nI b by rw [Int32.sub_eq_add_neg, Int32.sub_eq_add_neg, Int32.add_assoc, Int32.add_comm (-nI b) 1, ← Int32.add_assoc], nI_1, zn_sub h]
theorem zns {a b : Nat} (h : ¬ b = a) : a ∉ [b] := fun q => h (List.mem_singleton.mp q).symm
/-- a row of the class: eight numbers -/
def zar (b : Nat) : Prop := mz_nth mq_sk b = some (.inl (0, 8, []))
section CF
variable {P m g a b : Nat} {M M' : mz_M}
theorem zfG.k {S : List Nat} (h : zfG P m g M) (hk : zK S M M') (h2 : 2 ∉ S) (h3 : 3 ∉ S) (h4 : 4 ∉ S) : zfG P m g M' := ⟨h.1, h.2.1, by rw [hk.2 2 h2]; exact h.2.2.1, by rw [hk.2 2 h2]; exact h.2.2.2.1, by rw [hk.2 2 h2]; exact h.2.2.2.2.1, fun k hk2 => by rw [hk.2 3 h3]; exact h.2.2.2.2.2.1 k hk2, fun k hk2 => by rw [hk.2 4 h4]; exact h.2.2.2.2.2.2 k hk2⟩
theorem s_X0_times (h : zfG P m g M) (ha : a < 2 ^ m) (hb : b < 2 ^ m) : mq_C mq_X0_times [.ref 2, .int (nI a), .int (nI b)] M (some (.int (nI (fm P m a b))), M) := by
  obtain ⟨hg, hc, e0, e1, e2, e3, e4⟩ := h
  have h8 := hg.2.1
  have hq := zq256 h8
  have h1 := f1_lt hg
  refine t_X0_times_0 _ _ _ ⟨fun c => ?_, fun c => ⟨fun d => ?_, fun d => ?_⟩⟩
  · rw [zn_eq0 (by omega)] at c
    rw [c, fm_zero]; rfl
  · rw [zn_eq0 (by omega)] at c d
    obtain ⟨i, hi, rfl⟩ := hc.2.2.2.2.2 a (by omega) ha
    obtain ⟨j, hj, rfl⟩ := hc.2.2.2.2.2 b (by omega) hb
    refine ⟨zn_in (by omega) (by decide), zn_in (by omega) (by decide), ?_⟩
    rw [zn_cl (by omega), zn_cl (by omega), e4 i hi, e4 j hj, e2, nI_add, zs1 (by omega)]
    refine ⟨fun q => ?_, fun q => ?_⟩
    · rw [zn_le (by omega) (by omega)] at q
      rw [zsub1 _ _ (by omega)]
      refine ⟨zn_in (by omega) (by decide), ?_⟩
      have e5 := fpw_add hg hc.2.1 (i + j - (2 ^ m - 1)) (2 ^ m - 1)
      rw [Nat.sub_add_cancel q, hc.2.2.1, fm_one_r hg (fpw_lt hg hc.2.1 _)] at e5
      rw [zn_cl (by omega), e3 _ (by omega), show i + j + 1 - 2 ^ m = i + j - (2 ^ m - 1) by omega, ← fpw_add hg hc.2.1, e5]
    · rw [zn_le (by omega) (by omega)] at q
      refine ⟨zn_in (by omega) (by decide), ?_⟩
      rw [zn_cl (by omega), e3 _ (by omega), ← fpw_add hg hc.2.1]
  · rw [zn_eq0 (by omega)] at d
    rw [Classical.not_not.mp d, fm_zero_r]; rfl
theorem s_X0_turned (h : zfG P m g M) (h0 : 0 < a) (ha : a < 2 ^ m) : mq_C mq_X0_turned [.ref 2, .int (nI a)] M (some (.int (nI (fpw P m a (2 ^ m - 2)))), M) := by
  obtain ⟨hg, hc, e0, e1, e2, e3, e4⟩ := h
  have h8 := hg.2.1
  have hq := zq256 h8
  have h1 := f1_lt hg
  obtain ⟨i, hi, rfl⟩ := hc.2.2.2.2.2 a h0 ha
  have key : ∀ k, (i + k = 2 ^ m - 1 ∨ (i = 0 ∧ k = 0)) → fpw P m (fpw P m g i) (2 ^ m - 2) = fpw P m g k := by
    intro k hk
    have a1 : fm P m (fpw P m g i) (fpw P m g k) = 1 := by
      rw [← fpw_add hg hc.2.1]
      rcases hk with hk | hk
      · rw [hk]; exact hc.2.2.1
      · rw [hk.1, hk.2]; rfl
    have a2 := fm_inv hg hc h0 ha
    have l1 := fpw_lt hg ha (2 ^ m - 2)
    have l2 := fpw_lt hg hc.2.1 k
    have a3 := fm_assoc hg l1 ha l2
    rw [a2, fm_one hg l2, a1, fm_one_r hg l1] at a3
    exact a3.symm
  refine t_X0_turned_0 _ _ ⟨zn_in (by omega) (by decide), fun c => ?_, fun c => ?_⟩
  · rw [zn_cl (by omega), e4 i hi, zn_eq0 (by omega)] at c
    rw [zn_cl (by omega), e4 i hi, e2, zs1 (by omega), zn_sub (by omega)]
    refine ⟨zn_in (by omega) (by decide), ?_⟩
    rw [zn_cl (by omega), e3 _ (by omega), key (2 ^ m - 1 - i) (Or.inl (by omega))]
  · rw [zn_cl (by omega), e4 i hi, zn_eq0 (by omega)] at c
    have c := Classical.not_not.mp c
    refine ⟨zn_in (a := 0) (by decide) (by decide), ?_⟩
    rw [show (0 : Int32).toNatClampNeg = 0 from rfl, e3 0 (by omega), key 0 (Or.inr ⟨c, rfl⟩)]
theorem s_X0_raised_8 (h : zfG P m g M) (o1 : Option Value) {n : Nat} (hn : n < 2 ^ 31) : ∀ (f k v b : Nat), k + f = 31 → v < 2 ^ m → b < 2 ^ m → mq_G mq_X0_raised (8, [some (.ref 2), o1, some (.int (nI n)), some (.int (nI v)), some (.int (nI b)), some (.int (nI k))], [], M) (some (.int (nI (fm P m v (fpw P m b (n / 2 ^ k))))), M)
  | 0, k, v, b, hk, hv, hb => by
    obtain rfl : k = 31 := by omega
    refine t_X0_raised_8 _ _ _ _ _ _ ⟨fun _ => ?_, fun c => absurd (by decide) c⟩
    rw [Nat.div_eq_of_lt hn, show fpw P m b 0 = 1 from rfl, fm_one_r h.1 hv]
  | f + 1, k, v, b, hk, hv, hb => by
    have hh : fm P m v (fpw P m b (n / 2 ^ k)) = fm P m (if n / 2 ^ k % 2 = 1 then fm P m v b else v) (fpw P m (fm P m b b) (n / 2 ^ (k + 1))) := by
      rw [Nat.pow_succ, ← Nat.div_div_eq_div_mul]
      by_cases e : n / 2 ^ k = 0
      · rw [e, if_neg (by decide)]; rfl
      · exact fpw_half h.1 hv hb _ (Nat.pos_of_ne_zero e)
    refine t_X0_raised_8 _ _ _ _ _ _ ⟨fun c => ?_, fun _ => ?_⟩
    · rw [show (31 : Int32) = nI 31 from rfl, zn_le (by decide) (by omega)] at c
      omega
    · rw [zn_bit0 hn (by omega), nI_1]
      refine ⟨fun c => ⟨_, s_X0_times h hb hb, ?_⟩, fun c => ⟨_, s_X0_times h hv hb, _, s_X0_times h hb hb, ?_⟩⟩
      · rw [if_neg (by omega)] at hh
        rw [hh]
        exact s_X0_raised_8 h o1 hn f (k + 1) _ _ (by omega) hv (fm_lt h.1 hb)
      · rw [if_pos (by omega)] at hh
        rw [hh]
        exact s_X0_raised_8 h o1 hn f (k + 1) _ _ (by omega) (fm_lt h.1 hv) (fm_lt h.1 hb)
theorem s_X0_raised (h : zfG P m g M) (ha : a < 2 ^ m) {n : Nat} (hn : n < 2 ^ 31) : mq_C mq_X0_raised [.ref 2, .int (nI a), .int (nI n)] M (some (.int (nI (fpw P m a n))), M) := by
  have h1 := s_X0_raised_8 h (some (.int (nI a))) hn 31 0 1 a rfl (f1_lt h.1) ha
  rw [Nat.pow_zero, Nat.div_one, fm_one h.1 (fpw_lt h.1 ha n)] at h1
  exact t_X0_raised_0 _ _ _ h1
theorem s_X0_squared_5 (h : zfG P m g M) (ha : a < 2 ^ m) (o1 : Option Value) {k : Nat} (hk : k < 2 ^ 31) : ∀ (f i : Nat), i + f = k → mq_G mq_X0_squared (5, [some (.ref 2), o1, some (.int (nI k)), some (.int (nI (cj P m a i))), some (.int (nI i))], [], M) (some (.int (nI (cj P m a k))), M)
  | 0, i, hi => by
    obtain rfl : i = k := by omega
    refine t_X0_squared_5 _ _ _ _ _ ⟨fun _ => rfl, fun c => absurd ?_ c⟩
    rw [zn_le hk hk]
    exact Nat.le_refl _
  | f + 1, i, hi => by
    refine t_X0_squared_5 _ _ _ _ _ ⟨fun c => ?_, fun _ => ⟨_, s_X0_times h (cj_lt h.1 ha i) (cj_lt h.1 ha i), ?_⟩⟩
    · rw [zn_le hk (by omega)] at c
      omega
    · rw [nI_1]
      exact s_X0_squared_5 h ha o1 hk f (i + 1) (by omega)
theorem s_X0_squared (h : zfG P m g M) (ha : a < 2 ^ m) {k : Nat} (hk : k < 2 ^ 31) : mq_C mq_X0_squared [.ref 2, .int (nI a), .int (nI k)] M (some (.int (nI (cj P m a k))), M) :=
  t_X0_squared_0 _ _ _ (s_X0_squared_5 h ha _ hk k 0 (by omega))
/-! orders -/
def zeu : Nat → Nat → Nat → Nat
  | 0, x, _ => x
  | f + 1, x, y => if y = 0 then x else zeu f y (x % y)
theorem zeu_gcd : ∀ m, m < 9 → ∀ i, i < 2 ^ m - 1 → zeu 64 (2 ^ m - 1) i = Nat.gcd (2 ^ m - 1) i := by decide +kernel
theorem s_X0_orderOf_20 (M : mz_M) {N : Nat} (hN : N < 2 ^ 16) (o0 o1 : Option Value) : ∀ (f k x y : Nat) (o6 : Option Value), k + f = 64 → 0 < x → x < 2 ^ 16 → y < 2 ^ 16 → mq_G mq_X0_orderOf (20, [o0, o1, some (.int (nI N)), some (.int (nI x)), some (.int (nI y)), some (.int (nI k)), o6], [], M) (some (.int (nI (N / zeu f x y))), M)
  | 0, k, x, y, o6, hk, hx, hx2, hy => by
    obtain rfl : k = 64 := by omega
    refine t_X0_orderOf_20 _ _ _ _ _ _ _ _ ⟨fun _ => ⟨fun c => ?_, fun c => ⟨?_, ?_⟩⟩, fun c => absurd (by decide) c⟩
    · rw [zn_le0 (by omega)] at c
      omega
    · rw [zn_eq0 (by omega)]
      omega
    · rw [pk_div (by omega) hx (by omega)]
      rfl
  | f + 1, k, x, y, o6, hk, hx, hx2, hy => by
    refine t_X0_orderOf_20 _ _ _ _ _ _ _ _ ⟨fun c => ?_, fun _ => ⟨fun c => ⟨fun d => ?_, fun d => ⟨?_, ?_⟩⟩, fun c => ⟨?_, ?_⟩⟩⟩
    · rw [show (64 : Int32) = nI 64 from rfl, zn_le (by decide) (by omega)] at c
      omega
    · rw [zn_le0 (by omega)] at d
      omega
    · rw [zn_eq0 (by omega)]
      omega
    · rw [zn_le0 (by omega)] at c
      unfold zeu
      rw [if_pos c, pk_div (by omega) hx (by omega)]
    · rw [zn_le0 (by omega)] at c
      rw [zn_eq0 (by omega)]
      exact c
    · rw [zn_le0 (by omega)] at c
      have hm := Nat.mod_lt x (show 0 < y by omega)
      unfold zeu
      rw [if_neg c, pk_rem (by omega) (by omega) (by omega), nI_1]
      exact s_X0_orderOf_20 M hN o0 o1 f (k + 1) y (x % y) _ (by omega) (by omega) hy (by omega)
theorem zord_gcd {i : Nat} (hg : fgood P m) (hc : fcy P m g) (hi : i < 2 ^ m - 1) : zord P m (fpw P m g i) = (2 ^ m - 1) / Nat.gcd (2 ^ m - 1) i := by
  have h1 := f1_lt hg
  have hN : 0 < 2 ^ m - 1 := by omega
  have hp := hc.2.2.2.2.1 i hi
  obtain ⟨z1, z2, z3, z4⟩ := zord_spec hg hc hp.1 hp.2
  have h0 := hc.1
  have per : ∀ k, fpw P m g k = 1 → k % (2 ^ m - 1) = 0 := by
    intro k hk
    have e := fpw_mod hg hc (by omega : 0 < g) hc.2.1 hc.2.2.1 k
    rw [hk] at e
    exact hc.2.2.2.1 _ (Nat.mod_lt k hN) 0 hN e
  have hd : 0 < Nat.gcd (2 ^ m - 1) i := Nat.gcd_pos_of_pos_left i hN
  have hcop := Nat.coprime_div_gcd_div_gcd hd
  have hu : 2 ^ m - 1 = Nat.gcd (2 ^ m - 1) i * ((2 ^ m - 1) / Nat.gcd (2 ^ m - 1) i) := (Nat.mul_div_cancel' (Nat.gcd_dvd_left (2 ^ m - 1) i)).symm
  have hw : i = Nat.gcd (2 ^ m - 1) i * (i / Nat.gcd (2 ^ m - 1) i) := (Nat.mul_div_cancel' (Nat.gcd_dvd_right (2 ^ m - 1) i)).symm
  generalize Nat.gcd (2 ^ m - 1) i = d at hd hcop hu hw ⊢
  generalize (2 ^ m - 1) / d = u at hcop hu ⊢
  generalize i / d = w at hcop hw
  apply Nat.dvd_antisymm
  · apply Nat.dvd_of_mod_eq_zero
    apply zord_dvd hg hc hp.1 hp.2
    rw [fpw_mul hg hc.2.1, show i * u = (2 ^ m - 1) * w by rw [hu]; conv => lhs; rw [hw]
                                                           rw [Nat.mul_assoc, Nat.mul_assoc, Nat.mul_comm w u], ← fpw_mul hg hc.2.1, hc.2.2.1, fpw_one hg]
  · have e := per (i * zord P m (fpw P m g i)) (by rw [← fpw_mul hg hc.2.1]; exact z1)
    have e2 := Nat.dvd_of_mod_eq_zero e
    generalize zord P m (fpw P m g i) = z at e2 ⊢
    rw [hu, hw, Nat.mul_assoc] at e2
    exact Nat.Coprime.dvd_of_dvd_mul_left hcop (Nat.dvd_of_mul_dvd_mul_left hd e2)
theorem s_X0_orderOf (h : zfG P m g M) (h0 : 0 < a) (ha : a < 2 ^ m) : mq_C mq_X0_orderOf [.ref 2, .int (nI a)] M (some (.int (nI (zord P m a))), M) := by
  obtain ⟨hg, hc, e0, e1, e2, e3, e4⟩ := h
  have h8 := hg.2.1
  have hq := zq256 h8
  have h1 := f1_lt hg
  obtain ⟨i, hi, rfl⟩ := hc.2.2.2.2.2 a h0 ha
  refine t_X0_orderOf_0 _ _ ⟨zn_in (by omega) (by decide), ?_⟩
  rw [zn_cl (by omega), e4 i hi, e2, zs1 (by omega), zord_gcd hg hc hi, ← zeu_gcd m (by omega) i hi]
  exact s_X0_orderOf_20 M (by omega) _ _ 64 0 _ _ _ rfl (by omega) (by omega) (by omega)
theorem s_X0_generates (h : zfG P m g M) (h0 : 0 < a) (ha : a < 2 ^ m) : mq_C mq_X0_generates [.ref 2, .int (nI a)] M (some (.int (zB (zgen P m a))), M) := by
  have h8 := h.1.2.1
  have hq := zq256 h8
  have h1 := f1_lt h.1
  have hz := (zord_spec h.1 h.2.1 h0 ha).2.2.1
  refine t_X0_generates_0 _ _ ⟨_, s_X0_orderOf h h0 ha, ?_⟩
  rw [h.2.2.2.2.1, zs1 (by omega), zn_eq (by omega) (by omega)]
  refine ⟨fun c => ?_, fun c => ?_⟩
  · rw [show zgen P m a = false from decide_eq_false (fun q => c q.2)]; rfl
  · rw [show zgen P m a = true from decide_eq_true ⟨h0, Classical.not_not.mp c⟩]; rfl
theorem s_X0_howMany_19 (h : zfG P m g M) {n : Nat} (hn : n < 2 ^ 31) : ∀ (f a : Nat), a + 1 + f = 2 ^ m → mq_G mq_X0_howManyOfOrder (19, [some (.ref 2), some (.int (nI n)), some (.int (nI (zcnt (fun a => Nat.beq (zord P m a) n) a 1))), some (.int (nI (a + 1)))], [], M) (some (.int (nI (zits P m n))), M)
  | 0, a, ha => by
    have hq := zq256 h.1.2.1
    refine t_X0_howManyOfOrder_19 _ _ _ _ ⟨fun _ => ?_, fun c => absurd ?_ c⟩
    · unfold zits
      rw [show 2 ^ m - 1 = a by omega]
    · rw [h.2.2.2.2.1, zn_le (by omega) (by omega)]
      omega
  | f + 1, a, ha => by
    have hq := zq256 h.1.2.1
    have hz := (zord_spec h.1 h.2.1 (show 0 < a + 1 by omega) (show a + 1 < 2 ^ m by omega)).2.2.1
    have ih := s_X0_howMany_19 h hn f (a + 1) (by omega)
    refine t_X0_howManyOfOrder_19 _ _ _ _ ⟨fun c => ?_, fun _ => ⟨_, s_X0_orderOf h (by omega) (by omega), ?_⟩⟩
    · rw [h.2.2.2.2.1, zn_le (by omega) (by omega)] at c
      omega
    · rw [zn_eq (by omega) hn, nI_1, nI_1, Int32.add_zero]
      refine ⟨fun c => ?_, fun c => ?_⟩
      · rw [zcnt_r, if_neg (by rw [Nat.add_comm 1 a]; exact fun q => c (Nat.eq_of_beq_eq_true q)), Nat.add_zero] at ih
        exact ih
      · rw [zcnt_r, if_pos (by rw [Nat.add_comm 1 a]; show Nat.beq (zord P m (a + 1)) n = true; rw [Classical.not_not.mp c]; exact Nat.beq_refl _)] at ih
        exact ih
theorem s_X0_howMany (h : zfG P m g M) {n : Nat} (h1n : 1 ≤ n) (hn : n < 2 ^ m) : mq_C mq_X0_howManyOfOrder [.ref 2, .int (nI n)] M (some (.int (nI (zits P m n))), M) := by
  have hq := zq256 h.1.2.1
  have hm := Nat.mod_lt (2 ^ m - 1) (show 0 < n by omega)
  refine t_X0_howManyOfOrder_0 _ _ ⟨fun c => ?_, fun _ => ⟨?_, ?_⟩⟩
  · rw [zn_le0 (by omega)] at c
    omega
  · rw [zn_eq0 (by omega)]
    omega
  · rw [h.2.2.2.2.1, zs1 (by omega), pk_rem (by omega) (by omega) (by omega), zn_eq0 (by omega)]
    refine ⟨fun c => ?_, fun _ => s_X0_howMany_19 h (by omega) (2 ^ m - 1) 0 (by omega)⟩
    rw [show zits P m n = 0 from Classical.byContradiction (fun q => c (zits_dvd h.1 h.2.1 q))]
    rfl
theorem s_X0_sizeOf_9 (h : zfG P m g M) (ha : a < 2 ^ m) : ∀ (f k : Nat), k + f = m → mq_G mq_X0_sizeOf (9, [some (.ref 2), some (.int (nI a)), some (.int (nI (cj P m a k))), some (.int (nI k))], [], M) (some (.int (nI (zsz P m a f k))), M)
  | 0, k, hk => by
    obtain rfl : k = m := by omega
    have h8 := h.1.2.1
    refine t_X0_sizeOf_9 _ _ _ _ ⟨fun _ => rfl, fun c => absurd ?_ c⟩
    rw [h.2.2.2.1]
    rw [zn_le (by omega) (by omega)]
    exact Nat.le_refl _
  | f + 1, k, hk => by
    have h8 := h.1.2.1
    have hl := cj_lt h.1 ha k
    refine t_X0_sizeOf_9 _ _ _ _ ⟨fun c => ?_, fun _ => ⟨fun c => ?_, fun c => ⟨_, s_X0_times h hl hl, ?_⟩⟩⟩
    · rw [h.2.2.2.1, zn_le (by omega) (by omega)] at c
      omega
    · rw [zn_eq (z31 h8 hl) (z31 h8 ha)] at c
      unfold zsz
      rw [if_pos c]
    · rw [zn_eq (z31 h8 hl) (z31 h8 ha)] at c
      unfold zsz
      rw [if_neg c, nI_1]
      exact s_X0_sizeOf_9 h ha f (k + 1) (by omega)
theorem s_X0_sizeOf (h : zfG P m g M) (ha : a < 2 ^ m) : mq_C mq_X0_sizeOf [.ref 2, .int (nI a)] M (some (.int (nI (zsz P m a (m - 1) 1))), M) :=
  t_X0_sizeOf_0 _ _ ⟨_, s_X0_times h ha ha, s_X0_sizeOf_9 h ha (m - 1) 1 (by have := h.1.1; omega)⟩
theorem s_X0_hasSubfield (h : zfG P m g M) (x : Int32) : mq_C mq_X0_hasSubfield [.ref 2, .int x] M (some (.int (zB (zpt m x))), M) := by
  have h8 := h.1.2.1
  refine t_X0_hasSubfield_0 _ _ ?_
  rw [h.2.2.2.1]
  refine ⟨fun c => ?_, fun c => ⟨fun d => ?_, fun d => ?_⟩⟩
  · have e : zpt m x = false := zpt_neg (by
      rintro ⟨d, hd, h0, _, rfl⟩
      rw [show (1 : Int32) = nI 1 from rfl, zn_lt (by omega) (by decide)] at c
      omega)
    rw [e]; rfl
  · have e : zpt m x = false := zpt_neg (by
      rintro ⟨e, he, h0, _, rfl⟩
      rw [zn_lt (by omega) (by omega)] at d
      omega)
    rw [e]; rfl
  · have hx : (0 : Int32) ≤ x := Int32.le_trans (by decide) (Int32.not_lt.mp c)
    obtain ⟨n, hn, rfl⟩ := zn_of hx
    rw [show (1 : Int32) = nI 1 from rfl, zn_lt (by omega) (by decide)] at c
    rw [zn_lt (by omega) (by omega)] at d
    have hm := Nat.mod_lt m (show 0 < n by omega)
    refine ⟨by rw [zn_eq0 hn]; omega, ?_⟩
    rw [pk_rem (by omega) (by omega) (by omega), zn_eq0 (by omega)]
    refine ⟨fun q => ?_, fun q => ?_⟩
    · have e : zpt m (nI n) = false := zpt_neg (by
        rintro ⟨e, he, h0, h4, e5⟩
        rw [zn_eq hn (by omega)] at e5
        subst e5
        exact q h4)
      rw [e]; rfl
    · rw [zpt_pos (by omega) (by omega) (Classical.not_not.mp q)]; rfl
/-! traces and norms -/
theorem s_X0_tracedTo_20 {d : Nat} (h : zfG P m g M) (ha : a < 2 ^ m) (hd0 : 0 < d) (hd : d ≤ 8) (o1 o2 : Option Value) : ∀ (f k v : Nat), k < 2 ^ 20 → m ≤ k + f → mq_G mq_X0_tracedTo (20, [some (.ref 2), o1, o2, some (.int (nI d)), some (.int (nI v)), some (.int (nI (cj P m a k))), some (.int (nI k))], [], M) (some (.int (nI (ztr P m a d f k v))), M)
  | 0, k, v, hk, hf => by
    have h8 := h.1.2.1
    refine t_X0_tracedTo_20 _ _ _ _ _ _ _ ⟨fun _ => rfl, fun c => absurd ?_ c⟩
    rw [h.2.2.2.1, zn_le (by omega) (by omega)]
    omega
  | f + 1, k, v, hk, hf => by
    have h8 := h.1.2.1
    unfold ztr
    refine t_X0_tracedTo_20 _ _ _ _ _ _ _ ?_
    rw [h.2.2.2.1, zn_le (by omega) (by omega)]
    refine ⟨fun c => by rw [if_pos c], fun c => ⟨_, s_X0_squared h (cj_lt h.1 ha k) (by omega), ?_⟩⟩
    rw [if_neg c, zn_xor, nI_add, cj_add]
    exact s_X0_tracedTo_20 h ha hd0 hd o1 o2 f (k + d) _ (by omega) (by omega)
theorem s_X0_tracedTo {d : Nat} (h : zfG P m g M) (ha : a < 2 ^ m) (hd0 : 0 < d) (hd : d ≤ 8) : mq_C mq_X0_tracedTo [.ref 2, .int (nI a), .int (nI d)] M (some (.int (nI (ztr P m a d 8 0 0))), M) := by
  have h8 := h.1.2.1
  refine t_X0_tracedTo_0 _ _ _ ⟨fun _ => s_X0_tracedTo_20 h ha hd0 hd _ _ 8 0 0 (by decide) (by omega), fun c => absurd ?_ c⟩
  rw [show (1 : Int32) = nI 1 from rfl, zn_le (by decide) (by omega)]
  exact hd0
theorem s_X0_normedTo_20 {d : Nat} (h : zfG P m g M) (ha : a < 2 ^ m) (hd0 : 0 < d) (hd : d ≤ 8) (o1 o2 : Option Value) : ∀ (f k v : Nat), v < 2 ^ m → k < 2 ^ 20 → m ≤ k + f → mq_G mq_X0_normedTo (20, [some (.ref 2), o1, o2, some (.int (nI d)), some (.int (nI v)), some (.int (nI (cj P m a k))), some (.int (nI k))], [], M) (some (.int (nI (znm P m a d f k v))), M)
  | 0, k, v, hv, hk, hf => by
    have h8 := h.1.2.1
    refine t_X0_normedTo_20 _ _ _ _ _ _ _ ⟨fun _ => rfl, fun c => absurd ?_ c⟩
    rw [h.2.2.2.1, zn_le (by omega) (by omega)]
    omega
  | f + 1, k, v, hv, hk, hf => by
    have h8 := h.1.2.1
    unfold znm
    refine t_X0_normedTo_20 _ _ _ _ _ _ _ ?_
    rw [h.2.2.2.1, zn_le (by omega) (by omega)]
    refine ⟨fun c => by rw [if_pos c], fun c => ⟨_, s_X0_times h hv (cj_lt h.1 ha k), _, s_X0_squared h (cj_lt h.1 ha k) (by omega), ?_⟩⟩
    rw [if_neg c, nI_add, cj_add]
    exact s_X0_normedTo_20 h ha hd0 hd o1 o2 f (k + d) _ (fm_lt h.1 hv) (by omega) (by omega)
theorem s_X0_normedTo {d : Nat} (h : zfG P m g M) (ha : a < 2 ^ m) (hd0 : 0 < d) (hd : d ≤ 8) : mq_C mq_X0_normedTo [.ref 2, .int (nI a), .int (nI d)] M (some (.int (nI (znm P m a d 8 0 1))), M) := by
  have h8 := h.1.2.1
  refine t_X0_normedTo_0 _ _ _ ⟨fun _ => s_X0_normedTo_20 h ha hd0 hd _ _ 8 0 1 (f1_lt h.1) (by decide) (by omega), fun c => absurd ?_ c⟩
  rw [show (1 : Int32) = nI 1 from rfl, zn_le (by decide) (by omega)]
  exact hd0
theorem s_X0_valueAt_6 {p : Nat} (h : zfG P m g M) (ha : a < 2 ^ m) (hp : p < 2 ^ 31) : ∀ (n v : Nat), n ≤ 31 → v < 2 ^ m → mq_G mq_X0_valueAt (6, [some (.ref 2), some (.int (nI p)), some (.int (nI a)), some (.int (nI v)), some (.int (nI n + (-1)))], [], M) (some (.int (nI (zev P m a p n v))), M)
  | 0, v, hn, hv => t_X0_valueAt_6 _ _ _ _ _ ⟨fun _ => rfl, fun c => absurd (by decide +kernel) c⟩
  | n + 1, v, hn, hv => by
    rw [zn_m1]
    refine t_X0_valueAt_6 _ _ _ _ _ ⟨fun c => absurd c (nI_pos (by omega)), fun _ => ⟨_, s_X0_times h hv ha, ?_⟩⟩
    rw [zn_bit hp (by omega), zn_xor]
    exact s_X0_valueAt_6 h ha hp n _ (by omega) (Nat.xor_lt_two_pow (fm_lt h.1 hv) (Nat.lt_of_lt_of_le (Nat.mod_lt _ (by decide)) (f1_lt h.1)))
theorem s_X0_valueAt {p : Nat} (h : zfG P m g M) (ha : a < 2 ^ m) (hp : p < 512) : mq_C mq_X0_valueAt [.ref 2, .int (nI p), .int (nI a)] M (some (.int (nI (zva P m a p))), M) := by
  have h1 := s_X0_valueAt_6 h ha (show p < 2 ^ 31 by omega) 9 0 (by decide) (Nat.two_pow_pos m)
  rw [zev_cb h.1 ha 9 0 (Nat.two_pow_pos m), fm_zero, Nat.zero_xor] at h1
  exact t_X0_valueAt_0 _ _ _ h1
/-! rows of powers and conjugates -/
theorem s_X0_fillsPowers_5 (ha : a < 2 ^ m) (hb : zar b) (h2 : ¬ b = 2) (h3 : ¬ b = 3) (h4 : ¬ b = 4) : ∀ (f i : Nat) (M : mz_M), i + f = m → zfG P m g M → zrow M b i (fpw P m a) → ∃ M', mq_G mq_X0_fillsPowers (5, [some (.ref 2), some (.ref b), some (.int (nI a)), some (.int (nI (fpw P m a i))), some (.int (nI i))], [], M) (none, M') ∧ zK [b] M M' ∧ zrow M' b m (fpw P m a)
  | 0, i, M, hi, hF, hr => by
    obtain rfl : i = m := by omega
    have h8 := hF.1.2.1
    refine ⟨M, t_X0_fillsPowers_5 _ _ _ _ _ ⟨fun _ => rfl, fun c => absurd ?_ c⟩, zK.rf _ _, hr⟩
    rw [hF.2.2.2.1, zn_le (by omega) (by omega)]
    exact Nat.le_refl _
  | f + 1, i, M, hi, hF, hr => by
    have h8 := hF.1.2.1
    have hk : zK [b] M (mz_wr M b (upd (M.1 b) i (nI (fpw P m a i)))) := zK.wr (by simp)
    have hF1 := hF.k hk (zns h2) (zns h3) (zns h4)
    obtain ⟨M', g1, g2, g3⟩ := s_X0_fillsPowers_5 ha hb h2 h3 h4 f (i + 1) _ (by omega) hF1 hr.put
    refine ⟨M', t_X0_fillsPowers_5 _ _ _ _ _ ⟨fun c => ?_, fun _ => ⟨hb, zn_in (by omega) (by decide), fun M3 e3 => ?_⟩⟩, hk.tr g2, g3⟩
    · rw [hF.2.2.2.1, zn_le (by omega) (by omega)] at c
      omega
    · rw [zn_cl (by omega)] at e3
      rw [e3]
      exact ⟨_, s_X0_times hF1 (fpw_lt hF.1 ha i) ha, by rw [nI_1]; exact g1⟩
theorem s_X0_fillsPowers (h : zfG P m g M) (ha : a < 2 ^ m) (hb : zar b) (h2 : ¬ b = 2) (h3 : ¬ b = 3) (h4 : ¬ b = 4) : ∃ M', mq_C mq_X0_fillsPowers [.ref 2, .ref b, .int (nI a)] M (none, M') ∧ zK [b] M M' ∧ zrow M' b m (fpw P m a) := by
  obtain ⟨M', g1, g2, g3⟩ := s_X0_fillsPowers_5 ha hb h2 h3 h4 m 0 M (by omega) h (fun j hj => absurd hj (by omega))
  exact ⟨M', t_X0_fillsPowers_0 _ _ _ g1, g2, g3⟩
theorem s_X0_fillsConjugates_5 (ha : a < 2 ^ m) (hb : zar b) (h2 : ¬ b = 2) (h3 : ¬ b = 3) (h4 : ¬ b = 4) : ∀ (f i : Nat) (M : mz_M) (o : Option Value), i + f = m → zfG P m g M → zrow M b i (cj P m a) → ∃ M', mq_G mq_X0_fillsConjugates (5, [some (.ref 2), some (.ref b), o, some (.int (nI (cj P m a i))), some (.int (nI i))], [], M) (none, M') ∧ zK [b] M M' ∧ zrow M' b m (cj P m a)
  | 0, i, M, o, hi, hF, hr => by
    obtain rfl : i = m := by omega
    have h8 := hF.1.2.1
    refine ⟨M, t_X0_fillsConjugates_5 _ _ _ _ _ ⟨fun _ => rfl, fun c => absurd ?_ c⟩, zK.rf _ _, hr⟩
    rw [hF.2.2.2.1, zn_le (by omega) (by omega)]
    exact Nat.le_refl _
  | f + 1, i, M, o, hi, hF, hr => by
    have h8 := hF.1.2.1
    have hk : zK [b] M (mz_wr M b (upd (M.1 b) i (nI (cj P m a i)))) := zK.wr (by simp)
    have hF1 := hF.k hk (zns h2) (zns h3) (zns h4)
    obtain ⟨M', g1, g2, g3⟩ := s_X0_fillsConjugates_5 ha hb h2 h3 h4 f (i + 1) _ (mz_nw o) (by omega) hF1 hr.put
    refine ⟨M', t_X0_fillsConjugates_5 _ _ _ _ _ ⟨fun c => ?_, fun _ => ⟨hb, zn_in (by omega) (by decide), fun M3 e3 => ?_⟩⟩, hk.tr g2, g3⟩
    · rw [hF.2.2.2.1, zn_le (by omega) (by omega)] at c
      omega
    · rw [zn_cl (by omega)] at e3
      rw [e3]
      exact ⟨_, s_X0_times hF1 (cj_lt hF.1 ha i) (cj_lt hF.1 ha i), by rw [nI_1]; exact g1⟩
theorem s_X0_fillsConjugates (h : zfG P m g M) (ha : a < 2 ^ m) (hb : zar b) (h2 : ¬ b = 2) (h3 : ¬ b = 3) (h4 : ¬ b = 4) : ∃ M', mq_C mq_X0_fillsConjugates [.ref 2, .ref b, .int (nI a)] M (none, M') ∧ zK [b] M M' ∧ zrow M' b m (cj P m a) := by
  obtain ⟨M', g1, g2, g3⟩ := s_X0_fillsConjugates_5 ha hb h2 h3 h4 m 0 M (some (.int (nI a))) (by omega) h (fun j hj => absurd hj (by omega))
  exact ⟨M', t_X0_fillsConjugates_0 _ _ _ g1, g2, g3⟩
/-! how many bits are set -/
def zb1 (x : Int32) : Int32 := x - (((x.toUInt32 >>> ((1 : Int32).toUInt32 &&& Int32.toUInt32 31)).toInt32) &&& 1431655765)
def zb2 (x : Int32) : Int32 := (x &&& 858993459) + (((x.toUInt32 >>> ((2 : Int32).toUInt32 &&& Int32.toUInt32 31)).toInt32) &&& 858993459)
def zb3 (x : Int32) : Int32 := (x + ((x.toUInt32 >>> ((4 : Int32).toUInt32 &&& Int32.toUInt32 31)).toInt32)) &&& 252645135
def zb4 (x : Int32) : Int32 := x + ((x.toUInt32 >>> ((8 : Int32).toUInt32 &&& Int32.toUInt32 31)).toInt32)
def zb5 (x : Int32) : Int32 := x + ((x.toUInt32 >>> ((16 : Int32).toUInt32 &&& Int32.toUInt32 31)).toInt32)
theorem zb_all : zall (fun n => decide (zb5 (zb4 (zb3 (zb2 (zb1 (nI n))))) &&& 63 = nI (zpop 10 n))) 256 = true := by decide +kernel
theorem s_bitCount (M : mz_M) {n : Nat} (hn : n < 256) : mq_C mq_J6_bitCount_0f7a4 [.int (nI n)] M (some (.int (nI (zpop 10 n))), M) := by
  have h := of_decide_eq_true (zall_iff zb_all n hn)
  refine t_J6_bitCount_0f7a4_0 _ _ ?_
  rw [← h]
  rfl
/-! the trace, by the traces of 1, x, x^2, .. -/
theorem zpop_x : ∀ f a b, zpop f (a ^^^ b) % 2 = (zpop f a + zpop f b) % 2
  | 0, a, b => rfl
  | f + 1, a, b => by
    show ((a ^^^ b) % 2 + zpop f ((a ^^^ b) / 2)) % 2 = (a % 2 + zpop f (a / 2) + (b % 2 + zpop f (b / 2))) % 2
    have h1 := zpop_x f (a / 2) (b / 2)
    rw [← Nat.xor_div_two] at h1
    have h2 : (a ^^^ b) % 2 = (a % 2 + b % 2) % 2 := by
      have h3 := Nat.xor_mod_two_pow (a := a) (b := b) (n := 1)
      rw [Nat.pow_one] at h3
      rw [h3]
      rcases Nat.mod_two_eq_zero_or_one a with e | e <;> rcases Nat.mod_two_eq_zero_or_one b with e2 | e2 <;> rw [e, e2] <;> rfl
    omega
theorem zpop_bit : ∀ i, i < 8 → ∀ T, T < 256 → zpop 10 (2 ^ i &&& T) % 2 = if T.testBit i = true then 1 else 0 := by decide +kernel
/-- which of 1, x, x^2, .. have the trace 1 -/
def zto1 (P m T : Nat) (n : Nat) : Prop := T < 2 ^ n ∧ ∀ i, i < n → T.testBit i = Nat.beq (zT P m (2 ^ i)) 1
theorem zto1_tr {T : Nat} (hg : fgood P m) (hc : fcy P m g) (hT : zto1 P m T m) : ∀ n, n ≤ m → ∀ a, a < 2 ^ n → zpop 10 (a &&& T) % 2 = zT P m a
  | 0, _, a, ha => by
    obtain rfl : a = 0 := by simpa using ha
    rw [Nat.zero_and, zT_0 hg]
    rfl
  | n + 1, hn, a, ha => by
    have h8 := hg.2.1
    have hT8 : T < 256 := z256 h8 hT.1
    have hp : 2 ^ n < 2 ^ m := Nat.pow_lt_pow_right (by decide) (by omega)
    by_cases hb : a.testBit n = true
    · obtain ⟨b, hb1, e⟩ : ∃ b, b < 2 ^ n ∧ a = b ^^^ 2 ^ n := ⟨a ^^^ 2 ^ n, by
        apply zlt_bit (Nat.xor_lt_two_pow ha (Nat.pow_lt_pow_right (by decide) (by omega)))
        rw [Nat.testBit_xor, hb, Nat.testBit_two_pow_self]
        rfl, (zxx a (2 ^ n)).symm⟩
      have hbm : b < 2 ^ m := by omega
      have i1 := zto1_tr hg hc hT n (by omega) b hb1
      have i2 : zpop 10 (2 ^ n &&& T) % 2 = zT P m (2 ^ n) := by
        rw [zpop_bit n (by omega) T hT8, hT.2 n (by omega)]
        rcases zT_01 hg hc hp with q | q <;> rw [q] <;> rfl
      rw [e, Nat.and_xor_distrib_right, zpop_x, zT_x hg hbm hp, Nat.add_mod, i1, i2]
      rcases zT_01 hg hc hbm with q1 | q1 <;> rcases zT_01 hg hc hp with q2 | q2 <;> rw [q1, q2] <;> rfl
    · exact zto1_tr hg hc hT n (by omega) a (zlt_bit ha (by simpa using hb))
theorem s_X0_tracedToOne {T : Nat} (h : zfG P m g M) (hT : zto1 P m T m) (h5 : M.1 2 5 = nI T) (ha : a < 2 ^ m) : mq_C mq_X0_tracedToOne [.ref 2, .int (nI a)] M (some (.int (nI (zT P m a))), M) := by
  have hq := zq256 h.1.2.1
  have hl : a &&& T < 256 := Nat.lt_of_le_of_lt Nat.and_le_left (by omega)
  refine t_X0_tracedToOne_0 _ _ ⟨nI (zpop 10 (a &&& T)), by rw [h5, zn_and]; exact s_bitCount M hl, ?_⟩
  rw [zn_and1, zto1_tr h.1 h.2.1 hT m (Nat.le_refl _) a ha]
/-! the field laid down -/
theorem zcancel (hg : fgood P m) (hc : fcy P m g) {x : Nat} (h0 : 0 < x) (hx : x < 2 ^ m) (i j : Nat) (e : fpw P m x (i + j) = fpw P m x i) : fpw P m x j = 1 := by
  have hl := fpw_lt hg hx j
  have hi := fpw_lt hg hx i
  have hp := fpw_pos hg hc h0 hx i
  have e1 : fm P m (fpw P m x i) (fpw P m x j ^^^ 1) = 0 := by
    rw [fm_xr, fm_one_r hg hi, ← fpw_add hg hx, e, Nat.xor_self]
  rcases fm_nz hg hc hi (Nat.xor_lt_two_pow hl (f1_lt hg)) e1 with q | q
  · omega
  · exact zx_eq q
theorem fcy_of (hg : fgood P m) (hc : fcy P m g) {x : Nat} (h1 : 1 < x) (hx : x < 2 ^ m) (h : ∀ k, 1 ≤ k → k < 2 ^ m - 1 → fpw P m x k ≠ 1) : fcy P m x := by
  have h0 : 0 < x := by omega
  have inj : ∀ i, i < 2 ^ m - 1 → ∀ j, j < 2 ^ m - 1 → fpw P m x i = fpw P m x j → i = j := by
    intro i hi j hj e
    apply Classical.byContradiction
    intro hne
    rcases Nat.lt_or_gt_of_ne hne with q | q
    · exact h (j - i) (by omega) (by omega) (zcancel hg hc h0 hx i (j - i) (by rw [Nat.add_sub_cancel' (by omega)]; exact e.symm))
    · exact h (i - j) (by omega) (by omega) (zcancel hg hc h0 hx j (i - j) (by rw [Nat.add_sub_cancel' (by omega)]; exact e))
  refine ⟨h1, hx, fpw_cyc hg hc h0 hx, inj, fun i _ => ⟨fpw_pos hg hc h0 hx i, fpw_lt hg hx i⟩, fun a ha0 ha => ?_⟩
  have hs := zsurj (n := 2 ^ m - 1) (l := (List.range (2 ^ m - 1)).map (fun i => fpw P m x i - 1)) (by
      refine List.pairwise_map.mpr (List.Pairwise.imp_of_mem (S := fun i j => fpw P m x i - 1 ≠ fpw P m x j - 1) ?_ (List.nodup_range (n := 2 ^ m - 1)))
      intro i j hi hj hij e
      have p1 := fpw_pos hg hc h0 hx i
      have p2 := fpw_pos hg hc h0 hx j
      exact hij (inj i (List.mem_range.mp hi) j (List.mem_range.mp hj) (by omega))) (by
      intro y hy
      obtain ⟨k, hk, rfl⟩ := List.mem_map.mp hy
      have p1 := fpw_pos hg hc h0 hx k
      have p2 := fpw_lt hg hx k
      omega) (by rw [List.length_map, List.length_range]) (a - 1) (by omega)
  obtain ⟨k, hk, e⟩ := List.mem_map.mp hs
  have p1 := fpw_pos hg hc h0 hx k
  exact ⟨k, List.mem_range.mp hk, by omega⟩
theorem s_X0_fills_4 (hg : fgood P m) (hc : fcy P m g) {x : Nat} (h1 : 1 < x) (hx : x < 2 ^ m) : ∀ (f k : Nat) (M : mz_M), k + f = 2 ^ m - 1 → M.1 2 0 = nI P → M.1 2 2 = nI (2 ^ m) → (∀ j, 1 ≤ j → j < k → fpw P m x j ≠ 1) → (∀ j, j < k → M.1 3 j = nI (fpw P m x j)) → (∀ j, j < k → M.1 4 (fpw P m x j) = nI j) →
    ∃ (r : Bool) (M' : mz_M), mq_G mq_X0_fills (4, [some (.ref 2), some (.int (nI x)), some (.int (nI (fpw P m x k))), some (.int (nI k))], [], M) (some (.int (zB r)), M') ∧ zK [3, 4] M M' ∧ (r = true → (∀ j, 1 ≤ j → j < 2 ^ m - 1 → fpw P m x j ≠ 1) ∧ (∀ j, j < 2 ^ m - 1 → M'.1 3 j = nI (fpw P m x j)) ∧ (∀ j, j < 2 ^ m - 1 → M'.1 4 (fpw P m x j) = nI j)) ∧ (r = false → ∃ j, 1 ≤ j ∧ j < 2 ^ m - 1 ∧ fpw P m x j = 1)
  | 0, k, M, hk, e0, e2, hj, h3, h4 => by
    have hq := zq256 hg.2.1
    obtain rfl : k = 2 ^ m - 1 := by omega
    refine ⟨true, M, t_X0_fills_4 _ _ _ _ ⟨fun _ => rfl, fun c => absurd ?_ c⟩, zK.rf _ _, fun _ => ⟨hj, h3, h4⟩, fun c => (by cases c)⟩
    rw [e2, zs1 (by omega), zn_le (by omega) (by omega)]
    exact Nat.le_refl _
  | f + 1, k, M, hk, e0, e2, hj, h3, h4 => by
    have hq := zq256 hg.2.1
    have hlk := fpw_lt hg hx k
    have hl1 := f1_lt hg
    by_cases q : 0 < k ∧ fpw P m x k = 1
    · refine ⟨false, M, t_X0_fills_4 _ _ _ _ ⟨fun c => ?_, fun _ => ⟨fun c => ?_, fun _ => ⟨fun c => absurd ?_ c, fun _ => rfl⟩⟩⟩, zK.rf _ _, fun c => (by cases c), fun _ => ⟨k, q.1, by omega, q.2⟩⟩
      · rw [e2, zs1 (by omega), zn_le (by omega) (by omega)] at c
        omega
      · rw [zn_le0 (by omega)] at c
        omega
      · rw [q.2]; rfl
    · have hne : ∀ j, j < k → fpw P m x j ≠ fpw P m x k := by
        intro j hjk e
        have e1 := zcancel hg hc (by omega) hx j (k - j) (by rw [Nat.add_sub_cancel' (by omega)]; exact e.symm)
        by_cases j0 : j = 0
        · rw [j0, Nat.sub_zero] at e1
          exact q ⟨by omega, e1⟩
        · exact hj (k - j) (by omega) (by omega) e1
      obtain ⟨M3, e3⟩ : ∃ y, y = mz_wr M 3 (upd (M.1 3) k (nI (fpw P m x k))) := ⟨_, rfl⟩
      obtain ⟨M5, e5⟩ : ∃ y, y = mz_wr M3 4 (upd (M3.1 4) (fpw P m x k) (nI k)) := ⟨_, rfl⟩
      have hk3 : zK [3, 4] M M3 := by rw [e3]; exact zK.wr (by simp)
      have hk5 : zK [3, 4] M M5 := hk3.tr (by rw [e5]; exact zK.wr (by simp))
      have f0 : M5.1 2 0 = nI P := by rw [hk5.2 2 (by decide)]; exact e0
      obtain ⟨r, M', g1, g2, g3, g4⟩ := s_X0_fills_4 hg hc h1 hx f (k + 1) M5 (by omega) f0 (by rw [hk5.2 2 (by decide)]; exact e2) (by
          intro j hj1 hj2
          by_cases ej : j = k
          · rw [ej]; exact fun e => q ⟨by omega, e⟩
          · exact hj j hj1 (by omega)) (by
          intro j hj2
          rw [e5, zwr_n (by decide), e3, zwr_s]
          by_cases ej : j = k
          · rw [ej, zupd_s]
          · rw [zupd_n ej]; exact h3 j (by omega)) (by
          intro j hj2
          rw [e5, zwr_s]
          by_cases ej : j = k
          · rw [ej, zupd_s]
          · rw [zupd_n (hne j (by omega)), e3, zwr_n (by decide)]; exact h4 j (by omega))
      have body : ∀ N3 : mz_M, N3 = mz_wr M 3 (upd (M.1 3) (nI k).toNatClampNeg (nI (fpw P m x k))) → vp_in (nI (fpw P m x k)) 256 ∧ ∀ N5 : mz_M, N5 = mz_wr N3 4 (upd (N3.1 4) (nI (fpw P m x k)).toNatClampNeg (nI k)) → ∃ r7 : Int32, mq_C mq_X0_multiplied [.ref 2, .int (nI (fpw P m x k)), .int (nI x)] N5 (some (.int r7), N5) ∧ mq_G mq_X0_fills (4, [some (.ref 2), some (.int (nI x)), some (.int r7), some (.int (nI k + 1))], [], N5) (some (.int (zB r)), M') := by
        intro N3 n3
        rw [zn_cl (by omega), ← e3] at n3
        subst n3
        refine ⟨zn_in (by omega) (by decide), fun N5 n5 => ?_⟩
        rw [zn_cl (by omega), ← e5] at n5
        subst n5
        exact ⟨_, s_X0_multiplied _ hg f0 hlk hx, by rw [nI_1]; exact g1⟩
      refine ⟨r, M', t_X0_fills_4 _ _ _ _ ⟨fun c => ?_, fun _ => ⟨fun _ => ⟨zn_in (by omega) (by decide), body⟩, fun c => ⟨fun _ => ⟨zn_in (by omega) (by decide), body⟩, fun d => ?_⟩⟩⟩, hk5.tr g2, g3, g4⟩
      · rw [e2, zs1 (by omega), zn_le (by omega) (by omega)] at c
        omega
      · exfalso
        rw [zn_le0 (by omega)] at c
        have d := Classical.not_not.mp d
        rw [show (1 : Int32) = nI 1 from rfl, zn_eq (by omega) (by decide)] at d
        exact q ⟨by omega, d⟩
theorem s_X0_fills (hg : fgood P m) (hc : fcy P m g) {x : Nat} (h1 : 1 < x) (hx : x < 2 ^ m) (M : mz_M) (e0 : M.1 2 0 = nI P) (e1 : M.1 2 1 = nI m) (e2 : M.1 2 2 = nI (2 ^ m)) : ∃ (r : Bool) (M' : mz_M), mq_C mq_X0_fills [.ref 2, .int (nI x)] M (some (.int (zB r)), M') ∧ zK [3, 4] M M' ∧ (r = true → zfG P m x M') ∧ (r = false → ∃ j, 1 ≤ j ∧ j < 2 ^ m - 1 ∧ fpw P m x j = 1) := by
  have hl1 := f1_lt hg
  obtain ⟨r, M', g1, g2, g3, g4⟩ := s_X0_fills_4 hg hc h1 hx (2 ^ m - 1) 0 M (by omega) e0 e2 (fun j h1 h2 => absurd h2 (by omega)) (fun j h2 => absurd h2 (by omega)) (fun j h2 => absurd h2 (by omega))
  refine ⟨r, M', t_X0_fills_0 _ _ g1, g2, fun hr => ?_, g4⟩
  obtain ⟨a1, a2, a3⟩ := g3 hr
  exact ⟨hg, fcy_of hg hc h1 hx a1, by rw [g2.2 2 (by decide)]; exact e0, by rw [g2.2 2 (by decide)]; exact e1, by rw [g2.2 2 (by decide)]; exact e2, a2, a3⟩
theorem s_X0_settle_27 (hg : fgood P m) (hc : fcy P m g) : ∀ (f x : Nat) (M : mz_M) (o1 : Option Value), x + f = g → 2 ≤ x → M.1 2 0 = nI P → M.1 2 1 = nI m → M.1 2 2 = nI (2 ^ m) →
    ∃ (y : Nat) (M1 : mz_M), zfG P m y M1 ∧ zK [3, 4] M M1 ∧ ∀ res, (∀ (o1 : Option Value) (x2 : Int32), mq_G mq_X0_settle (58, [some (.ref 2), o1, some (.int x2), some (.int 0)], [], mz_wr M1 2 (upd (M1.1 2) 5 0)) res) → mq_G mq_X0_settle (27, [some (.ref 2), o1, some (.int 0), some (.int (nI x))], [], M) res := by
  intro f
  induction f with
  | zero =>
    intro x M o1 hf h2 e0 e1 e2
    have hq := zq256 hg.2.1
    have hgl := hc.2.1
    obtain rfl : x = g := by omega
    obtain ⟨r, M', g1, g2, g3, g4⟩ := s_X0_fills hg hc (by omega) hgl M e0 e1 e2
    cases r with
    | true =>
      refine ⟨x, M', g3 rfl, g2, fun res kk => t_X0_settle_27 _ _ _ _ ⟨fun c => ?_, fun _ => ⟨fun c => absurd rfl c, fun _ => ⟨1, M', g1, t_X0_settle_27 _ _ _ _ ⟨fun _ M2 n2 => by rw [n2]; exact kk _ _, fun _ => ⟨fun _ M2 n2 => by rw [n2]; exact kk _ _, fun c => absurd z10 c⟩⟩⟩⟩⟩⟩
      rw [e2, zn_le (by omega) (by omega)] at c
      omega
    | false =>
      exfalso
      obtain ⟨j, j1, j2, j3⟩ := g4 rfl
      have := hc.2.2.2.1 j j2 0 (by omega) j3
      omega
  | succ f ih =>
    intro x M o1 hf h2 e0 e1 e2
    have hq := zq256 hg.2.1
    have hgl := hc.2.1
    obtain ⟨r, M', g1, g2, g3, g4⟩ := s_X0_fills hg hc (x := x) (by omega) (by omega) M e0 e1 e2
    cases r with
    | true =>
      refine ⟨x, M', g3 rfl, g2, fun res kk => t_X0_settle_27 _ _ _ _ ⟨fun c => ?_, fun _ => ⟨fun c => absurd rfl c, fun _ => ⟨1, M', g1, t_X0_settle_27 _ _ _ _ ⟨fun _ M2 n2 => by rw [n2]; exact kk _ _, fun _ => ⟨fun _ M2 n2 => by rw [n2]; exact kk _ _, fun c => absurd z10 c⟩⟩⟩⟩⟩⟩
      rw [e2, zn_le (by omega) (by omega)] at c
      omega
    | false =>
      obtain ⟨y, M1, k1, k2, k3⟩ := ih (x + 1) M' (mz_nw o1) (by omega) (by omega) (by rw [g2.2 2 (by decide)]; exact e0) (by rw [g2.2 2 (by decide)]; exact e1) (by rw [g2.2 2 (by decide)]; exact e2)
      refine ⟨y, M1, k1, g2.tr k2, fun res kk => t_X0_settle_27 _ _ _ _ ⟨fun c => ?_, fun _ => ⟨fun c => absurd rfl c, fun _ => ⟨0, M', g1, by rw [nI_1]; exact k3 res kk⟩⟩⟩⟩
      rw [e2, zn_le (by omega) (by omega)] at c
      omega
theorem zfG.w (h : zfG P m g M) (x : Int32) : zfG P m g (mz_wr M 2 (upd (M.1 2) 5 x)) := ⟨h.1, h.2.1, by rw [zwr_s, zupd_n (by decide)]; exact h.2.2.1, by rw [zwr_s, zupd_n (by decide)]; exact h.2.2.2.1, by rw [zwr_s, zupd_n (by decide)]; exact h.2.2.2.2.1, fun k hk => by rw [zwr_n (by decide)]; exact h.2.2.2.2.2.1 k hk, fun k hk => by rw [zwr_n (by decide)]; exact h.2.2.2.2.2.2 k hk⟩
theorem zto1_add {T k : Nat} (h : zto1 P m T k) (h01 : zT P m (2 ^ k) = 0 ∨ zT P m (2 ^ k) = 1) : zto1 P m (T ||| zT P m (2 ^ k) * 2 ^ k) (k + 1) := by
  have hlt : zT P m (2 ^ k) * 2 ^ k < 2 ^ (k + 1) := by
    rcases h01 with e | e <;> rw [e]
    · rw [Nat.zero_mul]; exact Nat.two_pow_pos _
    · rw [Nat.one_mul]; exact Nat.pow_lt_pow_right (by decide) (by omega)
  refine ⟨Nat.or_lt_two_pow (Nat.lt_of_lt_of_le h.1 (Nat.pow_le_pow_right (by decide) (by omega))) hlt, fun i hi => ?_⟩
  rw [Nat.testBit_or]
  by_cases e : i = k
  · rw [e, Nat.testBit_lt_two_pow h.1, Bool.false_or]
    rcases h01 with q | q <;> rw [q]
    · rw [Nat.zero_mul, Nat.zero_testBit]; rfl
    · rw [Nat.one_mul, Nat.testBit_two_pow_self]; rfl
  · rw [h.2 i (by omega), show (zT P m (2 ^ k) * 2 ^ k).testBit i = false by
      rcases h01 with q | q <;> rw [q]
      · rw [Nat.zero_mul, Nat.zero_testBit]
      · rw [Nat.one_mul, Nat.testBit_two_pow]
        exact decide_eq_false (fun q => e q.symm), Bool.or_false]
theorem s_X0_settle_58 : ∀ (f k T : Nat) (M : mz_M), k + f = m → zfG P m g M → M.1 2 5 = nI T → zto1 P m T k → ∃ (T' : Nat) (M' : mz_M), (∀ o1 o2 : Option Value, mq_G mq_X0_settle (58, [some (.ref 2), o1, o2, some (.int (nI k))], [], M) (none, M')) ∧ zK [2] M M' ∧ zfG P m g M' ∧ M'.1 2 5 = nI T' ∧ zto1 P m T' m
  | 0, k, T, M, hk, h, h5, hT => by
    have h8 := h.1.2.1
    obtain rfl : k = m := by omega
    refine ⟨T, M, fun o1 o2 => t_X0_settle_58 _ _ _ _ ⟨fun _ => rfl, fun c => absurd ?_ c⟩, zK.rf _ _, h, h5, hT⟩
    rw [h.2.2.2.1, zn_le (by omega) (by omega)]
    exact Nat.le_refl _
  | f + 1, k, T, M, hk, h, h5, hT => by
    have h8 := h.1.2.1
    have hp : 2 ^ k < 2 ^ m := Nat.pow_lt_pow_right (by decide) (by omega)
    have h01 := zT_01 h.1 h.2.1 hp
    have hk256 : 2 ^ k < 256 := z256 h8 hp
    obtain ⟨T', M', g1, g2, g3⟩ := s_X0_settle_58 f (k + 1) (T ||| zT P m (2 ^ k) * 2 ^ k) (mz_wr M 2 (upd (M.1 2) 5 (nI (T ||| zT P m (2 ^ k) * 2 ^ k)))) (by omega) (h.w _) (by rw [zwr_s, zupd_s]) (zto1_add hT h01)
    refine ⟨T', M', fun o1 o2 => t_X0_settle_58 _ _ _ _ ⟨fun c => ?_, fun _ => ⟨nI (zT P m (2 ^ k)), ?_, fun M3 e3 => ?_⟩⟩, (zK.wr (by simp)).tr g2, g3⟩
    · rw [h.2.2.2.1, zn_le (by omega) (by omega)] at c
      omega
    · rw [zone_shl (by omega)]
      exact s_X0_tracedTo h hp (by decide) (by decide)
    · rw [h5, zn_shl (by omega) (by rcases h01 with e | e <;> rw [e] <;> omega), zn_or] at e3
      rw [nI_1, e3]
      exact g1 o1 (mz_nw o2)
/-- the class's field -/
def zCF (P m : Nat) (M : mz_M) : Prop := ∃ g T, zfG P m g M ∧ zto1 P m T m ∧ M.1 2 5 = nI T
theorem zCF.k {S : List Nat} (h : zCF P m M) (hk : zK S M M') (h2 : 2 ∉ S) (h3 : 3 ∉ S) (h4 : 4 ∉ S) : zCF P m M' := by
  obtain ⟨g, T, a1, a2, a3⟩ := h
  exact ⟨g, T, a1.k hk h2 h3 h4, a2, by rw [hk.2 2 h2]; exact a3⟩
theorem s_X0_settle (hz : (P, m, g) ∈ zirrs) (M : mz_M) : ∃ M', mq_C mq_X0_settle [.ref 2, .int (nI P)] M (none, M') ∧ zK [2, 3, 4] M M' ∧ zCF P m M' := by
  obtain ⟨hg, hc⟩ := zirrs_ok _ hz
  dsimp only at hg hc
  have h8 := hg.2.1
  obtain ⟨M1, e1⟩ : ∃ y, y = mz_wr M 2 (upd (M.1 2) 0 (nI P)) := ⟨_, rfl⟩
  obtain ⟨M3, e3⟩ : ∃ y, y = mz_wr M1 2 (upd (M1.1 2) 1 (nI m)) := ⟨_, rfl⟩
  obtain ⟨M4, e4⟩ : ∃ y, y = mz_wr M3 2 (upd (M3.1 2) 2 (nI (2 ^ m))) := ⟨_, rfl⟩
  have f1 : M3.1 2 1 = nI m := by rw [e3, zwr_s, zupd_s]
  have hk : zK [2, 3, 4] M M4 := by
    refine zK.tr (M1 := M1) (by rw [e1]; exact zK.wr (by simp)) (zK.tr (M1 := M3) (by rw [e3]; exact zK.wr (by simp)) (by rw [e4]; exact zK.wr (by simp)))
  obtain ⟨y, N, a1, a2, a3⟩ := s_X0_settle_27 hg hc (g - 2) 2 M4 (some (.int (nI P))) (by have := hc.1; omega) (by decide) (by rw [e4, zwr_s, zupd_n (by decide), e3, zwr_s, zupd_n (by decide), e1, zwr_s, zupd_s]) (by rw [e4, zwr_s, zupd_n (by decide)]; exact f1) (by rw [e4, zwr_s, zupd_s])
  obtain ⟨T', M', b1, b2, b3, b4, b5⟩ := s_X0_settle_58 m 0 0 (mz_wr N 2 (upd (N.1 2) 5 0)) (by omega) (a1.w 0) (by rw [zwr_s, zupd_s]; rfl) ⟨by decide, fun i hi => absurd hi (by omega)⟩
  refine ⟨M', t_X0_settle_0 _ _ (fun N1 n1 => ?_), (hk.tr (a2.sub (by decide))).tr ((zK.wr (M := N) (a := 2) (by simp) : zK [2, 3, 4] N _).tr (b2.sub (by decide))), y, T', b3, b5, b4⟩
  rw [← e1] at n1
  subst n1
  refine ⟨nI m, by rw [← zlog_good hg]; exact s_X4_degreeOf _ _, fun N3 n3 => ?_⟩
  rw [← e3] at n3
  subst n3
  intro N4 n4
  rw [f1, zone_shl (by omega), ← e4] at n4
  subst n4
  exact a3 _ (fun o1 x2 => b1 o1 (some (.int x2)))
end CF
