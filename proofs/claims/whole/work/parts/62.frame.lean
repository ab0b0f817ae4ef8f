/-! the class: the frame -/
theorem lead_top {L : Nat → Nat} : ∀ n, (∀ k, k < n → L k = 0 ∨ (2 ^ k ≤ L k ∧ L k < 2 ^ (k + 1))) → ∀ x, sp L n x → x = 0 ∨ ∃ j, j < n ∧ L j ≠ 0 ∧ 2 ^ j ≤ x ∧ x < 2 ^ (j + 1)
  | 0, _, x, hx => Or.inl hx
  | n + 1, h, x, hx => by
    have ih := lead_top n (fun k hk => h k (by omega))
    rcases hx with hx | hx
    · rcases ih x hx with e | ⟨j, h1, h2⟩
      · exact Or.inl e
      · exact Or.inr ⟨j, by omega, h2⟩
    · rcases h n (by omega) with e | ⟨e1, e2⟩
      · rw [e, Nat.xor_zero] at hx
        rcases ih x hx with e | ⟨j, h1, h2⟩
        · exact Or.inl e
        · exact Or.inr ⟨j, by omega, h2⟩
      · right
        have hy : x ^^^ L n < 2 ^ n := by
          rcases ih _ hx with e | ⟨j, h1, h2, h3, h4⟩
          · rw [e]; exact Nat.two_pow_pos n
          · exact Nat.lt_of_lt_of_le h4 (Nat.pow_le_pow_right (by decide) (by omega))
        have hx2 : x = (x ^^^ L n) ^^^ L n := (zxx x (L n)).symm
        have hn := Nat.two_pow_pos n
        have hpp : 2 ^ (n + 1) = 2 * 2 ^ n := by rw [Nat.pow_succ, Nat.mul_comm]
        have hb : x.testBit n = true := by
          rw [hx2, Nat.testBit_xor, Nat.testBit_lt_two_pow hy, Nat.testBit_of_two_pow_le_and_two_pow_add_one_gt e1 e2]
          rfl
        refine ⟨n, by omega, by omega, Classical.byContradiction (fun q => ?_), ?_⟩
        · rw [Nat.testBit_lt_two_pow (by omega)] at hb
          cases hb
        · rw [hx2]
          exact Nat.xor_lt_two_pow (by omega) e2
theorem ztop {x j n : Nat} (h1 : 2 ^ j ≤ x) (h2 : x < 2 ^ (j + 1)) (h3 : 2 ^ n ≤ x) (h4 : x < 2 ^ (n + 1)) : j = n := by
  rcases Nat.lt_trichotomy j n with q | q | q
  · have := Nat.pow_le_pow_right (show 0 < 2 by decide) (show j + 1 ≤ n by omega)
    omega
  · exact q
  · have := Nat.pow_le_pow_right (show 0 < 2 by decide) (show n + 1 ≤ j by omega)
    omega
def zfl (L S v : Nat → Nat) (i : Nat) (M : mz_M) : Prop := M.1 5 2 = nI (rk v i) ∧ (∀ k, k < 8 → M.1 6 k = nI (L k) ∧ M.1 7 k = nI (S k) ∧ (L k = 0 ∨ (2 ^ k ≤ L k ∧ L k < 2 ^ (k + 1)))) ∧ (∀ x, sp L 8 x ↔ sp v i x) ∧ (ind v i → ∀ k, k < 8 → L k ≠ 0 → S k < 2 ^ i ∧ zcb v i (S k) = L k)
/-- what the frame holds: the first i of a row -/
def zfr (v : Nat → Nat) (i : Nat) (M : mz_M) : Prop := ∃ L S : Nat → Nat, zfl L S v i M
theorem zfr.k {v : Nat → Nat} {i : Nat} {M M' : mz_M} {S : List Nat} (h : zfr v i M) (hk : zK S M M') (h5 : 5 ∉ S) (h6 : 6 ∉ S) (h7 : 7 ∉ S) : zfr v i M' := by
  obtain ⟨L, Sh, a1, a2, a3⟩ := h
  exact ⟨L, Sh, by rw [hk.2 5 h5]; exact a1, fun k hk8 => by rw [hk.2 6 h6, hk.2 7 h7]; exact a2 k hk8, a3⟩
theorem sp_iff_ext {v w : Nat → Nat} {n e : Nat} (h : ∀ i, i < n → v i = w i) : sp v n e ↔ sp w n e := ⟨sp_ext h, sp_ext (fun i hi => (h i hi).symm)⟩
theorem rk_ext {v w : Nat → Nat} : ∀ {n : Nat}, (∀ i, i < n → v i = w i) → rk v n = rk w n
  | 0, _ => rfl
  | n + 1, h => by
    have ih := rk_ext (n := n) (fun i hi => h i (by omega))
    have he : sp v n (v n) ↔ sp w n (w n) := by rw [h n (by omega)]; exact sp_iff_ext (fun i hi => h i (by omega))
    by_cases q : sp v n (v n)
    · rw [rk_in q, rk_in (he.mp q), ih]
    · rw [rk_out q, rk_out (fun c => q (he.mpr c)), ih]
theorem zcb_ext {v w : Nat → Nat} (c : Nat) : ∀ {n : Nat}, (∀ i, i < n → v i = w i) → zcb v n c = zcb w n c
  | 0, _ => rfl
  | n + 1, h => by
    show zcb v n c ^^^ _ = zcb w n c ^^^ _
    rw [zcb_ext c (fun i hi => h i (by omega)), h n (by omega)]
theorem zfr.ext {v w : Nat → Nat} {i : Nat} {M : mz_M} (h : zfr v i M) (e : ∀ j, j < i → v j = w j) : zfr w i M := by
  obtain ⟨L, S, a1, a2, a3, a4⟩ := h
  exact ⟨L, S, by rw [← rk_ext e]; exact a1, a2, fun x => (a3 x).trans (sp_iff_ext e), fun hi k hk hL => by rw [← zcb_ext (S k) e]; exact a4 (ind_ext (fun j hj => (e j hj).symm) hi) k hk hL⟩
theorem sp_dep {v : Nat → Nat} {i : Nat} (h : sp v i (v i)) (x : Nat) : sp v (i + 1) x ↔ sp v i x := by
  constructor
  · rintro (q | q)
    · exact q
    · have := sp_x q h
      rw [zxx] at this
      exact this
  · exact Or.inl
theorem zfr.dep {v : Nat → Nat} {i : Nat} {M : mz_M} (h : zfr v i M) (hs : sp v i (v i)) : zfr v (i + 1) M := by
  obtain ⟨L, S, a1, a2, a3, a4⟩ := h
  exact ⟨L, S, by rw [rk_in hs]; exact a1, a2, fun x => (a3 x).trans (sp_dep hs x).symm, fun hi => absurd hs (hi i (by omega))⟩
theorem ind_lo {v : Nat → Nat} {i j : Nat} (h : ind v i) (hj : j ≤ i) : ind v j := fun k hk => h k (by omega)
theorem zfl.new {L S v : Nat → Nat} {i n r s : Nat} {M : mz_M} (h : zfl L S v i M) (hi : i < 8) (hn : n < 8) (hL : L n = 0) (h1 : 2 ^ n ≤ r) (h2 : r < 2 ^ (n + 1)) (hr : sp v i (v i ^^^ r)) (hs : ind v i → s < 2 ^ i ∧ zcb v i s = v i ^^^ r) (hni : ¬ sp v i (v i)) {M7 M9 M11 : mz_M} (e7 : M7 = mz_wr M 6 (upd (M.1 6) n (nI r))) (e9 : M9 = mz_wr M7 7 (upd (M7.1 7) n (nI (s ^^^ 2 ^ rk v i)))) (e11 : M11 = mz_wr M9 5 (upd (M9.1 5) 2 (nI (rk v i + 1)))) : zfr v (i + 1) M11 := by
  obtain ⟨a1, a2, a3, a4⟩ := h
  have hn0 := Nat.two_pow_pos n
  refine ⟨fun k => if k = n then r else L k, fun k => if k = n then s ^^^ 2 ^ rk v i else S k, ?_, fun k hk => ⟨?_, ?_, ?_⟩, fun x => ?_, fun hind k hk hLk => ?_⟩
  · rw [e11, zwr_s, zupd_s, rk_out hni]
  · show M11.1 6 k = nI (if k = n then r else L k)
    rw [e11, zwr_n (by decide), e9, zwr_n (by decide), e7, zwr_s]
    by_cases e : k = n
    · rw [e, zupd_s, if_pos rfl]
    · rw [zupd_n e, if_neg e]; exact (a2 k hk).1
  · show M11.1 7 k = nI (if k = n then s ^^^ 2 ^ rk v i else S k)
    rw [e11, zwr_n (by decide), e9, zwr_s]
    by_cases e : k = n
    · rw [e, zupd_s, if_pos rfl]
    · rw [zupd_n e, if_neg e, e7, zwr_n (by decide)]; exact (a2 k hk).2.1
  · show (if k = n then r else L k) = 0 ∨ (2 ^ k ≤ (if k = n then r else L k) ∧ (if k = n then r else L k) < 2 ^ (k + 1))
    by_cases e : k = n
    · rw [if_pos e, e]; exact Or.inr ⟨h1, h2⟩
    · rw [if_neg e]; exact (a2 k hk).2.2
  · have hrr : sp v (i + 1) r := Or.inr (by rw [Nat.xor_comm]; exact hr)
    constructor
    · refine sp_sub (fun j hj => ?_)
      show sp v (i + 1) (if j = n then r else L j)
      by_cases e : j = n
      · rw [if_pos e]; exact hrr
      · rw [if_neg e]; exact Or.inl ((a3 _).mp (sp_mem L hj))
    · have hLs : ∀ y, sp L 8 y → sp (fun k => if k = n then r else L k) 8 y := by
        intro y hy
        refine sp_sub (fun j hj => ?_) hy
        by_cases e : j = n
        · rw [e, hL]; exact sp_0 _ 8
        · have := sp_mem (fun k => if k = n then r else L k) hj
          rw [if_neg e] at this
          exact this
      refine sp_sub (fun j hj => ?_)
      by_cases e : j = i
      · have k1 := sp_mem (fun k => if k = n then r else L k) hn
        rw [if_pos rfl] at k1
        have k2 := sp_x (hLs _ ((a3 _).mpr hr)) k1
        rw [zxx] at k2
        rw [e]
        exact k2
      · exact hLs _ ((a3 _).mpr (sp_mem v (by omega)))
  · have hind0 := ind_lo hind (show i ≤ i + 1 by omega)
    dsimp only at hLk ⊢
    by_cases e : k = n
    · rw [if_pos e, if_pos e, rk_ind.mpr hind0]
      obtain ⟨s1, s2⟩ := hs hind0
      refine ⟨Nat.xor_lt_two_pow (Nat.lt_of_lt_of_le s1 (Nat.pow_le_pow_right (by decide) (by omega))) (Nat.pow_lt_pow_right (by decide) (by omega)), ?_⟩
      rw [zcb_x, zcb_lo v s1, zcb_bit, s2, Nat.xor_comm (v i) r, zxx]
    · rw [if_neg e] at hLk
      rw [if_neg e, if_neg e]
      obtain ⟨s1, s2⟩ := a4 hind0 k hk hLk
      exact ⟨Nat.lt_of_lt_of_le s1 (Nat.pow_le_pow_right (by decide) (by omega)), by rw [zcb_lo v s1]; exact s2⟩
theorem zlead {L S v : Nat → Nat} {i n r : Nat} {M : mz_M} (h : zfl L S v i M) (hr : sp v i r) (hn : n < 8) (h1 : 2 ^ n ≤ r) (h2 : r < 2 ^ (n + 1)) : L n ≠ 0 := by
  have h0 := Nat.two_pow_pos n
  rcases lead_top 8 (fun k hk => (h.2.1 k hk).2.2) r ((h.2.2.1 r).mpr hr) with e | ⟨j, j1, j2, j3, j4⟩
  · omega
  · rw [← ztop j3 j4 h1 h2]; exact j2
theorem zle_bit {n k : Nat} (hb : n.testBit k = true) : 2 ^ k ≤ n := Classical.byContradiction (fun q => by
  rw [Nat.testBit_lt_two_pow (by omega)] at hb
  cases hb)
theorem zxor_top {x y n : Nat} (h1 : 2 ^ n ≤ x) (h2 : x < 2 ^ (n + 1)) (h3 : 2 ^ n ≤ y) (h4 : y < 2 ^ (n + 1)) : x ^^^ y < 2 ^ n := by
  apply zlt_bit (Nat.xor_lt_two_pow h2 h4)
  rw [Nat.testBit_xor, Nat.testBit_of_two_pow_le_and_two_pow_add_one_gt h1 h2, Nat.testBit_of_two_pow_le_and_two_pow_add_one_gt h3 h4]
  rfl
theorem s_X1_takes_8 {L S v : Nat → Nat} {i : Nat} {M : mz_M} (h : zfl L S v i M) (hi : i < 8) : ∀ (n r s : Nat) (o : Option Value), n ≤ 8 → r < 2 ^ n → sp v i (v i ^^^ r) → (ind v i → s < 2 ^ i ∧ zcb v i s = v i ^^^ r) →
    ∃ (x : Int32) (M' : mz_M), mq_G mq_X1_takes (8, [some (.ref 5), o, some (.int (nI r)), some (.int (nI s)), some (.int (nI n + (-1)))], [], M) (some (.int x), M') ∧ zK [5, 6, 7] M M' ∧ ((sp v i (v i) ∧ x = 0 ∧ M' = M) ∨ (¬ sp v i (v i) ∧ x = 1 ∧ zfr v (i + 1) M'))
  | 0, r, s, o, hn, hr, hs, hS => by
    obtain rfl : r = 0 := by omega
    rw [Nat.xor_zero] at hs
    exact ⟨0, M, t_X1_takes_8 _ _ _ _ _ ⟨fun _ => rfl, fun c => absurd (by decide +kernel) c⟩, zK.rf _ _, Or.inl ⟨hs, rfl, rfl⟩⟩
  | n + 1, r, s, o, hn, hr, hs, hS => by
    have hr8 : r < 2 ^ 8 := Nat.lt_of_lt_of_le hr (Nat.pow_le_pow_right (by decide) hn)
    have hb0 := zn_bit0 (n := r) (k := n) (by omega) (by omega)
    by_cases hb : r.testBit n = true
    · have hb1 : ¬ r / 2 ^ n % 2 = 0 := by
        rw [Nat.testBit_eq_decide_div_mod_eq] at hb
        have := of_decide_eq_true hb
        omega
      have h1 := zle_bit hb
      have hL := h.2.1 n (by omega)
      by_cases hLn : L n = 0
      · have hni : ¬ sp v i (v i) := fun q => zlead h (by have := sp_x q hs; rw [← Nat.xor_assoc, Nat.xor_self, Nat.zero_xor] at this; exact this) (by omega) h1 hr hLn
        obtain ⟨M7, e7⟩ : ∃ y, y = mz_wr M 6 (upd (M.1 6) n (nI r)) := ⟨_, rfl⟩
        obtain ⟨M9, e9⟩ : ∃ y, y = mz_wr M7 7 (upd (M7.1 7) n (nI (s ^^^ 2 ^ rk v i))) := ⟨_, rfl⟩
        obtain ⟨M11, e11⟩ : ∃ y, y = mz_wr M9 5 (upd (M9.1 5) 2 (nI (rk v i + 1))) := ⟨_, rfl⟩
        have hrk := rk_le v i
        refine ⟨1, M11, ?_, ?_, Or.inr ⟨hni, rfl, h.new hi (by omega) hLn h1 hr hs hS hni e7 e9 e11⟩⟩
        · rw [zn_m1]
          refine t_X1_takes_8 _ _ _ _ _ ⟨fun c => absurd c (nI_pos (by omega)), fun _ => ⟨fun c => absurd (hb0.mp c) hb1, fun _ => ⟨zn_in (by omega) (by decide), fun c => absurd ?_ c, fun _ => ⟨zn_in (by omega) (by decide), fun N7 n7 => ⟨zn_in (by omega) (by decide), fun N9 n9 N11 n11 => ?_⟩⟩⟩⟩⟩
          · rw [zn_cl (by omega), hL.1, hLn]; rfl
          · rw [zn_cl (by omega), ← e7] at n7
            subst n7
            have f5 : N7.1 5 2 = nI (rk v i) := by rw [e7, zwr_n (by decide)]; exact h.1
            rw [zn_cl (by omega), f5, zone_shl (by omega), zn_xor, ← e9] at n9
            subst n9
            have g5 : N9.1 5 2 = nI (rk v i) := by rw [e9, zwr_n (by decide)]; exact f5
            rw [g5, nI_1, ← e11] at n11
            rw [n11]
        · refine zK.tr (M1 := M7) (by rw [e7]; exact zK.wr (by simp)) (zK.tr (M1 := M9) (by rw [e9]; exact zK.wr (by simp)) (by rw [e11]; exact zK.wr (by simp)))
      · rcases hL.2.2 with q | ⟨q1, q2⟩
        · exact absurd q hLn
        · have hl : sp v i (L n) := (h.2.2.1 _).mp (sp_mem L (by omega))
          obtain ⟨x, M', g1, g2, g3⟩ := s_X1_takes_8 h hi n (r ^^^ L n) (s ^^^ S n) (mz_nw o) (by omega) (zxor_top h1 hr q1 q2) (by rw [← Nat.xor_assoc]; exact sp_x hs hl) (fun hd => by
            obtain ⟨s1, s2⟩ := hS hd
            obtain ⟨s3, s4⟩ := h.2.2.2 hd n (by omega) hLn
            exact ⟨Nat.xor_lt_two_pow s1 s3, by rw [zcb_x, s2, s4, Nat.xor_assoc]⟩)
          refine ⟨x, M', ?_, g2, g3⟩
          rw [zn_m1]
          refine t_X1_takes_8 _ _ _ _ _ ⟨fun c => absurd c (nI_pos (by omega)), fun _ => ⟨fun c => absurd (hb0.mp c) hb1, fun _ => ⟨zn_in (by omega) (by decide), fun _ => ⟨zn_in (by omega) (by decide), zn_in (by omega) (by decide), ?_⟩, fun c => absurd ?_ c⟩⟩⟩
          · rw [zn_cl (by omega), hL.1, hL.2.1, zn_xor, zn_xor]
            exact g1
          · rw [zn_cl (by omega), hL.1, zn_eq0 (by omega)]
            exact hLn
    · have hb1 : r / 2 ^ n % 2 = 0 := by
        rw [Nat.testBit_eq_decide_div_mod_eq] at hb
        have h3 : ¬ r / 2 ^ n % 2 = 1 := fun q => hb (decide_eq_true q)
        omega
      obtain ⟨x, M', g1, g2, g3⟩ := s_X1_takes_8 h hi n r s o (by omega) (zlt_bit hr (by simpa using hb)) hs hS
      refine ⟨x, M', ?_, g2, g3⟩
      rw [zn_m1]
      exact t_X1_takes_8 _ _ _ _ _ ⟨fun c => absurd c (nI_pos (by omega)), fun _ => ⟨fun _ => g1, fun c => absurd (hb0.mpr hb1) c⟩⟩
theorem s_X1_takes {v : Nat → Nat} {i e : Nat} {M : mz_M} (h : zfr v i M) (hi : i < 8) (he : v i = e) (hv : e < 256) : ∃ (x : Int32) (M' : mz_M), mq_C mq_X1_takes [.ref 5, .int (nI e)] M (some (.int x), M') ∧ zK [5, 6, 7] M M' ∧ ((sp v i e ∧ x = 0 ∧ M' = M) ∨ (¬ sp v i e ∧ x = 1 ∧ zfr v (i + 1) M')) := by
  subst he
  obtain ⟨L, S, hl⟩ := h
  obtain ⟨x, M', g1, g2, g3⟩ := s_X1_takes_8 hl hi 8 (v i) 0 (some (.int (nI (v i)))) (by omega) hv (by rw [Nat.xor_self]; exact sp_0 v i) (fun _ => ⟨Nat.two_pow_pos i, by rw [zcb_0, Nat.xor_self]⟩)
  exact ⟨x, M', t_X1_takes_0 _ _ g1, g2, g3⟩
theorem s_X1_empties_2 : ∀ (f k : Nat) (M : mz_M), k + f = 8 → (∀ j, j < k → M.1 6 j = 0 ∧ M.1 7 j = 0) → ∃ M', mq_G mq_X1_empties (2, [some (.ref 5), some (.int (nI k))], [], M) (none, M') ∧ zK [5, 6, 7] M M' ∧ M'.1 5 2 = 0 ∧ ∀ j, j < 8 → M'.1 6 j = 0 ∧ M'.1 7 j = 0
  | 0, k, M, hk, hz => by
    obtain rfl : k = 8 := by omega
    refine ⟨mz_wr M 5 (upd (M.1 5) 2 0), t_X1_empties_2 _ _ ⟨fun _ M2 e2 => by rw [e2], fun c => absurd (by decide) c⟩, zK.wr (by simp), by rw [zwr_s, zupd_s], fun j hj => by rw [zwr_n (by decide), zwr_n (by decide)]; exact hz j hj⟩
  | f + 1, k, M, hk, hz => by
    obtain ⟨M3, e3⟩ : ∃ y, y = mz_wr M 6 (upd (M.1 6) k 0) := ⟨_, rfl⟩
    obtain ⟨M5, e5⟩ : ∃ y, y = mz_wr M3 7 (upd (M3.1 7) k 0) := ⟨_, rfl⟩
    obtain ⟨M', g1, g2, g3⟩ := s_X1_empties_2 f (k + 1) M5 (by omega) (fun j hj => by
      constructor
      · rw [e5, zwr_n (by decide), e3, zwr_s]
        by_cases e : j = k
        · rw [e, zupd_s]
        · rw [zupd_n e]; exact (hz j (by omega)).1
      · rw [e5, zwr_s]
        by_cases e : j = k
        · rw [e, zupd_s]
        · rw [zupd_n e, e3, zwr_n (by decide)]; exact (hz j (by omega)).2)
    refine ⟨M', t_X1_empties_2 _ _ ⟨fun c => ?_, fun _ => ⟨zn_in (by omega) (by decide), fun N3 n3 => ⟨zn_in (by omega) (by decide), fun N5 n5 => ?_⟩⟩⟩, zK.tr (M1 := M3) (by rw [e3]; exact zK.wr (by simp)) (zK.tr (M1 := M5) (by rw [e5]; exact zK.wr (by simp)) g2), g3⟩
    · rw [show (8 : Int32) = nI 8 from rfl, zn_le (by decide) (by omega)] at c
      omega
    · rw [zn_cl (by omega), ← e3] at n3
      subst n3
      rw [zn_cl (by omega), ← e5] at n5
      subst n5
      rw [nI_1]
      exact g1
theorem s_X1_empties (v : Nat → Nat) (M : mz_M) : ∃ M', mq_C mq_X1_empties [.ref 5] M (none, M') ∧ zK [5, 6, 7] M M' ∧ zfr v 0 M' := by
  obtain ⟨M', g1, g2, g3, g4⟩ := s_X1_empties_2 8 0 M rfl (fun j hj => absurd hj (by omega))
  refine ⟨M', t_X1_empties_0 _ g1, g2, fun _ => 0, fun _ => 0, g3, fun k hk => ⟨(g4 k hk).1, (g4 k hk).2, Or.inl rfl⟩, fun x => ⟨fun h => ?_, fun h => ?_⟩, fun _ k _ q => absurd rfl q⟩
  · exact sp_sub (w := v) (k := 0) (fun _ _ => sp_0 v 0) h
  · rw [show x = 0 from h]; exact sp_0 _ 8
/-- INDEPENDENT, as a flag -/
noncomputable def zind (v : Nat → Nat) (n : Nat) : Bool := @decide (ind v n) (Classical.propDecidable _)
theorem zind_iff {v : Nat → Nat} {n : Nat} : zind v n = true ↔ ind v n := by
  unfold zind
  exact @decide_eq_true_iff _ (Classical.propDecidable _)
theorem zind_f {v : Nat → Nat} {n : Nat} : zind v n = false ↔ ¬ ind v n := by
  unfold zind
  exact @decide_eq_false_iff_not _ (Classical.propDecidable _)
theorem s_X1_holds_6 {v : Nat → Nat} {n b : Nat} (hn : n ≤ 8) (hb : zar b) (hb5 : b ∉ [5, 6, 7]) (hv : ∀ j, j < n → v j < 256) : ∀ (f i : Nat) (M : mz_M), i + f = n → zrow M b n v → zfr v i M → ∃ M', mq_G mq_X1_holds (6, [some (.ref 5), some (.ref b), some (.int (nI n)), some (.int (nI i))], [], M) (some (.int (zB (zind v n))), M') ∧ zK [5, 6, 7] M M' ∧ zfr v n M'
  | 0, i, M, hi, hr, h => by
    obtain rfl : i = n := by omega
    have hrk := rk_le v i
    have h5 : M.1 5 2 = nI (rk v i) := by obtain ⟨L, S, h⟩ := h; exact h.1
    refine ⟨M, t_X1_holds_6 _ _ _ _ ⟨fun _ => ⟨fun c => ?_, fun c => ?_⟩, fun c => absurd ?_ c⟩, zK.rf _ _, h⟩
    · rw [h5, zn_eq (by omega) (by omega), rk_ind] at c
      rw [zind_f.mpr c]; rfl
    · rw [h5, zn_eq (by omega) (by omega), rk_ind] at c
      rw [zind_iff.mpr (Classical.not_not.mp c)]; rfl
    · rw [zn_le (by omega) (by omega)]
      exact Nat.le_refl _
  | f + 1, i, M, hi, hr, h => by
    obtain ⟨x, M1, g1, g2, g3⟩ := s_X1_takes h (by omega) rfl (hv i (by omega))
    have h1 : zfr v (i + 1) M1 := by
      rcases g3 with ⟨q1, q2, q3⟩ | ⟨q1, q2, q3⟩
      · rw [q3]; exact h.dep q1
      · exact q3
    obtain ⟨M', k1, k2, k3⟩ := s_X1_holds_6 hn hb hb5 hv f (i + 1) M1 (by omega) (hr.k g2 hb5) h1
    refine ⟨M', t_X1_holds_6 _ _ _ _ ⟨fun c => ?_, fun _ => ⟨hb, zn_in (by omega) (by decide), x, M1, ?_, by rw [nI_1]; exact k1⟩⟩, g2.tr k2, k3⟩
    · rw [zn_le (by omega) (by omega)] at c
      omega
    · rw [zn_cl (by omega), hr i (by omega)]
      exact g1
theorem s_X1_holds {v : Nat → Nat} {n b : Nat} (hn : n ≤ 8) (hb : zar b) (hb5 : b ∉ [5, 6, 7]) (hv : ∀ j, j < n → v j < 256) {M : mz_M} (hr : zrow M b n v) : ∃ M', mq_C mq_X1_holds [.ref 5, .ref b, .int (nI n)] M (some (.int (zB (zind v n))), M') ∧ zK [5, 6, 7] M M' ∧ zfr v n M' := by
  obtain ⟨M1, e1, e2, e3⟩ := s_X1_empties v M
  obtain ⟨M', g1, g2, g3⟩ := s_X1_holds_6 hn hb hb5 hv n 0 M1 (by omega) (hr.k e2 hb5) e3
  exact ⟨M', t_X1_holds_0 _ _ _ ⟨M1, e1, g1⟩, e2.tr g2, g3⟩
theorem s_X1_located_8 {L S v : Nat → Nat} {i c : Nat} {M : mz_M} (h : zfl L S v i M) (hd : ind v i) (hc : c < 2 ^ i) : ∀ (n r s : Nat) (o : Option Value), n ≤ 8 → r < 2 ^ n → sp v i r → s < 2 ^ i → zcb v i s = zcb v i c ^^^ r → mq_G mq_X1_located (8, [some (.ref 5), o, some (.int (nI r)), some (.int (nI s)), some (.int (nI n + (-1)))], [], M) (some (.int (nI c)), M)
  | 0, r, s, o, hn, hr, hs, hS, he => by
    obtain rfl : r = 0 := by omega
    rw [Nat.xor_zero] at he
    rw [ind_inj hd hS hc he]
    exact t_X1_located_8 _ _ _ _ _ ⟨fun _ => rfl, fun c => absurd (by decide +kernel) c⟩
  | n + 1, r, s, o, hn, hr, hs, hS, he => by
    have hr8 : r < 2 ^ 8 := Nat.lt_of_lt_of_le hr (Nat.pow_le_pow_right (by decide) hn)
    have hb0 := zn_bit0 (n := r) (k := n) (by omega) (by omega)
    rw [zn_m1]
    by_cases hb : r.testBit n = true
    · have hb1 : ¬ r / 2 ^ n % 2 = 0 := by
        rw [Nat.testBit_eq_decide_div_mod_eq] at hb
        have := of_decide_eq_true hb
        omega
      have h1 := zle_bit hb
      have hL := h.2.1 n (by omega)
      have hLn := zlead h hs (by omega) h1 hr
      rcases hL.2.2 with q | ⟨q1, q2⟩
      · exact absurd q hLn
      · obtain ⟨s3, s4⟩ := h.2.2.2 hd n (by omega) hLn
        have hl : sp v i (L n) := (h.2.2.1 _).mp (sp_mem L (by omega))
        refine t_X1_located_8 _ _ _ _ _ ⟨fun c => absurd c (nI_pos (by omega)), fun _ => ⟨fun c => absurd (hb0.mp c) hb1, fun _ => ⟨zn_in (by omega) (by decide), zn_in (by omega) (by decide), ?_⟩⟩⟩
        rw [zn_cl (by omega), hL.1, hL.2.1, zn_xor, zn_xor]
        exact s_X1_located_8 h hd hc n _ _ (mz_nw o) (by omega) (zxor_top h1 hr q1 q2) (sp_x hs hl) (Nat.xor_lt_two_pow hS s3) (by rw [zcb_x, he, s4, Nat.xor_assoc])
    · have hb1 : r / 2 ^ n % 2 = 0 := by
        rw [Nat.testBit_eq_decide_div_mod_eq] at hb
        have h3 : ¬ r / 2 ^ n % 2 = 1 := fun q => hb (decide_eq_true q)
        omega
      exact t_X1_located_8 _ _ _ _ _ ⟨fun c => absurd c (nI_pos (by omega)), fun _ => ⟨fun _ => s_X1_located_8 h hd hc n r s o (by omega) (zlt_bit hr (by simpa using hb)) hs hS he, fun c => absurd (hb0.mpr hb1) c⟩⟩
theorem s_X1_located {v : Nat → Nat} {i c e : Nat} {M : mz_M} (h : zfr v i M) (hd : ind v i) (hc : c < 2 ^ i) (he : zcb v i c = e) (h8 : e < 256) : mq_C mq_X1_located [.ref 5, .int (nI e)] M (some (.int (nI c)), M) := by
  obtain ⟨L, S, hl⟩ := h
  subst he
  exact t_X1_located_0 _ _ (s_X1_located_8 hl hd hc 8 _ 0 (some (.int (nI (zcb v i c)))) (by omega) h8 (zcb_sp v i c) (Nat.two_pow_pos i) (by rw [zcb_0, Nat.xor_self]))
theorem s_located {v : Nat → Nat} {m e : Nat} {M : mz_M} (h : zfr v m M) (hb : zbas m v) (h8 : m ≤ 8) (he : e < 2 ^ m) : mq_C mq_X1_located [.ref 5, .int (nI e)] M (some (.int (nI (crd v m e))), M) :=
  s_X1_located h hb.1 crd_lt (crd_in hb he) (z256 h8 he)
