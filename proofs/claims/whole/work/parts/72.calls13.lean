/-! calls of the reference: what is written and counted, the row, bases read -/
def ywc (d : Nat) (l : List Nat) : List Nat := (if l = [] then l else l ++ [43]) ++ (if d = 0 then [49] else if d = 1 then [120] else [120, 48 + d])
/-- POLY written, from power d - 1 down -/
def ywr (P : Nat) : Nat → List Nat → List Nat
  | 0, l => l
  | d + 1, l => ywr P d (if P.testBit d = true then ywc d l else l)
theorem ywr_more {P d : Nat} (h : P < 2 ^ d) : ∀ (k : Nat) (l : List Nat), ywr P (d + k) l = ywr P d l
  | 0, l => rfl
  | k + 1, l => by
    have e : P.testBit (d + k) = false := Nat.testBit_lt_two_pow (Nat.lt_of_lt_of_le h (Nat.pow_le_pow_right (by decide) (by omega)))
    have hz : ywr P (d + (k + 1)) l = ywr P (d + k) (if P.testBit (d + k) = true then ywc (d + k) l else l) := rfl
    rw [hz, if_neg (by rw [e]; decide)]
    exact ywr_more h k l
def yans (L : List Nat) (x : Int32) : Int32 := if x = -1 then nI L.length else if zel L.length x = true then nI (L.getD (zu x) 0) else -1
theorem yel_sub1 {n : Nat} (hn : n < 2 ^ 31) (x : Int32) : zbt 0 (nI n - 1) x = zel n x := by
  by_cases h0 : 0 < n
  · exact zel_sub1 h0 hn x
  · obtain rfl : n = 0 := by omega
    have e1 : zel 0 x = false := decide_eq_false (fun q => absurd (Int32.lt_of_le_of_lt q.1 q.2) (by decide))
    have e2 : zbt 0 (nI 0 - 1) x = false := decide_eq_false (fun q => absurd (Int32.le_trans q.1 q.2) (by decide))
    rw [e1, e2]
def ypg (l : List Nat) (M : mz_M) : Prop := l.length ≤ 64 ∧ M.1 77 23 = nI l.length ∧ ∀ j, j < l.length → M.1 90 j = nI (l.getD j 0)
section ZC13
variable {M0 M M' : mz_M} {σ : zSg} {t : Nat × (Nat → Nat)}
theorem s_X10_writes {l : List Nat} {c : Nat} (h : zP M0 σ M) (hp : ypg l M) (hc : c < 128) (hl : l.length < 64) : ∃ M', mq_C mq_X10_writes [.ref 77, .int (nI c)] M (none, M') ∧ zP M0 σ M' ∧ ypg (l ++ [c]) M' := by
  obtain ⟨p1, p2, p3⟩ := hp
  obtain ⟨M1, e1⟩ : ∃ y, y = mz_wr M 90 (upd (M.1 90) l.length (nI c)) := ⟨_, rfl⟩
  obtain ⟨M3, e3⟩ : ∃ y, y = mz_wr M1 77 (upd (M1.1 77) 23 (nI (l.length + 1))) := ⟨_, rfl⟩
  have h1 : zP M0 σ M1 := by rw [e1]; exact h.k (S := [90]) (zK.wr (by simp)) (by simp)
  have f7 : M1.1 77 = M.1 77 := by rw [e1, zwr_n (by decide)]
  refine ⟨M3, t_X10_writes_0 _ _ ⟨by rw [p2]; exact zn_in hl (by decide), fun N1 n1 N3 n3 => ?_⟩, by rw [e3]; exact h1.w (by decide), ?_, ?_, fun j hj => ?_⟩
  · rw [p2, zn_cl (by omega), pk_vb, ylo c hc, ← e1] at n1
    rw [n1, f7, p2, nI_1, ← f7, ← e3] at n3
    rw [n3]
  · rw [List.length_append, List.length_singleton]; omega
  · rw [e3, zwr_s, zupd_s, List.length_append, List.length_singleton]
  · rw [List.length_append, List.length_singleton] at hj
    rw [e3, zwr_n (by decide), e1, zwr_s]
    by_cases e : j = l.length
    · rw [e, zupd_s, zget_at]
    · rw [zupd_n e, zget_lo (by omega)]
      exact p3 j (by omega)
def k_written (σ : zSg) (x : Int32) : Int32 × zSg := (yans (ywr σ.1.1 9 []) x, σ)
theorem ywc_len (d : Nat) (l : List Nat) : (ywc d l).length ≤ l.length + 3 := by
  unfold ywc
  rw [List.length_append]
  have h1 : (if l = [] then l else l ++ [43]).length ≤ l.length + 1 := by
    split
    · omega
    · rw [List.length_append, List.length_singleton]; omega
  have h2 : (if d = 0 then [49] else if d = 1 then [120] else [120, 48 + d]).length ≤ 2 := by
    split
    · decide
    · split <;> simp
  omega
theorem c_X10_written_15 (x : Int32) : ∀ (d : Nat) (l : List Nat) (M : mz_M), zP M0 σ M → ypg l M → l.length + 3 * d ≤ 64 → d ≤ 9 → ∃ M', mq_G mq_X10_written (15, [some (.ref 77), some (.int x), some (.int (nI d + (-1)))], [], M) (some (.int (yans (ywr σ.1.1 d l) x)), M') ∧ zP M0 σ M'
  | 0, l, M, h, hp, hl, hd => by
    obtain ⟨p1, p2, p3⟩ := hp
    refine ⟨M, t_X10_written_15 _ _ _ ⟨fun _ => ⟨fun c => ?_, fun c => ?_⟩, fun c => absurd (by decide +kernel) c⟩, h⟩
    · show ∃ r3 : Int32, _ ∧ _
      unfold ywr yans
      rw [if_neg c, p2]
      by_cases e : zel l.length x = true
      · rw [if_pos e]
        obtain ⟨j, hj, rfl⟩ := (zel_iff (by omega)).mp e
        refine ⟨1, zin1 M (by rw [yel_sub1 (by omega)]; exact e), fun c => absurd c z10, fun _ => ⟨zn_in (by omega) (by decide), t_X10_written_120 _ _ _ _ _ ?_⟩⟩
        rw [zn_cl (by omega), zu_nI (by omega), p3 j hj]
      · rw [if_neg e]
        exact ⟨0, zin0 M (by rw [yel_sub1 (by omega)]; exact e), fun _ => t_X10_written_120 _ _ _ _ _ rfl, fun c => absurd rfl c⟩
    · refine t_X10_written_120 _ _ _ _ _ ?_
      unfold ywr yans
      rw [if_pos (Classical.not_not.mp c), p2]
  | d + 1, l, M, h, hp, hl, hd => by
    have h0 : M.1 78 (0 : Int32).toNatClampNeg = nI σ.1.1 := h.F.2.1
    have hP : σ.1.1 < 2 ^ 31 := Nat.lt_of_lt_of_le h.g.2.2.2.1 (Nat.pow_le_pow_right (by decide) (by have := h.g.2.1; omega))
    have p2 := hp.2.1
    rw [zn_m1]
    unfold ywr
    by_cases hb : σ.1.1.testBit d = true
    · rw [if_pos hb]
      have hb1 : ¬ (((M.1 78 (0 : Int32).toNatClampNeg) >>> (nI d &&& 31)) &&& 1) = 0 := by
        rw [h0, zn_bit0 hP (by omega)]
        rw [Nat.testBit_eq_decide_div_mod_eq] at hb
        have := of_decide_eq_true hb
        omega
      -- behind the plus
      have plus : ∃ (l1 : List Nat) (M9 : mz_M), l1 = (if l = [] then l else l ++ [43]) ∧ zP M0 σ M9 ∧ ypg l1 M9 ∧ ∀ res, mq_G mq_X10_written (48, [some (.ref 77), some (.int x), some (.int (nI d))], [], M9) res → mq_G mq_X10_written (15, [some (.ref 77), some (.int x), some (.int (nI d))], [], M) res := by
        by_cases e : l = []
        · subst e
          refine ⟨[], M, by rw [if_pos rfl], h, hp, fun res g => t_X10_written_15 _ _ _ ⟨fun c => absurd c (nI_pos (by omega)), fun _ => ⟨zn_in (a := 0) (by decide) (by decide), fun _ => ⟨fun _ => g, fun c => absurd ?_ c⟩, fun c => absurd hb1 c⟩⟩⟩
          rw [p2]; exact Int32.le_refl _
        · have hl0 : 0 < l.length := List.length_pos_iff.mpr e
          obtain ⟨M9, k1, k2, k3⟩ := s_X10_writes (c := 43) h hp (by decide) (by omega)
          refine ⟨l ++ [43], M9, by rw [if_neg e], k2, k3, fun res g => t_X10_written_15 _ _ _ ⟨fun c => absurd c (nI_pos (by omega)), fun _ => ⟨zn_in (a := 0) (by decide) (by decide), fun _ => ⟨fun c => ?_, fun _ => ⟨M9, k1, g⟩⟩, fun c => absurd hb1 c⟩⟩⟩
          rw [p2, zn_le0 (by omega)] at c
          omega
      obtain ⟨l1, M9, hl1, h9, p9, g9⟩ := plus
      have hl1n : l1.length ≤ l.length + 1 := by
        rw [hl1]
        split
        · omega
        · rw [List.length_append, List.length_singleton]; omega
      have hc : ywc d l = l1 ++ (if d = 0 then [49] else if d = 1 then [120] else [120, 48 + d]) := by rw [hl1]; rfl
      have hcl := ywc_len d l
      by_cases d0 : d = 0
      · rw [if_pos d0] at hc
        obtain ⟨M1, k1, k2, k3⟩ := s_X10_writes (c := 49) h9 p9 (by decide) (by omega)
        rw [← hc] at k3
        obtain ⟨M', r1, r2⟩ := c_X10_written_15 x d (ywc d l) M1 k2 k3 (by omega) (by omega)
        refine ⟨M', g9 _ (t_X10_written_48 _ _ _ ⟨fun _ => t_X10_written_60 _ _ _ _ ⟨M1, k1, fun _ => t_X10_written_76 _ _ _ r1, fun c => absurd ?_ c⟩, fun c => absurd ?_ c⟩), r2⟩
        · rw [d0]; decide
        · rw [d0]; decide
      · rw [if_neg d0] at hc
        obtain ⟨M1, k1, k2, k3⟩ := s_X10_writes (c := 120) h9 p9 (by decide) (by omega)
        have c48 : ¬ nI d ≤ 0 := by rw [zn_le0 (by omega)]; exact d0
        by_cases d1 : d = 1
        · rw [if_pos d1] at hc
          rw [← hc] at k3
          obtain ⟨M', r1, r2⟩ := c_X10_written_15 x d (ywc d l) M1 k2 k3 (by omega) (by omega)
          refine ⟨M', g9 _ (t_X10_written_48 _ _ _ ⟨fun c => absurd c c48, fun _ => t_X10_written_60 _ _ _ _ ⟨M1, k1, fun _ => t_X10_written_76 _ _ _ r1, fun c => absurd ?_ c⟩⟩), r2⟩
          rw [d1]; decide
        · rw [if_neg d1] at hc
          obtain ⟨M3, j1, j2, j3⟩ := s_X10_writes (c := 48 + d) k2 k3 (by omega) (by rw [List.length_append, List.length_singleton]; omega)
          rw [List.append_assoc, show [120] ++ [48 + d] = [120, 48 + d] from rfl, ← hc] at j3
          obtain ⟨M', r1, r2⟩ := c_X10_written_15 x d (ywc d l) M3 j2 j3 (by omega) (by omega)
          refine ⟨M', g9 _ (t_X10_written_48 _ _ _ ⟨fun c => absurd c c48, fun _ => t_X10_written_60 _ _ _ _ ⟨M1, k1, fun c => ?_, fun _ => ⟨M3, by rw [show (48 : Int32) + nI d = nI (48 + d) from nI_add 48 d]; exact j1, t_X10_written_76 _ _ _ r1⟩⟩⟩), r2⟩
          rw [show (1 : Int32) = nI 1 from rfl, zn_le (by omega) (by decide)] at c
          omega
    · rw [if_neg hb]
      have hb1 : ¬ ¬ (((M.1 78 (0 : Int32).toNatClampNeg) >>> (nI d &&& 31)) &&& 1) = 0 := by
        rw [h0, zn_bit0 hP (by omega)]
        rw [Nat.testBit_eq_decide_div_mod_eq] at hb
        have h3 : ¬ σ.1.1 / 2 ^ d % 2 = 1 := fun q => hb (decide_eq_true q)
        omega
      obtain ⟨M', r1, r2⟩ := c_X10_written_15 x d l M h hp (by omega) (by omega)
      exact ⟨M', t_X10_written_15 _ _ _ ⟨fun c => absurd c (nI_pos (by omega)), fun _ => ⟨zn_in (a := 0) (by decide) (by decide), fun c => absurd c hb1, fun _ => t_X10_written_76 _ _ _ r1⟩⟩, r2⟩
theorem c_X10_written (h : zP M0 σ M) (x : Int32) : zA M0 mq_X10_written [.ref 77, .int x] M (k_written σ x) := by
  obtain ⟨M1, eM, h1, -⟩ := h.thr
  have h8 := h.g.2.1
  obtain ⟨M2, e2⟩ : ∃ y, y = mz_wr M1 77 (upd (M1.1 77) 23 0) := ⟨_, rfl⟩
  have h2 : zP M0 σ M2 := by rw [e2]; exact h1.w (by decide)
  have p2 : ypg [] M2 := ⟨Nat.zero_le _, by rw [e2, zwr_s, zupd_s]; rfl, fun j hj => absurd hj (Nat.not_lt_zero j)⟩
  obtain ⟨M', r1, r2⟩ := c_X10_written_15 x (σ.1.2.1 + 1) [] M2 h2 p2 (by show 0 + 3 * (σ.1.2.1 + 1) ≤ 64; omega) (by omega)
  have hm := ywr_more h.g.2.2.2.1 (8 - σ.1.2.1) []
  rw [show σ.1.2.1 + 1 + (8 - σ.1.2.1) = 9 by omega] at hm
  rw [← hm, zn_m1] at r1
  refine ⟨M', t_X10_written_0 _ _ (fun N n1 N2 n2 => ?_), r2⟩
  obtain rfl := n1.trans eM
  rw [← e2] at n2
  rw [n2, h2.F.2.2.1]
  exact r1
/-! what is counted -/
def ypl (v : Nat → Nat) : Nat → Bool
  | 0 => true
  | n + 1 => ypl v n && Nat.beq (v n) (2 ^ n)
def yor (f : Nat → Bool) : Nat → Nat
  | 0 => 0
  | n + 1 => yor f n ||| (if f n = true then 2 ^ n else 0)
def k_count (σ : zSg) (x : Int32) : Int32 × zSg := (if x.toInt = 0 then nI σ.1.2.1 else if x.toInt = 1 then nI σ.1.1 else if x.toInt = 2 then nI σ.2.2.1.1 else if x.toInt = 3 then nI σ.2.2.2.2.1 else if x.toInt = 4 then nI σ.2.2.2.1.1 else if x.toInt = 5 then nI (yor (fun s => znb σ.1.1 σ.1.2.1 (σ.1.2.2 s)) 4) else if x.toInt = 6 then nI (yor (fun s => ypl (σ.1.2.2 s) σ.1.2.1) 4) else -1, σ)
theorem c_X10_count_24 {s : Nat} (hs : s < 4) (x : Int32) (A B : Nat) : ∀ (f i : Nat) (M : mz_M), i + f = σ.1.2.1 → zP M0 σ M → zrow M 87 i (σ.1.2.2 s) → ∃ M2, zP M0 σ M2 ∧ ∀ res, (∀ o5 o6 : Option Value, mq_G mq_X10_count (12, [some (.ref 77), some (.int x), some (.int (nI (A ||| if znb σ.1.1 σ.1.2.1 (σ.1.2.2 s) = true then 2 ^ s else 0))), some (.int (nI (B ||| if ypl (σ.1.2.2 s) σ.1.2.1 = true then 2 ^ s else 0))), some (.int (nI (s + 1))), o5, o6], [], M2) res) → mq_G mq_X10_count (24, [some (.ref 77), some (.int x), some (.int (nI A)), some (.int (nI B)), some (.int (nI s)), some (.int (zB (ypl (σ.1.2.2 s) i))), some (.int (nI i))], [], M) res
  | 0, i, M, hi, h, hr => by
    have h8 := h.g.2.1
    obtain rfl : i = σ.1.2.1 := by omega
    obtain ⟨M2, k1, k2⟩ := s_X10_isNormalBase h.F (h.b hs) hr
    refine ⟨M2, h.k k2 (by decide), fun res kk => t_X10_count_24 _ _ _ _ _ _ _ ⟨fun _ => ⟨_, M2, k1, fun c => ⟨fun d => ?_, fun d => ?_⟩, fun c => ⟨fun d => ?_, fun d => ?_⟩⟩, fun c => absurd ?_ c⟩⟩
    · rw [zBv c, zBv d] at kk
      simp only [Bool.false_eq_true, reduceIte, Nat.or_zero] at kk
      rw [zor00, zor00, nI_1]
      exact kk _ _
    · rw [zBv c, zBn d] at kk
      simp only [Bool.false_eq_true, reduceIte, Nat.or_zero] at kk
      rw [zor00, zone_shl (by omega), zn_or, nI_1]
      exact kk _ _
    · rw [zBn c, zBv d] at kk
      simp only [Bool.false_eq_true, reduceIte, Nat.or_zero] at kk
      rw [zor00, zone_shl (by omega), zn_or, nI_1]
      exact kk _ _
    · rw [zBn c, zBn d] at kk
      simp only [Bool.false_eq_true, reduceIte, Nat.or_zero] at kk
      rw [zone_shl (by omega), zn_or, zn_or, nI_1]
      exact kk _ _
    · rw [h.F.2.2.1, zn_le (by omega) (by omega)]
      exact Nat.le_refl _
  | f + 1, i, M, hi, h, hr => by
    have h8 := h.g.2.1
    have hv := z31 h8 ((h.b hs).2 i (by omega))
    have hp : 2 ^ i ≤ 256 := zq256 (show i ≤ 8 by omega)
    have hsl := h.s hs i (by omega)
    have hk : zK [87] M (mz_wr M 87 (upd (M.1 87) i (nI (σ.1.2.2 s i)))) := zK.wr (by simp)
    obtain ⟨M2, k1, k2⟩ := c_X10_count_24 hs x A B f (i + 1) _ (by omega) (h.k hk (by decide)) hr.put
    have hy : ypl (σ.1.2.2 s) (i + 1) = (ypl (σ.1.2.2 s) i && Nat.beq (σ.1.2.2 s i) (2 ^ i)) := rfl
    refine ⟨M2, k1, fun res kk => t_X10_count_24 _ _ _ _ _ _ _ ⟨fun c => ?_, fun _ => ⟨nI (σ.1.2.2 s i), ?_, zn_in (by omega) (by decide), fun M7 e7 => ⟨fun c => ?_, fun c => ⟨zn_in (by omega) (by decide), fun d => ?_, fun d => ?_⟩⟩⟩⟩⟩
    · rw [h.F.2.2.1, zn_le (by omega) (by omega)] at c
      omega
    · rw [← hsl]
      exact s_X10_baseAt M hs (by omega)
    · rw [zn_cl (by omega)] at e7
      have := k2 res kk
      rw [hy, zBv c, Bool.false_and] at this
      rw [e7, nI_1]
      exact this
    · rw [zn_cl (by omega)] at e7 d
      rw [e7, zwr_s, zupd_s, zone_shl (by omega), zn_eq hv (by omega)] at d
      have := k2 res kk
      rw [hy, show Nat.beq (σ.1.2.2 s i) (2 ^ i) = false by cases q : Nat.beq (σ.1.2.2 s i) (2 ^ i) with | false => rfl | true => exact absurd (Nat.eq_of_beq_eq_true q) d, Bool.and_false] at this
      rw [e7, nI_1]
      exact this
    · rw [zn_cl (by omega)] at e7 d
      rw [e7, zwr_s, zupd_s, zone_shl (by omega), zn_eq hv (by omega)] at d
      have := k2 res kk
      rw [hy, show Nat.beq (σ.1.2.2 s i) (2 ^ i) = true by rw [Classical.not_not.mp d]; exact Nat.beq_refl _, zBn c] at this
      rw [e7, nI_1]
      exact this
theorem c_X10_count_12 (x : Int32) : ∀ (f s : Nat) (M : mz_M), s + f = 4 → zP M0 σ M → ∃ M', (∀ o5 o6 : Option Value, mq_G mq_X10_count (12, [some (.ref 77), some (.int x), some (.int (nI (yor (fun s => znb σ.1.1 σ.1.2.1 (σ.1.2.2 s)) s))), some (.int (nI (yor (fun s => ypl (σ.1.2.2 s) σ.1.2.1) s))), some (.int (nI s)), o5, o6], [], M) (some (.int (k_count σ x).1), M')) ∧ zP M0 σ M'
  | 0, s, M, hs, h => by
    obtain rfl : s = 4 := by omega
    have e5 : M.1 77 5 = nI σ.2.2.1.1 := h.2.2.2.1.2.1
    have e9 : M.1 77 9 = nI σ.2.2.2.2.1 := h.2.2.2.2.2.2.1
    have e7 : M.1 77 7 = nI σ.2.2.2.1.1 := h.2.2.2.2.1.2.1
    have e0 : M.1 78 (0 : Int32).toNatClampNeg = nI σ.1.1 := h.F.2.1
    refine ⟨M, fun o5 o6 => t_X10_count_12 _ _ _ _ _ _ _ ⟨fun _ => ⟨fun q => ?_, fun q => ?_, fun q => ⟨zn_in (a := 0) (by decide) (by decide), ?_⟩, fun q => ?_, fun q => ?_, fun q => ?_, fun q => ?_, fun q => ?_⟩, fun c => absurd (by decide) c⟩, h⟩
    all_goals unfold k_count; dsimp only
    · rw [if_neg (by omega), if_neg (by omega), if_neg (by omega), if_neg (by omega), if_neg (by omega), if_neg (by omega), if_neg (by omega)]
    · rw [if_pos q, h.F.2.2.1]
    · rw [if_neg (by omega), if_pos q, e0]
    · rw [if_neg (by omega), if_neg (by omega), if_pos q, e5]
    · rw [if_neg (by omega), if_neg (by omega), if_neg (by omega), if_pos q, e9]
    · rw [if_neg (by omega), if_neg (by omega), if_neg (by omega), if_neg (by omega), if_pos q, e7]
    · rw [if_neg (by omega), if_neg (by omega), if_neg (by omega), if_neg (by omega), if_neg (by omega), if_pos q]
    · rw [if_neg (by omega), if_neg (by omega), if_neg (by omega), if_neg (by omega), if_neg (by omega), if_neg (by omega), if_pos q]
  | f + 1, s, M, hs, h => by
    obtain ⟨M2, k1, k2⟩ := c_X10_count_24 (show s < 4 by omega) x (yor (fun s => znb σ.1.1 σ.1.2.1 (σ.1.2.2 s)) s) (yor (fun s => ypl (σ.1.2.2 s) σ.1.2.1) s) σ.1.2.1 0 M (Nat.zero_add _) h (fun j hj => absurd hj (Nat.not_lt_zero j))
    obtain ⟨M', l1, l2⟩ := c_X10_count_12 x f (s + 1) M2 (by omega) k1
    refine ⟨M', fun o5 o6 => t_X10_count_12 _ _ _ _ _ _ _ ⟨fun c => ?_, fun _ => k2 _ l1⟩, l2⟩
    rw [show (4 : Int32) = nI 4 from rfl, zn_le (by decide) (by omega)] at c
    omega
theorem c_X10_count (h : zP M0 σ M) (x : Int32) : zA M0 mq_X10_count [.ref 77, .int x] M (k_count σ x) := by
  obtain ⟨M1, eM, h1, -⟩ := h.thr
  obtain ⟨M', l1, l2⟩ := c_X10_count_12 x 4 0 M1 rfl h1
  refine ⟨M', t_X10_count_0 _ _ (fun N n1 => ?_), l2⟩
  obtain rfl := n1.trans eM
  exact l1 none none
/-! the row -/
theorem c_X10_row (h : zP M0 σ M) (x : Int32) : ∃ (y : Int64) (M' : mz_M), mq_C mq_X10_row [.ref 77, .int x] M (some (.long y), M') ∧ zP M0 σ M' ∧ ((zel σ.2.2.2.2.1 x = true ∧ y = σ.2.2.2.2.2 (zu x) ∧ M'.1 77 10 = 0) ∨ (¬ zel σ.2.2.2.2.1 x = true ∧ M'.1 77 10 = 1)) := by
  obtain ⟨M1, eM, h1, -⟩ := h.thr
  have e9 : M1.1 77 9 = nI σ.2.2.2.2.1 := h1.2.2.2.2.2.2.1
  have h16 : σ.2.2.2.2.1 ≤ 16 := h1.2.2.2.2.2.1
  have e10 : M1.1 77 10 = 0 := by rw [← eM, zwr_s, zupd_s]
  by_cases e : zel σ.2.2.2.2.1 x = true
  · obtain ⟨j, hj, rfl⟩ := (zel_iff (by omega)).mp e
    refine ⟨M1.2 83 (nI j).toNatClampNeg, M1, t_X10_row_0 _ _ (fun N n1 => ?_), h1, Or.inl ⟨e, ?_, e10⟩⟩
    · obtain rfl := n1.trans eM
      exact ⟨1, by rw [e9]; exact zin1 _ (by rw [yel_sub1 (by omega)]; exact e), fun c => absurd c z10, fun _ => ⟨zn_in (by omega) (by decide), rfl⟩⟩
    · rw [zn_cl (by omega), zu_nI (by omega)]
      exact h1.2.2.2.2.2.2.2 j hj
  · have h2 : zP M0 σ (mz_wr M1 77 (upd (M1.1 77) 10 1)) := h1.w (by decide)
    refine ⟨(0 : Int32).toInt64, mz_wr M1 77 (upd (M1.1 77) 10 1), t_X10_row_0 _ _ (fun N n1 => ?_), h2, Or.inr ⟨e, by rw [zwr_s, zupd_s]⟩⟩
    · obtain rfl := n1.trans eM
      exact ⟨0, by rw [e9]; exact zin0 _ (by rw [yel_sub1 (by omega)]; exact e), fun _ => ⟨0, _, t_X10_lost_0 _ (fun M2 e2 => by rw [e2]), rfl⟩, fun c => absurd rfl c⟩
end ZC13
