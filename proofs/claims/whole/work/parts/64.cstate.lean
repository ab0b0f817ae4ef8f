/-! the class: states, the past, the row -/
def ycs (c : Nat) : Prop := mz_nth mq_sk c = some (.inr (5, [none, some (c + 1)])) ∧ mz_nth mq_sk (c + 1) = some (.inl (4, 4, [c + 2, c + 3, c + 4, c + 5])) ∧ zar (c + 2) ∧ zar (c + 3) ∧ zar (c + 4) ∧ zar (c + 5)
theorem ycs8 : ycs 8 := ⟨rfl, rfl, rfl, rfl, rfl, rfl⟩
theorem ycs14 : ycs 14 := ⟨rfl, rfl, rfl, rfl, rfl, rfl⟩
theorem ycsp {k : Nat} (hk : k < 8) : ycs (22 + 6 * k) := by
  have h : k = 0 ∨ k = 1 ∨ k = 2 ∨ k = 3 ∨ k = 4 ∨ k = 5 ∨ k = 6 ∨ k = 7 := by omega
  rcases h with rfl | rfl | rfl | rfl | rfl | rfl | rfl | rfl <;> exact ⟨rfl, rfl, rfl, rfl, rfl, rfl⟩
theorem z4 {s : Nat} (hs : s < 4) : s = 0 ∨ s = 1 ∨ s = 2 ∨ s = 3 := by omega
theorem ycs.ar {c s : Nat} (h : ycs c) (hs : s < 4) : zar (c + 2 + s) := by
  rcases z4 hs with rfl | rfl | rfl | rfl
  · exact h.2.2.1
  · exact h.2.2.2.1
  · exact h.2.2.2.2.1
  · exact h.2.2.2.2.2
theorem zgd {c s : Nat} (hs : s < 4) : [c + 2, c + 3, c + 4, c + 5].getD (nI s).toNatClampNeg 0 = c + 2 + s := by
  rw [zn_cl (by omega)]
  rcases z4 hs with rfl | rfl | rfl | rfl <;> rfl
theorem zgd8 {s : Nat} (hs : s < 4) : ([10, 11, 12, 13] : List Nat).getD (nI s).toNatClampNeg 0 = 10 + s := zgd (c := 8) hs
theorem zar10 {s : Nat} (hs : s < 4) : zar (10 + s) := ycs8.ar hs
theorem z8cl : (8 : Int32).toNatClampNeg = 8 := rfl
def zCs (a : zSt) (c : Nat) (M : mz_M) : Prop := M.1 c 0 = nI a.1 ∧ ∀ s, s < 4 → zrow M (c + 2 + s) a.2.1 (a.2.2 s)
theorem zcpy (f g : Nat → Int32) {j : Nat} (hj : j < 8) : va_cpy f g (0 : Int32).toNatClampNeg (0 : Int32).toNatClampNeg (8 : Int32).toNatClampNeg j = f j := by
  unfold va_cpy
  rw [z0cl, z8cl, if_pos ⟨Nat.zero_le _, by omega⟩, Nat.zero_add, Nat.sub_zero]
theorem zrow.e {M M' : mz_M} {c n : Nat} {v : Nat → Nat} (h : zrow M c n v) (e : M'.1 c = M.1 c) : zrow M' c n v := fun j hj => by rw [e]; exact h j hj
theorem zfr.e {v : Nat → Nat} {i : Nat} {M M' : mz_M} (h : zfr v i M) (h5 : M'.1 5 = M.1 5) (h6 : M'.1 6 = M.1 6) (h7 : M'.1 7 = M.1 7) : zfr v i M' := by
  obtain ⟨L, Sh, a1, a2, a3⟩ := h
  exact ⟨L, Sh, by rw [h5]; exact a1, fun k hk8 => by rw [h6, h7]; exact a2 k hk8, a3⟩
theorem zCF.e {P m : Nat} {M M' : mz_M} (h : zCF P m M) (h2 : M'.1 2 = M.1 2) (h3 : M'.1 3 = M.1 3) (h4 : M'.1 4 = M.1 4) : zCF P m M' := by
  obtain ⟨g, T, a1, a2, a3⟩ := h
  exact ⟨g, T, ⟨a1.1, a1.2.1, by rw [h2]; exact a1.2.2.1, by rw [h2]; exact a1.2.2.2.1, by rw [h2]; exact a1.2.2.2.2.1, fun k hk => by rw [h3]; exact a1.2.2.2.2.2.1 k hk, fun k hk => by rw [h4]; exact a1.2.2.2.2.2.2 k hk⟩, a2, by rw [h2]; exact a3⟩
theorem zCs.e {a : zSt} {c : Nat} {M M' : mz_M} (h : zCs a c M) (e : ∀ b, (b = c ∨ (c + 2 ≤ b ∧ b < c + 6)) → M'.1 b = M.1 b) : zCs a c M' :=
  ⟨by rw [e c (Or.inl rfl)]; exact h.1, fun s hs => (h.2 s hs).e (e _ (Or.inr ⟨by omega, by omega⟩))⟩
theorem s_X7_setsSlot {c s b : Nat} (h : ycs c) (hs : s < 4) (hb : zar b) (M : mz_M) : ∃ M', mq_C mq_X7_setsSlot [.ref c, .int (nI s), .ref b] M (none, M') ∧ zK [c + 2 + s] M M' ∧ ∀ j, j < 8 → M'.1 (c + 2 + s) j = M.1 b j := by
  refine ⟨mz_wr M (c + 2 + s) (va_cpy (M.1 b) (M.1 (c + 2 + s)) (0 : Int32).toNatClampNeg (0 : Int32).toNatClampNeg (8 : Int32).toNatClampNeg), t_X7_setsSlot_0 _ _ _ _ ⟨c + 1, h.1, _, h.2.1, zn_in (by omega) (by decide), rfl, hb, by rw [zgd hs]; exact h.ar hs, by decide, by decide, by decide, by decide, by decide, fun M4 e4 => ?_⟩, zK.wr (by simp), fun j hj => by rw [zwr_s, zcpy _ _ hj]⟩
  rw [zgd hs] at e4
  rw [e4]
theorem s_X7_copiesSlot {c s b : Nat} (h : ycs c) (hs : s < 4) (hb : zar b) (M : mz_M) : ∃ M', mq_C mq_X7_copiesSlot [.ref c, .int (nI s), .ref b] M (none, M') ∧ zK [b] M M' ∧ ∀ j, j < 8 → M'.1 b j = M.1 (c + 2 + s) j := by
  refine ⟨mz_wr M b (va_cpy (M.1 (c + 2 + s)) (M.1 b) (0 : Int32).toNatClampNeg (0 : Int32).toNatClampNeg (8 : Int32).toNatClampNeg), t_X7_copiesSlot_0 _ _ _ _ ⟨c + 1, h.1, _, h.2.1, zn_in (by omega) (by decide), rfl, by rw [zgd hs]; exact h.ar hs, hb, by decide, by decide, by decide, by decide, by decide, fun M4 e4 => ?_⟩, zK.wr (by simp), fun j hj => by rw [zwr_s, zcpy _ _ hj]⟩
  rw [zgd hs] at e4
  rw [e4]
/-- what may change when a state is laid at c -/
def zKs (c : Nat) (M M' : mz_M) : Prop := M'.2 = M.2 ∧ ∀ b, ¬ b = c → ¬ (c + 2 ≤ b ∧ b < c + 6) → M'.1 b = M.1 b
theorem zKs.tr {c : Nat} {M M1 M2 : mz_M} (h1 : zKs c M M1) (h2 : zKs c M1 M2) : zKs c M M2 := ⟨h2.1.trans h1.1, fun b hb hb2 => (h2.2 b hb hb2).trans (h1.2 b hb hb2)⟩
theorem zKs.of {c : Nat} {S : List Nat} {M M' : mz_M} (h : zK S M M') (hS : ∀ b ∈ S, b = c ∨ (c + 2 ≤ b ∧ b < c + 6)) : zKs c M M' := ⟨h.1, fun b hb hb2 => h.2 b (fun q => by
  rcases hS b q with e | e
  · exact hb e
  · exact hb2 e)⟩
theorem s_X7_becomes_10 {c d : Nat} (hc : ycs c) (hd : ycs d) (hcd : c + 6 ≤ d ∨ d + 6 ≤ c) : ∀ (f s : Nat) (M : mz_M), s + f = 4 → ∃ M', mq_G mq_X7_becomes (10, [some (.ref d), some (.ref c), some (.int (nI s))], [], M) (none, M') ∧ zKs d M M' ∧ M'.1 d = M.1 d ∧ (∀ t, t < s → M'.1 (d + 2 + t) = M.1 (d + 2 + t)) ∧ ∀ t, s ≤ t → t < 4 → ∀ j, j < 8 → M'.1 (d + 2 + t) j = M.1 (c + 2 + t) j
  | 0, s, M, hs => by
    obtain rfl : s = 4 := by omega
    exact ⟨M, t_X7_becomes_10 _ _ _ _ ⟨fun _ => rfl, fun c => absurd (by decide) c⟩, ⟨rfl, fun _ _ _ => rfl⟩, rfl, fun _ _ => rfl, fun t h1 h2 => absurd h1 (by omega)⟩
  | f + 1, s, M, hs => by
    obtain ⟨M1, g1, g2, g3⟩ := s_X7_setsSlot hd (show s < 4 by omega) (hc.ar (show s < 4 by omega)) M
    obtain ⟨M', k1, k2, k3, k4, k5⟩ := s_X7_becomes_10 hc hd hcd f (s + 1) M1 (by omega)
    refine ⟨M', t_X7_becomes_10 _ _ _ _ ⟨fun q => ?_, fun _ => ⟨c + 1, hc.1, _, hc.2.1, zn_in (by omega) (by decide), rfl, d + 1, hd.1, M1, ?_, by rw [nI_1]; exact k1⟩⟩, (zKs.of g2 (fun b hb => by rw [List.mem_singleton.mp hb]; omega)).tr k2, ?_, fun t ht => ?_, fun t h1 h2 j hj => ?_⟩
    · rw [show (4 : Int32) = nI 4 from rfl, zn_le (by decide) (by omega)] at q
      omega
    · rw [zgd (by omega)]
      exact g1
    · rw [k3, g2.2 d (zns (by omega))]
    · rw [k4 t (by omega), g2.2 _ (zns (by omega))]
    · by_cases e : t = s
      · subst e
        rw [k4 t (by omega), g3 j hj]
      · rw [k5 t (by omega) h2 j hj, g2.2 _ (zns (by omega))]
theorem s_X7_becomes {c d : Nat} {a : zSt} (hc : ycs c) (hd : ycs d) (hcd : c + 6 ≤ d ∨ d + 6 ≤ c) (hm : a.2.1 ≤ 8) {M : mz_M} (ha : zCs a c M) : ∃ M', mq_C mq_X7_becomes [.ref d, .ref c] M (none, M') ∧ zKs d M M' ∧ zCs a d M' := by
  obtain ⟨M2, e2⟩ : ∃ y, y = mz_wr M d (upd (M.1 d) 0 (M.1 c 0)) := ⟨_, rfl⟩
  obtain ⟨M', k1, k2, k3, k4, k5⟩ := s_X7_becomes_10 hc hd hcd 4 0 M2 rfl
  have hk : zK [d] M M2 := by rw [e2]; exact zK.wr (by simp)
  refine ⟨M', t_X7_becomes_0 _ _ _ ⟨c + 1, hc.1, d + 1, hd.1, fun N n2 => ?_⟩, (zKs.of hk (fun b hb => Or.inl (List.mem_singleton.mp hb))).tr k2, ?_, fun s hs j hj => ?_⟩
  · rw [← e2] at n2
    rw [n2]
    exact k1
  · rw [k3, e2, zwr_s, zupd_s]
    exact ha.1
  · rw [k5 s (by omega) hs j (by omega), hk.2 _ (zns (by omega))]
    exact ha.2 s hs j hj
theorem s_X7_start_14 {c s : Nat} (hc : ycs c) (hs : s < 4) : ∀ (f i : Nat) (M : mz_M), i + f = 8 → ∃ M1, zK [c + 2 + s] M M1 ∧ (∀ j, i ≤ j → j < 8 → M1.1 (c + 2 + s) j = nI (2 ^ j)) ∧ (∀ j, j < i → M1.1 (c + 2 + s) j = M.1 (c + 2 + s) j) ∧ ∀ (res : mz_O) (o1 : Option Value), (∀ o1 o3 : Option Value, mq_G mq_X7_start (7, [some (.ref c), o1, some (.int (nI (s + 1))), o3], [], M1) res) → mq_G mq_X7_start (14, [some (.ref c), o1, some (.int (nI s)), some (.int (nI i))], [], M) res
  | 0, i, M, hi => by
    obtain rfl : i = 8 := by omega
    exact ⟨M, zK.rf _ _, fun j h1 h2 => absurd h1 (by omega), fun _ _ => rfl, fun res o1 kk => t_X7_start_14 _ _ _ _ _ ⟨fun _ => by rw [nI_1]; exact kk _ _, fun c => absurd (by decide) c⟩⟩
  | f + 1, i, M, hi => by
    have hk : zK [c + 2 + s] M (mz_wr M (c + 2 + s) (upd (M.1 (c + 2 + s)) i (nI (2 ^ i)))) := zK.wr (by simp)
    obtain ⟨M1, k1, k2, k3, k4⟩ := s_X7_start_14 hc hs f (i + 1) (mz_wr M (c + 2 + s) (upd (M.1 (c + 2 + s)) i (nI (2 ^ i)))) (by omega)
    refine ⟨M1, hk.tr k1, fun j h1 h2 => ?_, fun j hj => ?_, fun res o1 kk => t_X7_start_14 _ _ _ _ _ ⟨fun q => ?_, fun _ => ⟨c + 1, hc.1, _, hc.2.1, zn_in (by omega) (by decide), rfl, by rw [zgd hs]; exact hc.ar hs, zn_in (by omega) (by decide), fun N n5 => ?_⟩⟩⟩
    · by_cases e : j = i
      · subst e
        rw [k3 j (by omega), zwr_s, zupd_s]
      · exact k2 j (by omega) h2
    · rw [k3 j (by omega), zwr_s, zupd_n (by omega)]
    · rw [show (8 : Int32) = nI 8 from rfl, zn_le (by decide) (by omega)] at q
      omega
    · rw [zgd hs, zn_cl (by omega), zone_shl (by omega)] at n5
      rw [n5, nI_1]
      exact k4 res o1 kk
theorem s_X7_start_7 {c : Nat} (hc : ycs c) : ∀ (f s : Nat) (M : mz_M), s + f = 4 → ∃ M', (∀ o1 o3 : Option Value, mq_G mq_X7_start (7, [some (.ref c), o1, some (.int (nI s)), o3], [], M) (none, M')) ∧ zKs c M M' ∧ M'.1 c = M.1 c ∧ (∀ t, t < s → M'.1 (c + 2 + t) = M.1 (c + 2 + t)) ∧ ∀ t, s ≤ t → t < 4 → ∀ j, j < 8 → M'.1 (c + 2 + t) j = nI (2 ^ j)
  | 0, s, M, hs => by
    obtain rfl : s = 4 := by omega
    exact ⟨M, fun o1 o3 => t_X7_start_7 _ _ _ _ _ ⟨fun _ => rfl, fun c => absurd (by decide) c⟩, ⟨rfl, fun _ _ _ => rfl⟩, rfl, fun _ _ => rfl, fun t h1 h2 => absurd h1 (by omega)⟩
  | f + 1, s, M, hs => by
    obtain ⟨M1, g1, g2, g3, g4⟩ := s_X7_start_14 hc (show s < 4 by omega) 8 0 M rfl
    obtain ⟨M', k1, k2, k3, k4, k5⟩ := s_X7_start_7 hc f (s + 1) M1 (by omega)
    refine ⟨M', fun o1 o3 => t_X7_start_7 _ _ _ _ _ ⟨fun q => ?_, fun _ => g4 _ o1 (fun o1 o3 => k1 o1 o3)⟩, (zKs.of g1 (fun b hb => by rw [List.mem_singleton.mp hb]; omega)).tr k2, ?_, fun t ht => ?_, fun t h1 h2 j hj => ?_⟩
    · rw [show (4 : Int32) = nI 4 from rfl, zn_le (by decide) (by omega)] at q
      omega
    · rw [k3, g1.2 c (zns (by omega))]
    · rw [k4 t (by omega), g1.2 _ (zns (by omega))]
    · by_cases e : t = s
      · subst e
        rw [k4 t (by omega), g2 j (by omega) hj]
      · exact k5 t (by omega) h2 j hj
theorem s_X7_start {c P m : Nat} (hc : ycs c) (hm : m ≤ 8) (M : mz_M) : ∃ M', mq_C mq_X7_start [.ref c, .int (nI P)] M (none, M') ∧ zKs c M M' ∧ zCs (znew P m) c M' := by
  obtain ⟨M2, e2⟩ : ∃ y, y = mz_wr M c (upd (M.1 c) 0 (nI P)) := ⟨_, rfl⟩
  obtain ⟨M', k1, k2, k3, k4, k5⟩ := s_X7_start_7 hc 4 0 M2 rfl
  have hk : zK [c] M M2 := by rw [e2]; exact zK.wr (by simp)
  refine ⟨M', t_X7_start_0 _ _ _ ⟨c + 1, hc.1, fun N n2 => ?_⟩, (zKs.of hk (fun b hb => Or.inl (List.mem_singleton.mp hb))).tr k2, ?_, fun s hs j hj => ?_⟩
  · rw [← e2] at n2
    rw [n2]
    exact k1 _ none
  · rw [k3, e2, zwr_s, zupd_s]
    rfl
  · have hj : j < m := hj
    exact k5 s (by omega) hs j (by omega)
/-! the past -/
def zCp (p : Nat × (Nat → zSt)) (M : mz_M) : Prop := p.1 ≤ 8 ∧ M.1 20 2 = nI p.1 ∧ ∃ n, n < 8 ∧ M.1 20 1 = nI n ∧ ∀ k, k < p.1 → zok (p.2 k) ∧ zCs (p.2 k) (22 + 6 * ((n + 8 - p.1 + k) % 8)) M
theorem zCp.e {p : Nat × (Nat → zSt)} {M M' : mz_M} (h : zCp p M) (e : ∀ b, 20 ≤ b → b < 70 → M'.1 b = M.1 b) : zCp p M' := by
  obtain ⟨h1, h2, n, h3, h4, h5⟩ := h
  exact ⟨h1, by rw [e 20 (by decide) (by decide)]; exact h2, n, h3, by rw [e 20 (by decide) (by decide)]; exact h4, fun k hk => ⟨(h5 k hk).1, (h5 k hk).2.e (fun b hb => e b (by omega) (by omega))⟩⟩
/-- what may change in the past -/
def zKq (M M' : mz_M) : Prop := M'.2 = M.2 ∧ ∀ b, (b < 20 ∨ 70 ≤ b) → M'.1 b = M.1 b
theorem zgdp {n : Nat} (hn : n < 8) : ([22, 28, 34, 40, 46, 52, 58, 64] : List Nat).getD (nI n).toNatClampNeg 0 = 22 + 6 * n := by
  rw [zn_cl (by omega)]
  have h : n = 0 ∨ n = 1 ∨ n = 2 ∨ n = 3 ∨ n = 4 ∨ n = 5 ∨ n = 6 ∨ n = 7 := by omega
  rcases h with rfl | rfl | rfl | rfl | rfl | rfl | rfl | rfl <;> rfl
theorem zand7 (n : Nat) : nI n &&& 7 = nI (n % 8) := by
  rw [show (7 : Int32) = nI 7 from rfl, zn_and, show n &&& 7 = n % 8 from Nat.and_two_pow_sub_one_eq_mod n 3]
theorem s_X3_remembers {c : Nat} {a : zSt} {p : Nat × (Nat → zSt)} {M : mz_M} (hc : ycs c) (hc8 : c + 6 ≤ 20) (hz : zok a) (ha : zCs a c M) (hp : zCp p M) : ∃ M', mq_C mq_X3_remembers [.ref 20, .ref c] M (none, M') ∧ zKq M M' ∧ zCp (zph p a) M' := by
  obtain ⟨h1, h2, n, h3, h4, h5⟩ := hp
  obtain ⟨M3, g1, g2, g3⟩ := s_X7_becomes hc (ycsp h3) (Or.inl (by omega)) hz.1.2.1 ha
  obtain ⟨M5, e5⟩ : ∃ y, y = mz_wr M3 20 (upd (M3.1 20) 1 (nI ((n + 1) % 8))) := ⟨_, rfl⟩
  have f20 : M3.1 20 = M.1 20 := g2.2 20 (by omega) (by omega)
  have f2 : M5.1 20 2 = nI p.1 := by rw [e5, zwr_s, zupd_n (by decide), f20, h2]
  obtain ⟨M7, e7⟩ : ∃ y, y = mz_wr M5 20 (upd (M5.1 20) 2 (nI (zph p a).1)) := ⟨_, rfl⟩
  have fo : ∀ b, ¬ b = 20 → M7.1 b = M3.1 b := fun b hb => by rw [e7, zwr_n hb, e5, zwr_n hb]
  have hph : (p.1 < 8 ∧ zph p a = (p.1 + 1, fun k => if k = p.1 then a else p.2 k)) ∨ (p.1 = 8 ∧ zph p a = (8, fun k => if k = 7 then a else p.2 (k + 1))) := by
    by_cases q : p.1 < 8
    · exact Or.inl ⟨q, by unfold zph; rw [if_pos q]⟩
    · exact Or.inr ⟨by omega, by unfold zph; rw [if_neg q]⟩
  refine ⟨M7, t_X3_remembers_0 _ _ ⟨by rw [h4]; exact zn_in h3 (by decide), rfl, 22 + 6 * n + 1, by rw [h4, zgdp h3]; exact (ycsp h3).1, M3, by rw [h4, zgdp h3]; exact g1, fun N n5 => ?_⟩, ⟨?_, fun b hb => ?_⟩, ?_⟩
  · rw [show M3.1 20 1 = nI n by rw [f20, h4], nI_1, zand7, ← e5] at n5
    subst n5
    rw [f2]
    refine ⟨fun q N n7 => ?_, fun q N n7 => ?_⟩
    · rw [show (8 : Int32) = nI 8 from rfl, zn_le (by decide) (by omega)] at q
      have : (zph p a).1 = 8 := by
        rcases hph with ⟨q1, q2⟩ | ⟨q1, q2⟩
        · omega
        · rw [q2]
      rw [this] at e7
      rw [n7, e7]
      rfl
    · rw [show (8 : Int32) = nI 8 from rfl, zn_le (by decide) (by omega)] at q
      have : (zph p a).1 = p.1 + 1 := by
        rcases hph with ⟨q1, q2⟩ | ⟨q1, q2⟩
        · rw [q2]
        · omega
      rw [this] at e7
      rw [n7, e7, nI_1]
  · rw [e7, zwr_2, e5, zwr_2, g2.1]
  · rw [fo b (by omega), g2.2 b (by omega) (by omega)]
  · have hn' : M7.1 20 1 = nI ((n + 1) % 8) := by rw [e7, zwr_s, zupd_n (by decide), e5, zwr_s, zupd_s]
    have hh' : M7.1 20 2 = nI (zph p a).1 := by rw [e7, zwr_s, zupd_s]
    have hold : ∀ k, k < p.1 → (n + 8 - p.1 + k) % 8 ≠ n → zCs (p.2 k) (22 + 6 * ((n + 8 - p.1 + k) % 8)) M7 := by
      intro k hk hne
      exact (h5 k hk).2.e (fun b hb => by rw [fo b (by omega), g2.2 b (by omega) (by omega)])
    have hnew : zCs a (22 + 6 * n) M7 := g3.e (fun b hb => fo b (by omega))
    rcases hph with ⟨q1, q2⟩ | ⟨q1, q2⟩
    · rw [q2] at hh' ⊢
      refine ⟨by show p.1 + 1 ≤ 8; omega, hh', (n + 1) % 8, by omega, hn', fun k hk => ?_⟩
      have hk : k < p.1 + 1 := hk
      show zok (if k = p.1 then a else p.2 k) ∧ zCs (if k = p.1 then a else p.2 k) (22 + 6 * (((n + 1) % 8 + 8 - (p.1 + 1) + k) % 8)) M7
      by_cases e : k = p.1
      · rw [if_pos e, show ((n + 1) % 8 + 8 - (p.1 + 1) + k) % 8 = n by omega]
        exact ⟨hz, hnew⟩
      · rw [if_neg e, show ((n + 1) % 8 + 8 - (p.1 + 1) + k) % 8 = (n + 8 - p.1 + k) % 8 by omega]
        exact ⟨(h5 k (by omega)).1, hold k (by omega) (by omega)⟩
    · rw [q2] at hh' ⊢
      refine ⟨Nat.le_refl 8, hh', (n + 1) % 8, by omega, hn', fun k hk => ?_⟩
      have hk : k < 8 := hk
      show zok (if k = 7 then a else p.2 (k + 1)) ∧ zCs (if k = 7 then a else p.2 (k + 1)) (22 + 6 * (((n + 1) % 8 + 8 - 8 + k) % 8)) M7
      by_cases e : k = 7
      · rw [if_pos e, show ((n + 1) % 8 + 8 - 8 + k) % 8 = n by omega]
        exact ⟨hz, hnew⟩
      · have hc := hold (k + 1) (by omega) (by omega)
        rw [if_neg e, show ((n + 1) % 8 + 8 - 8 + k) % 8 = (n + 8 - p.1 + (k + 1)) % 8 by omega]
        exact ⟨(h5 (k + 1) (by omega)).1, hc⟩
theorem s_X3_restores0 {c : Nat} {p : Nat × (Nat → zSt)} {M : mz_M} (hp : zCp p M) (h0 : p.1 = 0) : mq_C mq_X3_restores [.ref 20, .ref c] M (some (.int 0), M) := by
  refine t_X3_restores_0 _ _ ⟨fun q => absurd ?_ q, fun _ => rfl⟩
  rw [hp.2.1, h0]; rfl
theorem s_X3_restores {c : Nat} {p : Nat × (Nat → zSt)} {M : mz_M} (hc : ycs c) (hc8 : c + 6 ≤ 20) (hp : zCp p M) (h0 : 0 < p.1) : ∃ M', mq_C mq_X3_restores [.ref 20, .ref c] M (some (.int 1), M') ∧ M'.2 = M.2 ∧ (∀ b, ¬ b = 20 → ¬ b = c → ¬ (c + 2 ≤ b ∧ b < c + 6) → M'.1 b = M.1 b) ∧ zok (p.2 (p.1 - 1)) ∧ zCs (p.2 (p.1 - 1)) c M' ∧ zCp (p.1 - 1, p.2) M' := by
  obtain ⟨h1, h2, n, h3, h4, h5⟩ := hp
  obtain ⟨M2, e2⟩ : ∃ y, y = mz_wr M 20 (upd (M.1 20) 1 (nI ((n + 7) % 8))) := ⟨_, rfl⟩
  obtain ⟨M3, e3⟩ : ∃ y, y = mz_wr M2 20 (upd (M2.1 20) 2 (nI (p.1 - 1))) := ⟨_, rfl⟩
  have fo : ∀ b, ¬ b = 20 → M3.1 b = M.1 b := fun b hb => by rw [e3, zwr_n hb, e2, zwr_n hb]
  have f1 : M3.1 20 1 = nI ((n + 7) % 8) := by rw [e3, zwr_s, zupd_n (by decide), e2, zwr_s, zupd_s]
  have f2 : M3.1 20 2 = nI (p.1 - 1) := by rw [e3, zwr_s, zupd_s]
  obtain ⟨z1, z2⟩ := h5 (p.1 - 1) (by omega)
  rw [show (n + 8 - p.1 + (p.1 - 1)) % 8 = (n + 7) % 8 by omega] at z2
  have hn8 : (n + 7) % 8 < 8 := by omega
  obtain ⟨M', g1, g2, g3⟩ := s_X7_becomes (ycsp hn8) hc (Or.inr (by omega)) z1.1.2.1 (z2.e (M' := M3) (fun b hb => fo b (by omega)))
  refine ⟨M', t_X3_restores_0 _ _ ⟨fun _ N n2 => ?_, fun q => absurd ?_ q⟩, by rw [g2.1, e3, zwr_2, e2, zwr_2], fun b hb hb2 hb3 => by rw [g2.2 b hb2 hb3, fo b hb], z1, g3, ?_⟩
  · rw [h4, show nI n + 8 - 1 = nI (n + 7) by rw [show (8 : Int32) = nI 8 from rfl, nI_add, zs1 (by omega)]; rfl, zand7, ← e2] at n2
    rw [n2]
    intro N3 n3
    rw [show M2.1 20 2 = nI p.1 by rw [e2, zwr_s, zupd_n (by decide)]; exact h2, zs1 h0, ← e3] at n3
    rw [n3, f1]
    exact ⟨zn_in hn8 (by decide), rfl, c + 1, hc.1, M', by rw [zgdp hn8]; exact g1, rfl⟩
  · rw [h2, zn_eq0 (by omega)]
    omega
  · refine ⟨by show p.1 - 1 ≤ 8; omega, by rw [g2.2 20 (by omega) (by omega)]; exact f2, (n + 7) % 8, hn8, by rw [g2.2 20 (by omega) (by omega)]; exact f1, fun k hk => ?_⟩
    have hk : k < p.1 - 1 := hk
    show zok (p.2 k) ∧ zCs (p.2 k) (22 + 6 * (((n + 7) % 8 + 8 - (p.1 - 1) + k) % 8)) M'
    rw [show ((n + 7) % 8 + 8 - (p.1 - 1) + k) % 8 = (n + 8 - p.1 + k) % 8 by omega]
    exact ⟨(h5 k (by omega)).1, (h5 k (by omega)).2.e (fun b hb => by rw [g2.2 b (by omega) (by omega), fo b (by omega)])⟩
