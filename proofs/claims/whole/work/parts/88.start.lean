/-! what the class holds when it is new -/
def q_s0 : zSg := (znew 7 2, none, (0, fun _ => znew 7 2), (0, fun _ => 0), (0, fun _ => 0))
theorem q_z7 : (7, 2, 2) ∈ zirrs := List.mem_cons_self
/-- settle(7), then start(7), over cells that are all nought -/
theorem q_start : ∃ M1 M2, mq_C mq_X0_settle [.ref 2, .int (nI 7)] mq_z0 (none, M1) ∧ mq_C mq_X7_start [.ref 8, .int (nI 7)] M1 (none, M2) ∧ zQ q_s0 M2 ∧ ∀ c, (77 ≤ c ∨ c = 75 ∨ c = 76) → M2.1 c = (fun _ => 0) ∧ M2.2 c = (fun _ => 0) := by
  obtain ⟨M1, l1, l2, l3⟩ := s_X0_settle (P := 7) (m := 2) (g := 2) q_z7 mq_z0
  obtain ⟨M2, k1, k2, k3⟩ := s_X7_start (P := 7) (m := 2) ycs8 (by decide) M1
  have e : ∀ c, (c = 0 ∨ 14 ≤ c) → M2.1 c = (fun _ => 0) := fun c hc => by
    rw [k2.2 c (by omega) (by omega), l2.2 c (by simp; omega)]
    rfl
  have e2 : M2.2 = fun _ _ => 0 := by rw [k2.1, l2.1]; rfl
  refine ⟨M1, M2, l1, k1, ⟨znew_ok q_z7, l3.e (k2.2 2 (by decide) (by decide)) (k2.2 3 (by decide) (by decide)) (k2.2 4 (by decide) (by decide)), k3, ?_, ⟨Nat.zero_le _, ?_, 0, by decide, ?_, fun k hk => absurd hk (Nat.not_lt_zero k)⟩, ⟨Nat.zero_le _, ?_, fun k hk => absurd hk (Nat.not_lt_zero k)⟩, ⟨Nat.zero_le _, ?_, fun k hk => absurd hk (Nat.not_lt_zero k)⟩⟩, fun c hc => ⟨e c (by omega), by rw [e2]⟩⟩
  · show M2.1 0 10 = 0
    rw [e 0 (by decide)]
  · rw [e 20 (by decide)]
    rfl
  · rw [e 20 (by decide)]
    rfl
  · rw [e 70 (by decide)]
    rfl
  · rw [e 73 (by decide)]
    rfl
/-- fields(7), the reference's cells being nought: both sides hold the same -/
theorem q_fields {M : mz_M} (hQ : zQ q_s0 M) (h0 : ∀ c, 77 ≤ c → M.1 c = (fun _ => 0)) : ∃ M', mq_C mq_X10_fields [.ref 77, .int (nI 7)] M (none, M') ∧ zBo q_s0 M' ∧ M'.2 = M.2 := by
  have hg : fgood 7 2 := (zirrs_ok _ q_z7).1
  have hK : zK [77, 78] M (mz_wr M 78 (upd (M.1 78) 0 (nI 7))) := zK.wr (by simp)
  obtain ⟨M', k1, k2, k3, k4, k5, k6, k7⟩ := s_X10_fields_9 hg 4 0 (mz_wr M 78 (upd (M.1 78) 0 (nI 7))) none rfl (by rw [zwr_s, zupd_s]) (fun t ht => absurd ht (Nat.not_lt_zero t))
  have e : ∀ k, ¬ k = 11 → ¬ k = 12 → M'.1 77 k = 0 := fun k a b => by rw [k3 k a b, zwr_n (by decide), h0 77 (by decide)]
  have k2' := hK.tr k2
  refine ⟨M', t_X10_fields_0 _ _ ⟨zn_in (a := 0) (by decide) (by decide), fun M1 e1 => by rw [e1]; exact k1⟩, ⟨hQ.L (fun c hc => ⟨k2'.2 c (by simp; omega), by rw [k2'.1]⟩), ⟨znew_ok q_z7, ⟨k6, fun s hs i hi => ?_⟩, k4, k5⟩, ?_, ⟨Nat.zero_le _, ?_, fun k hk => absurd hk (Nat.not_lt_zero k)⟩, ⟨Nat.zero_le _, ?_, fun k hk => absurd hk (Nat.not_lt_zero k)⟩, ⟨Nat.zero_le _, ?_, fun k hk => absurd hk (Nat.not_lt_zero k)⟩⟩, k2'.1⟩
  · rw [show 0 + 1 + 8 * s + i = 1 + 8 * s + i by omega]
    exact k7 s hs i hi
  · show M'.1 77 3 = 0
    exact e 3 (by decide) (by decide)
  · exact e 5 (by decide) (by decide)
  · exact e 7 (by decide) (by decide)
  · exact e 9 (by decide) (by decide)
