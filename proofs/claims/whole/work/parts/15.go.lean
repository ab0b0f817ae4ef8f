/-! runs, whatever their length -/
def mz_Go (SK : List mz_E) (tab : List mz_I) (I : mz_I) (k : mz_C) (res : mz_O) : Prop := ∃ n, mz_run SK tab n I k res
def mz_stp (SK : List mz_E) (I : mz_I) (k : mz_C) : Option (mz_C × List Prop) := match mz_find k.1 (mz_rows I) with
  | some r => mz_step SK r.2.1 r.2.2.1 r.2.2.2.1 r.2.2.2.2.1 k.1 k.2.1 k.2.2.1 k.2.2.2
  | none => none
def mz_stps (SK : List mz_E) (I : mz_I) : Nat → mz_C → Option (mz_C × List Prop)
  | 0, k => some (k, [])
  | n + 1, k => match mz_stp SK I k with
    | some (k2, P) => (match mz_stps SK I n k2 with
      | some (k3, P3) => some (k3, P ++ P3)
      | none => none)
    | none => none
section MZG
variable {SK : List mz_E} {tab : List mz_I} {I J : mz_I} {res : mz_O}
theorem mz_Go.step {k k2 : mz_C} {P : List Prop} (h : mz_stp SK I k = some (k2, P)) (hP : ∀ x ∈ P, x) (g : mz_Go SK tab I k2 res) : mz_Go SK tab I k res := by
  obtain ⟨n, g⟩ := g
  unfold mz_stp at h
  split at h
  · next r hr =>
    refine ⟨n + 1, r, hr, ?_⟩
    obtain ⟨pc, ins, len, a, v, j⟩ := r
    cases ins <;> first | exact ⟨k2, P, h, hP, g⟩ | (exfalso; dsimp only [mz_step] at h; cases h; done)
  · cases h
theorem mz_Go.steps : ∀ {n : Nat} {k k2 : mz_C} {P : List Prop}, mz_stps SK I n k = some (k2, P) → (∀ x ∈ P, x) → mz_Go SK tab I k2 res → mz_Go SK tab I k res
  | 0, k, k2, P, h, hP, g => by
    simp only [mz_stps, Option.some.injEq, Prod.mk.injEq] at h
    rw [h.1]
    exact g
  | n + 1, k, k2, P, h, hP, g => by
    unfold mz_stps at h
    split at h
    · next k1 P1 h1 =>
      split at h
      · next k3 P3 h3 =>
        simp only [Option.some.injEq, Prod.mk.injEq] at h
        obtain ⟨rfl, rfl⟩ := h
        exact mz_Go.step h1 (fun x hx => hP x (List.mem_append_left _ hx)) (mz_Go.steps h3 (fun x hx => hP x (List.mem_append_right _ hx)) g)
      · cases h
    · cases h
theorem mz_Go.ite {c : Prop} {a b : Nat} {r : mz_L × List Value × mz_M} {hd : Decidable c} (h1 : c → mz_Go SK tab I (a, r) res) (h2 : ¬ c → mz_Go SK tab I (b, r) res) : mz_Go SK tab I (@ite Nat c hd a b, r) res := by
  by_cases h : c
  · rw [if_pos h]; exact h1 h
  · rw [if_neg h]; exact h2 h
theorem mz_Go.iret {pc len a j : Nat} {v x : Int32} {ls : mz_L} {M : mz_M} (hf : mz_find pc (mz_rows I) = some (pc, .ireturn, len, a, v, j)) (hr : mz_rt I = some .int) : mz_Go SK tab I (pc, ls, [.int x], M) (some (.int x), M) :=
  ⟨1, _, hf, x, rfl, rfl, Or.inl hr⟩
theorem mz_Go.zret {pc len a j : Nat} {v x : Int32} {ls : mz_L} {M : mz_M} (hf : mz_find pc (mz_rows I) = some (pc, .ireturn, len, a, v, j)) (hr : mz_rt I = some .boolean) (hx : x = 0 ∨ x = 1) : mz_Go SK tab I (pc, ls, [.int x], M) (some (.int x), M) :=
  ⟨1, _, hf, x, rfl, rfl, Or.inr ⟨hr, hx⟩⟩
theorem mz_Go.lret {pc len a j : Nat} {v : Int32} {x : Int64} {ls : mz_L} {M : mz_M} (hf : mz_find pc (mz_rows I) = some (pc, .lreturn, len, a, v, j)) (hr : mz_rt I = some .long) : mz_Go SK tab I (pc, ls, [.long x], M) (some (.long x), M) :=
  ⟨1, _, hf, x, rfl, rfl, hr⟩
theorem mz_Go.vret {pc len a j : Nat} {v : Int32} {ls : mz_L} {M : mz_M} (hf : mz_find pc (mz_rows I) = some (pc, .return_, len, a, v, j)) (hr : mz_rt I = none) : mz_Go SK tab I (pc, ls, [], M) (none, M) :=
  ⟨1, _, hf, rfl, rfl, hr⟩
/-- a method's answer and what it leaves -/
def mz_Call (SK : List mz_E) (tab : List mz_I) (J : mz_I) (As : List Value) (M : mz_M) (r : mz_O) : Prop := mz_Go SK tab J (0, mz_pad (mz_nL J) (mz_args As), [], M) r
theorem mz_Go.callV {pc len a j i b : Nat} {v : Int32} {ls : mz_L} {st rest As : List Value} {M : mz_M} {fs : List (Option Nat)} {r1 : mz_O} (hf : mz_find pc (mz_rows I) = some (pc, .invokevirtual i, len, a, v, j)) (hJ : mz_nth tab a = some J) (hb : mz_nth SK b = some (.inr (mz_ci J, fs))) (hst : st = As.reverse ++ .ref b :: rest) (h3 : As.length = mz_np J) (h4 : mz_sta J = false) (h5 : (rest.map fun v => v.category).sum ≤ 8) (h6 : (lg_sl (Value.ref b :: As)).length ≤ mz_nL J)
    (hc : mz_Call SK tab J (.ref b :: As) M r1) (g : mz_Go SK tab I (pc + 3, ls, r1.1.toList ++ rest, r1.2) res) : mz_Go SK tab I (pc, ls, st, M) res := by
  obtain ⟨n1, hc⟩ := hc
  obtain ⟨n2, g⟩ := g
  exact ⟨max n1 n2 + 1, _, hf, J, As, b, rest, fs, r1, hJ, hst, h3, h4, hb, h5, h6, mz_run_le (Nat.le_max_left _ _) hc, mz_run_le (Nat.le_max_right _ _) g⟩
theorem mz_Go.callS {pc len a j i : Nat} {v : Int32} {ls : mz_L} {st rest As : List Value} {M : mz_M} {r1 : mz_O} (hf : mz_find pc (mz_rows I) = some (pc, .invokestatic i, len, a, v, j)) (hJ : mz_nth tab a = some J) (h0 : ¬ a = 1000) (hst : st = As.reverse ++ rest) (h3 : As.length = mz_np J) (h4 : mz_sta J = true) (h5 : (rest.map fun v => v.category).sum ≤ 8) (h6 : (lg_sl As).length ≤ mz_nL J)
    (hc : mz_Call SK tab J As M r1) (g : mz_Go SK tab I (pc + 3, ls, r1.1.toList ++ rest, r1.2) res) : mz_Go SK tab I (pc, ls, st, M) res := by
  obtain ⟨n1, hc⟩ := hc
  obtain ⟨n2, g⟩ := g
  exact ⟨max n1 n2 + 1, _, hf, Or.inl ⟨J, As, rest, r1, hJ, h0, hst, h3, h4, h5, h6, mz_run_le (Nat.le_max_left _ _) hc, mz_run_le (Nat.le_max_right _ _) g⟩⟩
theorem mz_Go.copy {pc len j i b0 b n0 n1 : Nat} {v sp dp n : Int32} {ls : mz_L} {rest : List Value} {M : mz_M} {rs0 rs1 : List Nat} (hf : mz_find pc (mz_rows I) = some (pc, .invokestatic i, len, 1000, v, j)) (h0 : mz_nth SK b0 = some (.inl (0, n0, rs0))) (h1 : mz_nth SK b = some (.inl (0, n1, rs1))) (h2 : ¬ sp < 0) (h3 : ¬ dp < 0) (h4 : ¬ n < 0) (h5 : sp.toNatClampNeg + n.toNatClampNeg ≤ n0) (h6 : dp.toNatClampNeg + n.toNatClampNeg ≤ n1) (h7 : (rest.map fun v => v.category).sum ≤ 8)
    (g : mz_Go SK tab I (pc + 3, ls, rest, mz_wr M b (va_cpy (M.1 b0) (M.1 b) sp.toNatClampNeg dp.toNatClampNeg n.toNatClampNeg)) res) : mz_Go SK tab I (pc, ls, .int n :: .int dp :: .ref b :: .int sp :: .ref b0 :: rest, M) res := by
  obtain ⟨n2, g⟩ := g
  exact ⟨n2 + 1, _, hf, Or.inr ⟨sp, dp, n, b0, b, n0, n1, rs0, rs1, rest, rfl, rfl, h0, h1, h2, h3, h4, h5, h6, h7, g⟩⟩
end MZG
