/-! runs, whatever their length -/
def mz_Go (SK : List mz_E) (tab : List mz_I) (I : mz_I) (k : mz_C) (res : mz_O) : Prop := ∃ n, mz_run SK tab n I k res
def mz_stp (SK : List mz_E) (I : mz_I) (k : mz_C) : Option (mz_C × List Prop) := match mz_find k.1 (mz_rows I) with
  | some r => mz_step SK r.2.1 r.2.2.1 r.2.2.2.1 r.2.2.2.2.1 k.1 k.2.1 k.2.2.1 k.2.2.2
  | none => none
def mz_stps (SK : List mz_E) (I : mz_I) : Nat → mz_C → Option (mz_C × List Prop)
  | 0, k => some (k, [])
  | n + 1, k => match mz_stp SK I k with
    | some (k2, P) => (match mz_stps SK I n k2 with
      | some (k3, P3) => some (k3, P ++ P3)
      | none => none)
    | none => none
section MZG
variable {SK : List mz_E} {tab : List mz_I} {I J : mz_I} {res : mz_O}
theorem mz_Go.step {k k2 : mz_C} {P : List Prop} (h : mz_stp SK I k = some (k2, P)) (hP : ∀ x ∈ P, x) (g : mz_Go SK tab I k2 res) : mz_Go SK tab I k res := by
  obtain ⟨n, g⟩ := g
  unfold mz_stp at h
  split at h
  · next r hr =>
    refine ⟨n + 1, r, hr, ?_⟩
    obtain ⟨pc, ins, len, a, v, j⟩ := r
    cases ins <;> first | exact ⟨k2, P, h, hP, g⟩ | (exfalso; dsimp only [mz_step] at h; cases h; done)
  · cases h
theorem mz_Go.steps : ∀ {n : Nat} {k k2 : mz_C} {P : List Prop}, mz_stps SK I n k = some (k2, P) → (∀ x ∈ P, x) → mz_Go SK tab I k2 res → mz_Go SK tab I k res
  | 0, k, k2, P, h, hP, g => by
    simp only [mz_stps, Option.some.injEq, Prod.mk.injEq] at h
    rw [h.1]
    exact g
  | n + 1, k, k2, P, h, hP, g => by
    unfold mz_stps at h
    split at h
    · next k1 P1 h1 =>
      split at h
      · next k3 P3 h3 =>
        simp only [Option.some.injEq, Prod.mk.injEq] at h
        obtain ⟨rfl, rfl⟩ := h
        exact mz_Go.step h1 (fun x hx => hP x (List.mem_append_left _ hx)) (mz_Go.steps h3 (fun x hx => hP x (List.mem_append_right _ hx)) g)
      · cases h
    · cases h
theorem mz_Go.ite {c : Prop} {a b : Nat} {r : mz_L × List Value × mz_M} {hd : Decidable c} (h1 : c → mz_Go SK tab I (a, r) res) (h2 : ¬ c → mz_Go SK tab I (b, r) res) : mz_Go SK tab I (@ite Nat c hd a b, r) res := by
  by_cases h : c
  · rw [if_pos h]; exact h1 h
  · rw [if_neg h]; exact h2 h
theorem mz_Go.iret {pc len a j : Nat} {v x : Int32} {ls : mz_L} {M : mz_M} (hf : mz_find pc (mz_rows I) = some (pc, .ireturn, len, a, v, j)) (hr : mz_rt I = some .int) : mz_Go SK tab I (pc, ls, [.int x], M) (some (.int x), M) :=
  ⟨1, _, hf, x, rfl, rfl, Or.inl hr⟩
theorem mz_Go.zret {pc len a j : Nat} {v x : Int32} {ls : mz_L} {M : mz_M} (hf : mz_find pc (mz_rows I) = some (pc, .ireturn, len, a, v, j)) (hr : mz_rt I = some .boolean) (hx : x = 0 ∨ x = 1) : mz_Go SK tab I (pc, ls, [.int x], M) (some (.int x), M) :=
  ⟨1, _, hf, x, rfl, rfl, Or.inr ⟨hr, hx⟩⟩
theorem mz_Go.lret {pc len a j : Nat} {v : Int32} {x : Int64} {ls : mz_L} {M : mz_M} (hf : mz_find pc (mz_rows I) = some (pc, .lreturn, len, a, v, j)) (hr : mz_rt I = some .long) : mz_Go SK tab I (pc, ls, [.long x], M) (some (.long x), M) :=
  ⟨1, _, hf, x, rfl, rfl, hr⟩
theorem mz_Go.vret {pc len a j : Nat} {v : Int32} {ls : mz_L} {M : mz_M} (hf : mz_find pc (mz_rows I) = some (pc, .return_, len, a, v, j)) (hr : mz_rt I = none) : mz_Go SK tab I (pc, ls, [], M) (none, M) :=
  ⟨1, _, hf, rfl, rfl, hr⟩
/-- a method's answer and what it leaves -/
def mz_Call (SK : List mz_E) (tab : List mz_I) (J : mz_I) (As : List Value) (M : mz_M) (r : mz_O) : Prop := mz_Go SK tab J (0, mz_pad (mz_nL J) (mz_args As), [], M) r
theorem mz_Go.callV {pc len a j i b : Nat} {v : Int32} {ls : mz_L} {st rest As : List Value} {M : mz_M} {fs : List (Option Nat)} {r1 : mz_O} (hf : mz_find pc (mz_rows I) = some (pc, .invokevirtual i, len, a, v, j)) (hJ : mz_nth tab a = some J) (hb : mz_nth SK b = some (.inr (mz_ci J, fs))) (hst : st = As.reverse ++ .ref b :: rest) (h3 : As.length = mz_np J) (h4 : mz_sta J = false) (h5 : (rest.map fun v => v.category).sum ≤ 8) (h6 : (lg_sl (Value.ref b :: As)).length ≤ mz_nL J)
    (hc : mz_Call SK tab J (.ref b :: As) M r1) (g : mz_Go SK tab I (pc + 3, ls, r1.1.toList ++ rest, r1.2) res) : mz_Go SK tab I (pc, ls, st, M) res := by
  obtain ⟨n1, hc⟩ := hc
  obtain ⟨n2, g⟩ := g
  exact ⟨max n1 n2 + 1, _, hf, J, As, b, rest, fs, r1, hJ, hst, h3, h4, hb, h5, h6, mz_run_le (Nat.le_max_left _ _) hc, mz_run_le (Nat.le_max_right _ _) g⟩
theorem mz_Go.callS {pc len a j i : Nat} {v : Int32} {ls : mz_L} {st rest As : List Value} {M : mz_M} {r1 : mz_O} (hf : mz_find pc (mz_rows I) = some (pc, .invokestatic i, len, a, v, j)) (hJ : mz_nth tab a = some J) (h0 : ¬ a = 1000 ∧ ¬ a = 1001) (hst : st = As.reverse ++ rest) (h3 : As.length = mz_np J) (h4 : mz_sta J = true) (h5 : (rest.map fun v => v.category).sum ≤ 8) (h6 : (lg_sl As).length ≤ mz_nL J)
    (hc : mz_Call SK tab J As M r1) (g : mz_Go SK tab I (pc + 3, ls, r1.1.toList ++ rest, r1.2) res) : mz_Go SK tab I (pc, ls, st, M) res := by
  obtain ⟨n1, hc⟩ := hc
  obtain ⟨n2, g⟩ := g
  exact ⟨max n1 n2 + 1, _, hf, Or.inl ⟨J, As, rest, r1, hJ, h0.1, h0.2, hst, h3, h4, h5, h6, mz_run_le (Nat.le_max_left _ _) hc, mz_run_le (Nat.le_max_right _ _) g⟩⟩
theorem mz_Go.copy {pc len j i b0 b n0 n1 : Nat} {v sp dp n : Int32} {ls : mz_L} {rest : List Value} {M : mz_M} {rs0 rs1 : List Nat} (hf : mz_find pc (mz_rows I) = some (pc, .invokestatic i, len, 1000, v, j)) (h0 : mz_nth SK b0 = some (.inl (0, n0, rs0))) (h1 : mz_nth SK b = some (.inl (0, n1, rs1))) (h2 : ¬ sp < 0) (h3 : ¬ dp < 0) (h4 : ¬ n < 0) (h5 : sp.toNatClampNeg + n.toNatClampNeg ≤ n0) (h6 : dp.toNatClampNeg + n.toNatClampNeg ≤ n1) (h7 : (rest.map fun v => v.category).sum ≤ 8)
    (g : mz_Go SK tab I (pc + 3, ls, rest, mz_wr M b (va_cpy (M.1 b0) (M.1 b) sp.toNatClampNeg dp.toNatClampNeg n.toNatClampNeg)) res) : mz_Go SK tab I (pc, ls, .int n :: .int dp :: .ref b :: .int sp :: .ref b0 :: rest, M) res := by
  obtain ⟨n2, g⟩ := g
  exact ⟨n2 + 1, _, hf, Or.inr (Or.inl ⟨sp, dp, n, b0, b, n0, n1, rs0, rs1, rest, rfl, rfl, h0, h1, h2, h3, h4, h5, h6, h7, g⟩)⟩
theorem mz_Go.mmin {pc len j i : Nat} {v x y : Int32} {ls : mz_L} {rest : List Value} {M : mz_M} (hf : mz_find pc (mz_rows I) = some (pc, .invokestatic i, len, 1001, v, j)) (h7 : (rest.map fun v => v.category).sum ≤ 8) (g : mz_Go SK tab I (pc + 3, ls, .int (if y < x then y else x) :: rest, M) res) : mz_Go SK tab I (pc, ls, .int y :: .int x :: rest, M) res := by
  obtain ⟨n2, g⟩ := g
  exact ⟨n2 + 1, _, hf, Or.inr (Or.inr ⟨x, y, rest, rfl, rfl, h7, g⟩)⟩
theorem mz_Go.tsw {x : Int32} {hi : Int} {offs : Array Int} {a pc : Nat} {r : mz_L × List Value × mz_M} (h0 : (x.toInt < 0 ∨ hi < x.toInt) → mz_Go SK tab I (a, r) res) (h1 : ∀ k : Nat, (k : Int) ≤ hi → x.toInt = k → mz_Go SK tab I (((pc : Int) + offs.getD k 0).toNat, r) res) : mz_Go SK tab I (if x.toInt < 0 ∨ hi < x.toInt then a else ((pc : Int) + offs.getD (x.toInt - 0).toNat 0).toNat, r) res := by
  by_cases h : x.toInt < 0 ∨ hi < x.toInt
  · rw [if_pos h]; exact h0 h
  · rw [if_neg h]
    have h2 := h1 x.toInt.toNat (by omega) (by omega)
    rw [show (x.toInt - 0).toNat = x.toInt.toNat by omega]
    exact h2
/-! single rows, where the cell is told by a hypothesis -/
theorem mz_Go.iald {pc len a j r n : Nat} {v i : Int32} {ls : mz_L} {q : List Value} {M : mz_M} {rs : List Nat} (hf : mz_find pc (mz_rows I) = some (pc, .iaload, len, a, v, j)) (hr : mz_nth SK r = some (.inl (0, n, rs))) (hi : vp_in i n) (g : mz_Go SK tab I (pc + 1, ls, .int (M.1 r i.toNatClampNeg) :: q, M) res) : mz_Go SK tab I (pc, ls, .int i :: .ref r :: q, M) res := by
  refine mz_Go.step (k2 := (pc + 1, ls, .int (M.1 r i.toNatClampNeg) :: q, M)) (P := [vp_in i n]) ?_ (fun x hx => by rw [List.mem_singleton.mp hx]; exact hi) g
  simp only [mz_stp, hf, mz_step, hr]
theorem mz_Go.iast {pc len a j r n : Nat} {v i x : Int32} {ls : mz_L} {q : List Value} {M : mz_M} {rs : List Nat} (hf : mz_find pc (mz_rows I) = some (pc, .iastore, len, a, v, j)) (hr : mz_nth SK r = some (.inl (0, n, rs))) (hi : vp_in i n) (g : mz_Go SK tab I (pc + 1, ls, q, mz_wr M r (upd (M.1 r) i.toNatClampNeg x)) res) : mz_Go SK tab I (pc, ls, .int x :: .int i :: .ref r :: q, M) res := by
  refine mz_Go.step (k2 := (pc + 1, ls, q, mz_wr M r (upd (M.1 r) i.toNatClampNeg x))) (P := [vp_in i n]) ?_ (fun x hx => by rw [List.mem_singleton.mp hx]; exact hi) g
  simp only [mz_stp, hf, mz_step, hr]
theorem mz_Go.alen {pc len a j r t n : Nat} {v : Int32} {ls : mz_L} {q : List Value} {M : mz_M} {rs : List Nat} (hf : mz_find pc (mz_rows I) = some (pc, .arraylength, len, a, v, j)) (hr : mz_nth SK r = some (.inl (t, n, rs))) (g : mz_Go SK tab I (pc + 1, ls, .int (Int32.ofNat n) :: q, M) res) : mz_Go SK tab I (pc, ls, .ref r :: q, M) res := by
  refine mz_Go.step (k2 := (pc + 1, ls, .int (Int32.ofNat n) :: q, M)) (P := []) ?_ (fun x hx => nomatch hx) g
  simp only [mz_stp, hf, mz_step, hr]
theorem mz_Go.aald {pc len a j r n t : Nat} {v i : Int32} {ls : mz_L} {q : List Value} {M : mz_M} {rs : List Nat} (hf : mz_find pc (mz_rows I) = some (pc, .aaload, len, a, v, j)) (hr : mz_nth SK r = some (.inl (t + 3, n, rs))) (hi : vp_in i n) (hn : rs.length = n) (g : mz_Go SK tab I (pc + 1, ls, .ref (rs.getD i.toNatClampNeg 0) :: q, M) res) : mz_Go SK tab I (pc, ls, .int i :: .ref r :: q, M) res := by
  refine mz_Go.step (k2 := (pc + 1, ls, .ref (rs.getD i.toNatClampNeg 0) :: q, M)) (P := [vp_in i n, rs.length = n]) ?_ (fun x hx => by
    rcases List.mem_cons.mp hx with h | h
    · rw [h]; exact hi
    · rw [List.mem_singleton.mp h]; exact hn) g
  simp only [mz_stp, hf, mz_step, hr]
theorem mz_Go.getI {pc len a j r ci i : Nat} {v : Int32} {ls : mz_L} {q : List Value} {M : mz_M} {fs : List (Option Nat)} (hf : mz_find pc (mz_rows I) = some (pc, .getfield i, len, a, v, j)) (hr : mz_nth SK r = some (.inr (ci, fs))) (hk : mz_nth fs (a % 64) = some none) (hc : Nat.beq ci (a / 64) = true) (g : mz_Go SK tab I (pc + 3, ls, .int (M.1 r (a % 64)) :: q, M) res) : mz_Go SK tab I (pc, ls, .ref r :: q, M) res := by
  refine mz_Go.step (k2 := (pc + 3, ls, .int (M.1 r (a % 64)) :: q, M)) (P := []) ?_ (fun x hx => nomatch hx) g
  simp only [mz_stp, hf, mz_step, hr, hk, hc]
theorem mz_Go.getR {pc len a j r ci i z : Nat} {v : Int32} {ls : mz_L} {q : List Value} {M : mz_M} {fs : List (Option Nat)} (hf : mz_find pc (mz_rows I) = some (pc, .getfield i, len, a, v, j)) (hr : mz_nth SK r = some (.inr (ci, fs))) (hk : mz_nth fs (a % 64) = some (some z)) (hc : Nat.beq ci (a / 64) = true) (g : mz_Go SK tab I (pc + 3, ls, .ref z :: q, M) res) : mz_Go SK tab I (pc, ls, .ref r :: q, M) res := by
  refine mz_Go.step (k2 := (pc + 3, ls, .ref z :: q, M)) (P := []) ?_ (fun x hx => nomatch hx) g
  simp only [mz_stp, hf, mz_step, hr, hk, hc]
theorem mz_Go.putI {pc len a j r ci i : Nat} {x : Int32} {ls : mz_L} {q : List Value} {M : mz_M} {fs : List (Option Nat)} (hf : mz_find pc (mz_rows I) = some (pc, .putfield i, len, a, 0, j)) (hr : mz_nth SK r = some (.inr (ci, fs))) (hk : mz_nth fs (a % 64) = some none) (hc : Nat.beq ci (a / 64) = true) (g : mz_Go SK tab I (pc + 3, ls, q, mz_wr M r (upd (M.1 r) (a % 64) x)) res) : mz_Go SK tab I (pc, ls, .int x :: .ref r :: q, M) res := by
  refine mz_Go.step (k2 := (pc + 3, ls, q, mz_wr M r (upd (M.1 r) (a % 64) x))) (P := []) ?_ (fun x hx => nomatch hx) g
  simp only [mz_stp, hf, mz_step, hr, hk, hc]
  rfl
end MZG
theorem mz_o0 : ∀ x ∈ ([] : List Prop), x := fun _ h => nomatch h
theorem mz_o1 {a : Prop} (h : a) : ∀ x ∈ [a], x := fun x hx => by rw [List.mem_singleton.mp hx]; exact h
theorem mz_oc {a : Prop} {l : List Prop} (h : a) (hl : ∀ x ∈ l, x) : ∀ x ∈ a :: l, x := fun x hx => by
  rcases List.mem_cons.mp hx with q | q
  · rw [q]; exact h
  · exact hl x q
theorem mz_o2 {a b : Prop} (h : a) (h2 : b) : ∀ x ∈ [a, b], x := mz_oc h (mz_o1 h2)
theorem mz_o3 {a b c : Prop} (h : a) (h2 : b) (h3 : c) : ∀ x ∈ [a, b, c], x := mz_oc h (mz_o2 h2 h3)
theorem mz_o4 {a b c d : Prop} (h : a) (h2 : b) (h3 : c) (h4 : d) : ∀ x ∈ [a, b, c, d], x := mz_oc h (mz_o3 h2 h3 h4)
theorem mz_o5 {a b c d e : Prop} (h : a) (h2 : b) (h3 : c) (h4 : d) (h5 : e) : ∀ x ∈ [a, b, c, d, e], x := mz_oc h (mz_o4 h2 h3 h4 h5)
theorem mz_o6 {a b c d e f : Prop} (h : a) (h2 : b) (h3 : c) (h4 : d) (h5 : e) (h6 : f) : ∀ x ∈ [a, b, c, d, e, f], x := mz_oc h (mz_o5 h2 h3 h4 h5 h6)
