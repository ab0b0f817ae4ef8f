/-! runs that see the first B9 cells alone -/
section QPRE
variable {B9 : Nat}
def qrl (B9 : Nat) (ls : mz_L) : Prop := ∀ a, some (Value.ref a) ∈ ls → a < B9
def qrs (B9 : Nat) (st : List Value) : Prop := ∀ a, Value.ref a ∈ st → a < B9
theorem qrl.get {ls : mz_L} (h : qrl B9 ls) : ∀ {i a : Nat}, mz_ref (mz_get ls i) = some a → a < B9 := by
  intro i a e
  have hm : ∀ (l : mz_L) (i : Nat) (v : Value), mz_get l i = some v → some v ∈ l := by
    intro l
    induction l with
    | nil => intro i v e; simp [mz_get] at e
    | cons x l ih =>
      intro i v e
      cases i with
      | zero => simp only [mz_get] at e; rw [e]; exact List.mem_cons_self
      | succ i => exact List.mem_cons_of_mem _ (ih i v e)
  unfold mz_ref at e
  split at e
  · next x hx => cases e; exact h _ (hm ls i _ hx)
  · cases e
theorem qrl.put {v : Option Value} (hv : ∀ a, v = some (.ref a) → a < B9) : ∀ {ls : mz_L} {n : Nat}, qrl B9 ls → qrl B9 (mz_put ls n v)
  | [], n, h => h
  | x :: l, 0, h => fun a ha => by
    rcases List.mem_cons.mp ha with e | e
    · exact hv a e.symm
    · exact h a (List.mem_cons_of_mem _ e)
  | x :: l, n + 1, h => fun a ha => by
    have hl : qrl B9 l := fun a ha => h a (List.mem_cons_of_mem _ ha)
    rcases List.mem_cons.mp ha with e | e
    · cases n with
      | zero =>
        have e : some (Value.ref a) = mz_nw x := e
        unfold mz_nw at e
        split at e
        · cases e
        · cases e
        · exact h a (by rw [e]; exact List.mem_cons_self)
      | succ n => exact h a (by rw [show some (Value.ref a) = x from e]; exact List.mem_cons_self)
    · exact qrl.put hv hl a e
theorem qrs.tl {v : Value} {st : List Value} (h : qrs B9 (v :: st)) : qrs B9 st := fun a ha => h a (List.mem_cons_of_mem _ ha)
theorem qrs.hd {a : Nat} {st : List Value} (h : qrs B9 (.ref a :: st)) : a < B9 := h a List.mem_cons_self
theorem qrs.i {x : Int32} {st : List Value} (h : qrs B9 st) : qrs B9 (.int x :: st) := fun a ha => by
  rcases List.mem_cons.mp ha with e | e
  · cases e
  · exact h a e
theorem qrs.l {x : Int64} {st : List Value} (h : qrs B9 st) : qrs B9 (.long x :: st) := fun a ha => by
  rcases List.mem_cons.mp ha with e | e
  · cases e
  · exact h a e
theorem qrs.r {x : Nat} {st : List Value} (h : qrs B9 st) (hx : x < B9) : qrs B9 (.ref x :: st) := fun a ha => by
  rcases List.mem_cons.mp ha with e | e
  · cases e; exact hx
  · exact h a e
/-- the cells below B9 name cells below B9 -/
def qSKok (B9 : Nat) (SK : List mz_E) : Prop := (∀ b ci fs k x, b < B9 → mz_nth SK b = some (.inr (ci, fs)) → mz_nth fs k = some (some x) → x < B9) ∧ ∀ b t n rs i, b < B9 → mz_nth SK b = some (.inl (t, n, rs)) → rs.length = n → i < n → rs.getD i 0 < B9
set_option maxHeartbeats 4000000 in
theorem qstep {SK SK' : List mz_E} (hs : ∀ b, b < B9 → mz_nth SK' b = mz_nth SK b) (hk : qSKok B9 SK) {ins : Instr} {len a : Nat} {v : Int32} {pc : Nat} {ls : mz_L} {st : List Value} {M : mz_M} {k2 : mz_C} {P : List Prop} (h : mz_step SK ins len a v pc ls st M = some (k2, P)) (hP : ∀ x ∈ P, x) (h1 : qrl B9 ls) (h2 : qrs B9 st) : mz_step SK' ins len a v pc ls st M = some (k2, P) ∧ qrl B9 k2.2.1 ∧ qrs B9 k2.2.2.1 := by
  refine ⟨?_, ?_⟩
  · cases ins <;> first
      | exact h
      | (rename_i c9 o9; cases c9 <;> exact h)
      | (dsimp only [mz_step] at h ⊢
         split at h
         · next hst => rw [hs _ (h2 _ (by simp))]; exact h
         · cases h)
  · cases ins <;> (try (rename_i c _; cases c)) <;> dsimp only [mz_step, mz_bin, mz_if, mz_ic] at h <;> (try (cases h; done)) <;> (repeat' (split at h)) <;> (try (cases h; done)) <;> cases h <;> refine ⟨?_, ?_⟩ <;> dsimp only <;> first
      | exact h1
      | exact h2
      | exact h2.i
      | exact h2.l
      | exact h2.tl
      | exact h2.tl.i
      | exact h2.tl.l
      | exact h2.tl.tl
      | exact h2.tl.tl.i
      | exact h2.tl.tl.l
      | exact h2.tl.tl.tl
      | exact h1.put (fun a e => by cases e; exact h2.hd)
      | exact h1.put (fun a e => by cases e)
      | exact h2.r (h1.get (by assumption))
      | exact h2.r h2.hd
      | exact h2.i.i
      | exact (h2.tl.tl.i.r h2.tl.hd).i
      | exact (h2.i)
      | exact ((h2.tl.tl.r h2.tl.hd).i.r h2.tl.hd).i
      | exact h2.tl.r (hk.1 _ _ _ _ _ h2.hd (by assumption) (by assumption))
      | exact h2.tl.tl.r (hk.2 _ _ _ _ _ h2.tl.hd (by assumption) (hP _ (List.mem_cons_of_mem _ List.mem_cons_self)) (Nat.not_le.mp fun q => hP _ List.mem_cons_self (Or.inr q)))
theorem qrl.args {As : List Value} (h : qrs B9 As) : qrl B9 (mz_args As) := by
  induction As with
  | nil => intro a ha; cases ha
  | cons v l ih =>
    have ihl := ih h.tl
    intro a ha
    unfold mz_args at ha
    split at ha
    · rcases List.mem_cons.mp ha with e | e
      · exact h a (by rw [Option.some.inj e]; exact List.mem_cons_self)
      · rcases List.mem_cons.mp e with e | e
        · cases e
        · exact ihl a e
    · rcases List.mem_cons.mp ha with e | e
      · exact h a (by rw [Option.some.inj e]; exact List.mem_cons_self)
      · exact ihl a e
theorem qrl.pad : ∀ {n : Nat} {ls : mz_L}, qrl B9 ls → qrl B9 (mz_pad n ls)
  | 0, ls, h => fun a ha => by cases ha
  | n + 1, [], h => fun a ha => by
    rcases List.mem_cons.mp ha with e | e
    · cases e
    · exact qrl.pad (n := n) (ls := []) h a e
  | n + 1, x :: l, h => fun a ha => by
    rcases List.mem_cons.mp ha with e | e
    · exact h a (by rw [e]; exact List.mem_cons_self)
    · exact qrl.pad (n := n) (ls := l) (fun a ha => h a (List.mem_cons_of_mem _ ha)) a e
theorem qrun {SK SK' : List mz_E} (hs : ∀ b, b < B9 → mz_nth SK' b = mz_nth SK b) (hk : qSKok B9 SK) {tab : List mz_I} : ∀ (n : Nat) (I : mz_I) (k : mz_C) (res : mz_O), qrl B9 k.2.1 → qrs B9 k.2.2.1 → mz_run SK tab n I k res → mz_run SK' tab n I k res ∧ (∀ v, res.1 = some v → qrs B9 [v])
  | 0, I, k, res, h1, h2, h => h.elim
  | n + 1, I, k, res, h1, h2, h => by
    have ih := qrun hs hk (tab := tab) n
    obtain ⟨r, hf, hd⟩ := h
    have nr : ∀ {st rest : List Value} {x : Value}, qrs B9 rest → qrs B9 [x] → qrs B9 (x :: rest) := fun {st rest x} a b c hc => by
      rcases List.mem_cons.mp hc with e | e
      · exact b c (by rw [e]; exact List.mem_cons_self)
      · exact a c e
    suffices hh : mz_do SK' tab (mz_run SK' tab n) I r k res ∧ (∀ v, res.1 = some v → qrs B9 [v]) from ⟨⟨r, hf, hh.1⟩, hh.2⟩
    unfold mz_do at hd ⊢
    split at hd
    · next e0 =>
      obtain ⟨x, e1, e2, e3⟩ := hd
      exact ⟨⟨x, e1, e2, e3⟩, fun v hv => by rw [e2] at hv; cases hv; exact qrs.i (fun a ha => by cases ha)⟩
    · next e0 =>
      obtain ⟨x, e1, e2, e3⟩ := hd
      exact ⟨⟨x, e1, e2, e3⟩, fun v hv => by rw [e2] at hv; cases hv; exact qrs.l (fun a ha => by cases ha)⟩
    · next e0 =>
      obtain ⟨e1, e2, e3⟩ := hd
      exact ⟨⟨e1, e2, e3⟩, fun v hv => by rw [e2] at hv; cases hv⟩
    · next e0 =>
      obtain ⟨J, As, b, rest, fs, r1, a1, a2, a3, a4, a5, a6, a7, a8, a9⟩ := hd
      rw [a2] at h2
      have hb : b < B9 := h2 b (List.mem_append_right _ List.mem_cons_self)
      have hAs : qrs B9 (.ref b :: As) := fun a ha => by
        rcases List.mem_cons.mp ha with e | e
        · cases e; exact hb
        · exact h2 a (List.mem_append_left _ (List.mem_reverse.mpr e))
      have hrest : qrs B9 rest := fun a ha => h2 a (List.mem_append_right _ (List.mem_cons_of_mem _ ha))
      obtain ⟨g1, g2⟩ := ih _ _ _ (qrl.pad (qrl.args hAs)) (fun a ha => by cases ha) a8
      obtain ⟨g3, g4⟩ := ih I (k.1 + 3, k.2.1, r1.1.toList ++ rest, r1.2) res h1 (by
        show qrs B9 (r1.1.toList ++ rest)
        cases e1 : r1.1 with
        | none => exact hrest
        | some v => exact nr (st := []) hrest (g2 v e1)) a9
      exact ⟨⟨J, As, b, rest, fs, r1, a1, a2, a3, a4, by rw [hs b hb]; exact a5, a6, a7, g1, g3⟩, g4⟩
    · next e0 =>
      rcases hd with ⟨J, As, rest, r1, a1, a0, a0', a2, a3, a4, a6, a7, a8, a9⟩ | ⟨sp, dp, n9, b0, b, n0, n1, rs0, rs1, rest, a1, a2, a3, a4, a5, a6, a7, a8, a9, b1, b2⟩ | ⟨x, y, rest, a1, a2, a3, a4⟩
      · rw [a2] at h2
        have hAs : qrs B9 As := fun a ha => h2 a (List.mem_append_left _ (List.mem_reverse.mpr ha))
        have hrest : qrs B9 rest := fun a ha => h2 a (List.mem_append_right _ ha)
        obtain ⟨g1, g2⟩ := ih _ _ _ (qrl.pad (qrl.args hAs)) (fun a ha => by cases ha) a8
        obtain ⟨g3, g4⟩ := ih I (k.1 + 3, k.2.1, r1.1.toList ++ rest, r1.2) res h1 (by
          show qrs B9 (r1.1.toList ++ rest)
          cases e1 : r1.1 with
          | none => exact hrest
          | some v => exact nr (st := []) hrest (g2 v e1)) a9
        exact ⟨Or.inl ⟨J, As, rest, r1, a1, a0, a0', a2, a3, a4, a6, a7, g1, g3⟩, g4⟩
      · rw [a2] at h2
        have hb0 : b0 < B9 := h2 b0 (by simp)
        have hb : b < B9 := h2 b (by simp)
        obtain ⟨g3, g4⟩ := ih I (k.1 + 3, k.2.1, rest, _) res h1 (by show qrs B9 rest; exact fun a ha => h2 a (by simp [ha])) b2
        exact ⟨Or.inr (Or.inl ⟨sp, dp, n9, b0, b, n0, n1, rs0, rs1, rest, a1, a2, by rw [hs b0 hb0]; exact a3, by rw [hs b hb]; exact a4, a5, a6, a7, a8, a9, b1, g3⟩), g4⟩
      · rw [a2] at h2
        obtain ⟨g3, g4⟩ := ih I (k.1 + 3, k.2.1, .int (if y < x then y else x) :: rest, _) res h1 (by show qrs B9 (_ :: rest); exact qrs.i (fun a ha => h2 a (by simp [ha]))) a4
        exact ⟨Or.inr (Or.inr ⟨x, y, rest, a1, a2, a3, g3⟩), g4⟩
    · obtain ⟨k2, P, a1, a2, a3⟩ := hd
      obtain ⟨s1, s2, s3⟩ := qstep hs hk a1 a2 h1 h2
      obtain ⟨g3, g4⟩ := ih _ _ _ s2 s3 a3
      exact ⟨⟨k2, P, s1, a2, g3⟩, g4⟩
end QPRE
/-- the class's own cells; and all but the law's own row -/
def mq_sk77 : List mz_E := mq_sk.take 77
def mq_sk91 : List mz_E := mq_sk.take 91
theorem mz_nth_take {α : Type} : ∀ (l : List α) (n b : Nat), b < n → mz_nth (l.take n) b = mz_nth l b
  | [], n, b, h => by simp
  | a :: l, 0, b, h => absurd h (Nat.not_lt_zero b)
  | a :: l, n + 1, 0, h => rfl
  | a :: l, n + 1, b + 1, h => mz_nth_take l n b (by omega)
def qSKb (N : Nat) (SK : List mz_E) : Bool := (List.range N).all fun b => match mz_nth SK b with
  | some (.inr (_, fs)) => fs.all (fun o => match o with
    | some x => decide (x < N)
    | none => true)
  | some (.inl (_, _, rs)) => rs.all (fun x => decide (x < N))
  | none => true
theorem qSKb_ok {N : Nat} {SK : List mz_E} (hb : qSKb N SK = true) : qSKok N SK := by
  have h0 : ∀ b, b < N → _ := fun b hb1 => List.all_eq_true.mp hb b (List.mem_range.mpr hb1)
  refine ⟨fun b ci fs k x hb h1 h2 => ?_, fun b t n rs i hb h1 h2 h3 => ?_⟩
  · have h := h0 b hb
    rw [h1] at h
    have := List.all_eq_true.mp h _ (mz_nth_mem h2)
    exact of_decide_eq_true this
  · have h := h0 b hb
    rw [h1] at h
    have hi : i < rs.length := by omega
    rw [List.getD_eq_getElem?_getD, List.getElem?_eq_getElem hi]
    exact of_decide_eq_true (List.all_eq_true.mp h _ (List.getElem_mem hi))
theorem q77 {J : mz_I} {As : List Value} {M : mz_M} {r : mz_O} (h : mq_C J As M r) (hA : qrs 77 As) : mz_Call mq_sk77 mq_tab J As M r := by
  obtain ⟨n, h⟩ := h
  exact ⟨n, (qrun (fun b hb => mz_nth_take mq_sk 77 b hb) (qSKb_ok (by decide +kernel)) n _ _ _ (qrl.pad (qrl.args hA)) (fun a ha => by cases ha) h).1⟩
theorem q91 {J : mz_I} {As : List Value} {M : mz_M} {r : mz_O} (h : mq_C J As M r) (hA : qrs 91 As) : mz_Call mq_sk91 mq_tab J As M r := by
  obtain ⟨n, h⟩ := h
  exact ⟨n, (qrun (fun b hb => mz_nth_take mq_sk 91 b hb) (qSKb_ok (by decide +kernel)) n _ _ _ (qrl.pad (qrl.args hA)) (fun a ha => by cases ha) h).1⟩
