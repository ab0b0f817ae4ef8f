/-! from the small machine to the machine: cells, locals -/
def mz_cv (ad : Nat → Nat) (v : Value) : Value := match v with
  | .ref k => .ref (ad k)
  | w => w
theorem mz_cv_cat (ad : Nat → Nat) (v : Value) : (mz_cv ad v).category = v.category := by cases v <;> rfl
theorem mz_sum (ad : Nat → Nat) (l : List Value) : ((l.map (mz_cv ad)).map fun v => v.category).sum = (l.map fun v => v.category).sum := by
  induction l with
  | nil => rfl
  | cons a l ih => simp only [List.map_cons, List.sum_cons, mz_cv_cat, ih]
def mz_con (ad : Nat → Nat) (M : mz_M) (k t : Nat) (rs : List Nat) : (Nat → Int32) ⊕ (Nat → Int64) ⊕ (Nat → UInt32) ⊕ (Nat → UInt64) ⊕ (Nat → Option Nat) := match t with
  | 0 => .inl (M.1 k)
  | 1 => .inl (M.1 k)
  | 2 => .inr (.inl (M.2 k))
  | _ + 3 => .inr (.inr (.inr (.inr (fun j => if j < rs.length then some (ad (rs.getD j 0)) else none))))
def mz_fs (ad : Nat → Nat) (M : mz_M) (k : Nat) : Nat → List (Option Nat) → List Value
  | _, [] => []
  | i, none :: r => .int (M.1 k i) :: mz_fs ad M k (i + 1) r
  | i, some q :: r => .ref (ad q) :: mz_fs ad M k (i + 1) r
def mz_ent (cA ad : Nat → Nat) (M : mz_M) (k : Nat) (e : mz_E) : va_E := match e with
  | .inl (t, n, rs) => .inl (cA t, n, mz_con ad M k t rs)
  | .inr (ci, fs) => .inr (ci, mz_fs ad M k 0 fs)
def mz_wl (cA ad : Nat → Nat) (M : mz_M) : Nat → List mz_E → va_W
  | _, [] => []
  | k, e :: r => (ad k, mz_ent cA ad M k e) :: mz_wl cA ad M (k + 1) r
theorem mz_wl_get (cA ad : Nat → Nat) (M : mz_M) : ∀ (l : List mz_E) (k i : Nat), (mz_wl cA ad M k l)[i]? = (mz_nth l i).map (fun e => (ad (k + i), mz_ent cA ad M (k + i) e))
  | [], k, i => by simp [mz_wl, mz_nth]
  | e :: r, k, 0 => by simp [mz_wl, mz_nth]
  | e :: r, k, i + 1 => by
    have h := mz_wl_get cA ad M r (k + 1) i
    simp only [mz_wl, mz_nth, List.getElem?_cons_succ]
    rw [h, show k + 1 + i = k + (i + 1) by omega]
theorem mz_fs_get (ad : Nat → Nat) (M : mz_M) (k : Nat) : ∀ (l : List (Option Nat)) (b i : Nat), (mz_fs ad M k b l)[i]? = (mz_nth l i).map (fun o => match o with
    | none => Value.int (M.1 k (b + i))
    | some q => Value.ref (ad q))
  | [], b, i => by simp [mz_fs, mz_nth]
  | none :: r, b, 0 => by simp [mz_fs, mz_nth]
  | some q :: r, b, 0 => by simp [mz_fs, mz_nth]
  | none :: r, b, i + 1 => by
    have h := mz_fs_get ad M k r (b + 1) i
    simp only [mz_fs, mz_nth, List.getElem?_cons_succ]
    rw [h, show b + 1 + i = b + (i + 1) by omega]
  | some q :: r, b, i + 1 => by
    have h := mz_fs_get ad M k r (b + 1) i
    simp only [mz_fs, mz_nth, List.getElem?_cons_succ]
    rw [h, show b + 1 + i = b + (i + 1) by omega]
theorem mz_fs_len (ad : Nat → Nat) (M : mz_M) (k : Nat) : ∀ (l : List (Option Nat)) (b : Nat), (mz_fs ad M k b l).length = l.length
  | [], b => rfl
  | none :: r, b => by simp only [mz_fs, List.length_cons, mz_fs_len ad M k r (b + 1)]
  | some q :: r, b => by simp only [mz_fs, List.length_cons, mz_fs_len ad M k r (b + 1)]
theorem mz_nth_lt {α : Type} : ∀ {l : List α} {i : Nat} {a : α}, mz_nth l i = some a → i < l.length
  | [], i, a, h => by simp [mz_nth] at h
  | b :: r, 0, a, h => by simp
  | b :: r, i + 1, a, h => by
    have := mz_nth_lt (l := r) (i := i) (a := a) h
    simp only [List.length_cons]
    omega
theorem mz_fs_set (ad : Nat → Nat) (M : mz_M) (k : Nat) (x : Int32) : ∀ (l : List (Option Nat)) (b i : Nat), mz_nth l i = some none → (mz_fs ad M k b l).set i (.int x) = mz_fs ad (mz_wr M k (upd (M.1 k) (b + i) x)) k b l := by
  intro l b i hi
  apply List.ext_getElem?
  intro j
  rw [List.getElem?_set, mz_fs_len, mz_fs_get, mz_fs_get]
  by_cases h : i = j
  · subst h
    rw [if_pos rfl, if_pos (mz_nth_lt hi), hi]
    simp [mz_wr, upd]
  · rw [if_neg h]
    cases mz_nth l j with
    | none => rfl
    | some o => cases o with
      | none => simp [mz_wr, upd, show ¬ j = i from fun q => h q.symm]
      | some q => rfl
/-- what a cell holds hangs on its own part of the store alone -/
theorem mz_ent_same {cA ad : Nat → Nat} {M M' : mz_M} {k : Nat} (h1 : M'.1 k = M.1 k) (h2 : M'.2 k = M.2 k) (e : mz_E) : mz_ent cA ad M' k e = mz_ent cA ad M k e := by
  have hf : ∀ (l : List (Option Nat)) (b : Nat), mz_fs ad M' k b l = mz_fs ad M k b l := by
    intro l
    induction l with
    | nil => intro b; rfl
    | cons o r ih => intro b; cases o <;> simp only [mz_fs, ih, h1]
  obtain ⟨t, n, rs⟩ | ⟨ci, fs⟩ := e
  · match t with
    | 0 => simp only [mz_ent, mz_con, h1]
    | 1 => simp only [mz_ent, mz_con, h1]
    | 2 => simp only [mz_ent, mz_con, h2]
    | t + 3 => simp only [mz_ent, mz_con]
  · simp only [mz_ent, hf]
theorem mz_wl_set {cA ad : Nat → Nat} {M M' : mz_M} {l : List mz_E} {i : Nat} {e : mz_E} (hi : mz_nth l i = some e) (hM : ∀ b, b ≠ i → M'.1 b = M.1 b ∧ M'.2 b = M.2 b) : (mz_wl cA ad M 0 l).set i (ad i, mz_ent cA ad M' i e) = mz_wl cA ad M' 0 l := by
  apply List.ext_getElem?
  intro j
  rw [List.getElem?_set, mz_wl_get, mz_wl_get]
  by_cases h : i = j
  · subst h
    have hlen : i < (mz_wl cA ad M 0 l).length := by
      have h9 : (mz_wl cA ad M 0 l)[i]? = some (ad (0 + i), mz_ent cA ad M (0 + i) e) := by rw [mz_wl_get, hi]; rfl
      exact (List.getElem?_eq_some_iff.mp h9).1
    rw [if_pos rfl, if_pos hlen, hi]
    simp
  · rw [if_neg h]
    cases mz_nth l j with
    | none => rfl
    | some e2 =>
      obtain ⟨a1, a2⟩ := hM j (fun q => h q.symm)
      simp only [Option.map_some, Nat.zero_add, mz_ent_same a1 a2]
theorem mz_w_at {cA ad : Nat → Nat} {M : mz_M} {l : List mz_E} {i : Nat} {e : mz_E} (hi : mz_nth l i = some e) : (mz_wl cA ad M 0 l)[i]? = some (ad i, mz_ent cA ad M i e) := by
  rw [mz_wl_get, hi]
  simp
/-! locals -/
theorem mz_put_len (v : Option Value) : ∀ (ls : mz_L) (i : Nat), (mz_put ls i v).length = ls.length
  | [], i => rfl
  | a :: l, 0 => rfl
  | a :: l, i + 1 => by simp only [mz_put, List.length_cons, mz_put_len v l i]
theorem mz_put_get (v : Option Value) : ∀ (ls : mz_L) (i j : Nat) (w : Value), mz_get (mz_put ls i v) j = some w → (j = i ∧ v = some w) ∨ (¬ j = i ∧ mz_get ls j = some w ∧ (j + 1 = i → mz_wide (some w) = false))
  | [], i, j, w, h => by simp [mz_put, mz_get] at h
  | a :: l, 0, 0, w, h => Or.inl ⟨rfl, h⟩
  | a :: l, 0, j + 1, w, h => Or.inr ⟨by omega, h, fun q => by omega⟩
  | a :: l, 1, 0, w, h => by
    refine Or.inr ⟨by omega, ?_, fun _ => ?_⟩ <;> (simp only [mz_put, mz_get] at h ⊢; unfold mz_nw at h; split at h)
    · cases h
    · cases h
    · exact h
    · cases h
    · cases h
    · next h1 h2 =>
      subst h
      cases w <;> simp_all [mz_wide]
  | a :: l, i + 2, 0, w, h => Or.inr ⟨by omega, h, fun q => by omega⟩
  | a :: l, i + 1, j + 1, w, h => by
    have h2 := mz_put_get v l i j w (by cases i <;> exact h)
    rcases h2 with ⟨h3, h4⟩ | ⟨h3, h4, h5⟩
    · exact Or.inl ⟨by omega, h4⟩
    · exact Or.inr ⟨by omega, h4, fun q => h5 (by omega)⟩
theorem mz_get_lt : ∀ {ls : mz_L} {i : Nat} {v : Value}, mz_get ls i = some v → i < ls.length
  | [], i, v, h => by simp [mz_get] at h
  | a :: l, 0, v, h => by simp
  | a :: l, i + 1, v, h => by
    have := mz_get_lt (ls := l) (i := i) (v := v) h
    simp only [List.length_cons]
    omega
def mz_has (ad : Nat → Nat) (lsR : Array Slot) (nL : Nat) (ls : mz_L) : Prop := lsR.size = nL ∧ lv_wf lsR ∧ ls.length = nL ∧ ∀ (i : Nat) (v : Value), mz_get ls i = some v → lsR[i]? = some (.val (mz_cv ad v))
def mz_as (ad : Nat → Nat) (ls : mz_L) : List (Nat × Value) := (List.range ls.length).filterMap (fun i => (mz_get ls i).map (fun v => (i, mz_cv ad v)))
theorem mz_as_mem {ad : Nat → Nat} {ls : mz_L} {q : Nat × Value} : q ∈ mz_as ad ls ↔ ∃ v, mz_get ls q.1 = some v ∧ q.2 = mz_cv ad v := by
  unfold mz_as
  rw [List.mem_filterMap]
  constructor
  · rintro ⟨i, -, h⟩
    cases hg : mz_get ls i with
    | none => rw [hg] at h; cases h
    | some v =>
      rw [hg] at h
      cases h
      exact ⟨v, hg, rfl⟩
  · rintro ⟨v, h, e⟩
    refine ⟨q.1, List.mem_range.mpr (mz_get_lt h), ?_⟩
    rw [h, Option.map_some, ← e]
theorem mz_has.lv {ad : Nat → Nat} {lsR : Array Slot} {nL : Nat} {ls : mz_L} (h : mz_has ad lsR nL ls) : lv_has lsR nL (mz_as ad ls) := by
  refine ⟨h.1, h.2.1, fun q hq => ?_⟩
  obtain ⟨v, h1, h2⟩ := mz_as_mem.mp hq
  rw [h2]
  exact h.2.2.2 _ _ h1
theorem mz_has.st {ad : Nat → Nat} {lsR ls' : Array Slot} {nL i : Nat} {ls : mz_L} {v : Value} (h : mz_has ad lsR nL ls) (hL : lv_has ls' nL ((i, mz_cv ad v) :: (mz_as ad ls).filter (fun q => !(q.1 == i) && !(q.1 + 1 == i && q.2.category == 2)))) : mz_has ad ls' nL (mz_put ls i (some v)) := by
  refine ⟨hL.1, hL.2.1, (mz_put_len _ _ _).trans h.2.2.1, fun j w hj => ?_⟩
  rcases mz_put_get _ _ _ _ _ hj with ⟨h1, h2⟩ | ⟨hne, hj, h5⟩
  · cases h2
    rw [h1]
    exact hL.2.2 (i, mz_cv ad v) List.mem_cons_self
  · refine hL.2.2 (j, mz_cv ad w) (List.mem_cons_of_mem _ (List.mem_filter.mpr ⟨mz_as_mem.mpr ⟨w, hj, rfl⟩, ?_⟩))
    have h2 : ¬ (j + 1 = i ∧ (mz_cv ad w).category = 2) := by
      rintro ⟨e1, e2⟩
      rw [mz_cv_cat] at e2
      have h6 := h5 e1
      cases w <;> simp [mz_wide, Value.category] at h6 e2
    simp only [Bool.and_eq_true, Bool.not_eq_true', beq_eq_false_iff_ne, ne_eq, Bool.and_eq_false_iff]
    refine ⟨hne, ?_⟩
    by_cases e1 : j + 1 = i
    · exact Or.inr (fun e2 => h2 ⟨e1, e2⟩)
    · exact Or.inl e1
theorem mz_int_some {o : Option Value} {x : Int32} (h : mz_int o = some x) : o = some (.int x) := by
  unfold mz_int at h
  split at h
  · cases h; rfl
  · cases h
theorem mz_ref_some {o : Option Value} {x : Nat} (h : mz_ref o = some x) : o = some (.ref x) := by
  unfold mz_ref at h
  split at h
  · cases h; rfl
  · cases h
theorem mz_long_some {o : Option Value} {x : Int64} (h : mz_long o = some x) : o = some (.long x) := by
  unfold mz_long at h
  split at h
  · cases h; rfl
  · cases h
/-! the locals with which a method begins -/
def mz_args : List Value → mz_L
  | [] => []
  | v :: vs => match mz_wide (some v) with
    | true => some v :: none :: mz_args vs
    | false => some v :: mz_args vs
def mz_pad : Nat → mz_L → mz_L
  | 0, _ => []
  | n + 1, [] => none :: mz_pad n []
  | n + 1, a :: l => a :: mz_pad n l
theorem mz_pad_len : ∀ (n : Nat) (l : mz_L), (mz_pad n l).length = n
  | 0, l => rfl
  | n + 1, [] => by simp only [mz_pad, List.length_cons, mz_pad_len n []]
  | n + 1, a :: l => by simp only [mz_pad, List.length_cons, mz_pad_len n l]
theorem mz_pad_get : ∀ (n : Nat) (l : mz_L) (i : Nat) (v : Value), mz_get (mz_pad n l) i = some v → mz_get l i = some v
  | 0, l, i, v, h => by simp [mz_pad, mz_get] at h
  | n + 1, [], 0, v, h => by simp [mz_pad, mz_get] at h
  | n + 1, [], i + 1, v, h => by
    have := mz_pad_get n [] i v h
    simp [mz_get] at this
  | n + 1, a :: l, 0, v, h => h
  | n + 1, a :: l, i + 1, v, h => mz_pad_get n l i v h
theorem mz_wide_cat (v : Value) : mz_wide (some v) = true ↔ v.category = 2 := by cases v <;> simp [mz_wide, Value.category]
theorem mz_args_get (ad : Nat → Nat) : ∀ (vs : List Value) (b i : Nat) (v : Value), mz_get (mz_args vs) i = some v → (b + i, mz_cv ad v) ∈ lv_args b (vs.map (mz_cv ad))
  | [], b, i, v, h => by simp [mz_args, mz_get] at h
  | w :: vs, b, i, v, h => by
    unfold mz_args at h
    split at h
    · next hw =>
      have hc : (mz_cv ad w).category = 2 := by rw [mz_cv_cat]; exact (mz_wide_cat w).mp hw
      simp only [List.map_cons, lv_args, hc, if_true]
      match i, h with
      | 0, h => simp only [mz_get, Option.some.injEq] at h; rw [h]; exact List.mem_cons_self
      | 1, h => simp [mz_get] at h
      | i + 2, h =>
        have h2 := mz_args_get ad vs (b + 2) i v h
        rw [show b + 2 + i = b + (i + 2) by omega] at h2
        exact List.mem_cons_of_mem _ h2
    · next hw =>
      have hc : ¬ (mz_cv ad w).category = 2 := by rw [mz_cv_cat]; intro q; rw [(mz_wide_cat w).mpr q] at hw; cases hw
      simp only [List.map_cons, lv_args, hc, if_false]
      match i, h with
      | 0, h => simp only [mz_get, Option.some.injEq] at h; rw [h]; exact List.mem_cons_self
      | i + 1, h =>
        have h2 := mz_args_get ad vs (b + 1) i v h
        rw [show b + 1 + i = b + (i + 1) by omega] at h2
        exact List.mem_cons_of_mem _ h2
theorem mz_entry (ad : Nat → Nat) (As : List Value) {n : Nat} (h : (lg_sl (As.map (mz_cv ad))).length ≤ n) : mz_has ad ((lg_sl (As.map (mz_cv ad)) ++ List.replicate (n - (lg_sl (As.map (mz_cv ad))).length) Slot.unset).toArray) n (mz_pad n (mz_args As)) := by
  obtain ⟨h1, h2, h3⟩ := lv_entry (As.map (mz_cv ad)) h
  refine ⟨h1, h2, mz_pad_len _ _, fun i v hi => ?_⟩
  have h4 := mz_args_get ad As 0 i v (mz_pad_get _ _ _ _ hi)
  rw [Nat.zero_add] at h4
  exact h3 _ h4
