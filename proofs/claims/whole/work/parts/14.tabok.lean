/-! a table's checks, by program -/
def mz_okmb (LK : List Cond) (cl : List vw_C) (I : mz_I) (jc ji jm jx : Nat) : Bool := plainName (mz_y I).cls && mz_okj LK jc (.code (mz_y I) (mz_cc I) (mz_nL I) (mz_rt I)) && mz_okj LK ji (.initialized (mz_y I).cls) && decide ((mz_y I).cls ≠ "java/lang/invoke/MethodHandle") && decide ((mz_y I).cls ≠ "java/lang/invoke/VarHandle") && decide ((parseMethodDescriptor (mz_y I).desc).map (fun d => d.parameters.length) = some (mz_np I)) && (match mz_sta I with
  | true => mz_okj LK jm (.static (mz_y I))
  | false => mz_okj LK jm (.instanceMethod (mz_y I)) && mz_okj LK jx (.selects (mz_y I).cls (mz_y I) (mz_y I)) && (match cl[mz_ci I]? with
    | some q => decide (q.1 = (mz_y I).cls)
    | none => false))
theorem mz_okm_of {LK Ts : List Cond} {cl : List vw_C} {I : mz_I} (hLK : ∀ w ∈ LK, w ∈ Ts) (jc ji jm jx : Nat) (h : mz_okmb LK cl I jc ji jm jx = true) : mz_okm Ts cl I := by
  unfold mz_okmb at h
  simp only [Bool.and_eq_true, decide_eq_true_eq] at h
  obtain ⟨⟨⟨⟨⟨⟨h1, h2⟩, h3⟩, h4⟩, h5⟩, h6⟩, h7⟩ := h
  refine ⟨h1, mz_okj_in hLK h2, mz_okj_in hLK h3, ⟨h4, h5, h6⟩, fun e => ?_, fun e => ?_⟩
  · rw [e] at h7
    exact mz_okj_in hLK h7
  · rw [e] at h7
    simp only [Bool.and_eq_true] at h7
    obtain ⟨⟨h8, h9⟩, h10⟩ := h7
    refine ⟨mz_okj_in hLK h8, mz_okj_in hLK h9, ?_⟩
    split at h10
    · next q hq => exact ⟨q, hq, of_decide_eq_true h10⟩
    · cases h10
/-- all of a method's checks -/
def mz_okI (LK : List Cond) (cl : List vw_C) (tyf : Nat → Nat → FieldType) (tab : List mz_I) (I : mz_I) (j : Nat × Nat × Nat × Nat) : Bool := mz_okmb LK cl I j.1 j.2.1 j.2.2.1 j.2.2.2 && (mz_rows I).all (fun r => mz_okb LK cl tyf (mz_y I).cls (mz_cc I) r && mz_okc LK tab I r)
def mz_okP (LK Ts : List Cond) (cl : List vw_C) (tyf : Nat → Nat → FieldType) (tab : List mz_I) (I : mz_I) : Prop := mz_okm Ts cl I ∧ ∀ r ∈ mz_rows I, mz_okb LK cl tyf (mz_y I).cls (mz_cc I) r = true ∧ mz_okc LK tab I r = true
theorem mz_okP_of {LK Ts : List Cond} {cl : List vw_C} {tyf : Nat → Nat → FieldType} {tab : List mz_I} {I : mz_I} (hLK : ∀ w ∈ LK, w ∈ Ts) (j : Nat × Nat × Nat × Nat) (h : mz_okI LK cl tyf tab I j = true) : mz_okP LK Ts cl tyf tab I := by
  unfold mz_okI at h
  rw [Bool.and_eq_true] at h
  refine ⟨mz_okm_of hLK _ _ _ _ h.1, fun r hr => ?_⟩
  have h2 := List.all_eq_true.mp h.2 r hr
  rw [Bool.and_eq_true] at h2
  exact h2
theorem mz_ok_of {LK Ts : List Cond} {cl : List vw_C} {tyf : Nat → Nat → FieldType} {tab : List mz_I} (h : ∀ I ∈ tab, mz_okP LK Ts cl tyf tab I) : mz_ok LK Ts cl tyf tab := fun _ I hI => h I (mz_nth_mem hI)
