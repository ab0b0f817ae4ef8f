/-! a row is what the code has there, and its link is among the words -/
def mz_okj (LK : List Cond) (j : Nat) (w : Cond) : Bool := decide (mz_nth LK j = some w)
def mz_okb (LK : List Cond) (cl : List vw_C) (tyf : Nat → Nat → FieldType) (own : String) (cc : ByteArray) (r : mz_R) : Bool := match r with
  | (pc, ins, len, a, v, j) => (match decode cc pc with
    | .ok q => decide (q = (ins, len))
    | .error _ => false) && (match ins with
    | .iconst n => decide (len = 1) && decide (Int32.ofInt n = v)
    | .bipush n => decide (len = 2) && decide ((Int8.ofInt n).toInt32 = v)
    | .sipush n => decide (len = 3) && decide ((Int16.ofInt n).toInt32 = v)
    | .ldc i => decide (len = 2) && mz_okj LK j (.constant own i v)
    | .ldc_w i => decide (len = 3) && mz_okj LK j (.constant own i v)
    | .lconst n => decide (len = 1) && decide (Int64.ofNat (n : Nat) = v.toInt64)
    | .ldc2_w i => decide (len = 3) && mz_okj LK j (.constantLong own i v.toInt64)
    | .iload i => decide (len = 2) && decide (i = a)
    | .aload i => decide (len = 2) && decide (i = a)
    | .lload i => decide (len = 2) && decide (i = a)
    | .istore i => decide (len = 2) && decide (i = a)
    | .astore i => decide (len = 2) && decide (i = a)
    | .iload_n i => decide (len = 1) && decide ((i : Nat) = a)
    | .aload_n i => decide (len = 1) && decide ((i : Nat) = a)
    | .lload_n i => decide (len = 1) && decide ((i : Nat) = a)
    | .istore_n i => decide (len = 1) && decide ((i : Nat) = a)
    | .astore_n i => decide (len = 1) && decide ((i : Nat) = a)
    | .iinc i n => decide (len = 3) && decide (i = a) && decide (Int32.ofInt n = v)
    | .goto o => decide (len = 3) && decide ((pc : Int) + o = (a : Int))
    | .ifCond _ o => decide (len = 3) && decide ((pc : Int) + o = (a : Int))
    | .if_icmp _ o => decide (len = 3) && decide ((pc : Int) + o = (a : Int))
    | .tableswitch d lo hi offs => decide ((pc : Int) + d = (a : Int)) && decide ((offs.size : Int) = hi - lo + 1) && offs.all (fun o => decide (0 ≤ (pc : Int) + o))
    | .getfield i => decide (len = 3) && (match cl[a / 64]? with
      | some q => decide (a % 64 < q.2.2) && mz_okj LK j (.fieldLink own i (q.2.1 (a % 64)).1 (q.2.1 (a % 64)).2.1 (q.2.1 (a % 64)).2.2.1)
      | none => false)
    | .putfield i => decide (len = 3) && (match cl[a / 64]? with
      | some q => decide (a % 64 < q.2.2) && mz_okj LK j (.fieldLink own i (q.2.1 (a % 64)).1 (q.2.1 (a % 64)).2.1 (q.2.1 (a % 64)).2.2.1) && decide ((q.2.1 (a % 64)).2.2.2 = false) && decide (tyf (a / 64) (a % 64) = if v = 0 then .int else .boolean)
      | none => false)
    | _ => decide (len = (match ins with
      | .invokevirtual _ => 3
      | .invokestatic _ => 3
      | _ => 1)))
/-! one instruction -/
section MZ
variable {p : Program} {l : Launch} {e : Env} {R : Room} {s : State} {m : MethodId} {args : Array Value} {below : List Frame} {meth : Method} {c : Code} {Q : State → Prop}
variable {cc : ByteArray} {nL : Nat} {D : va_G} {cl : List vw_C} {tys : List (ClassId × FieldType)} {A : Nat → Prop} {Ts LK : List Cond} {own : String} {cA ad : Nat → Nat} {SK : List mz_E} {tyf : Nat → Nat → FieldType}
def mz_W (p : Program) (l : Launch) (e : Env) (R : Room) (s : State) (m : MethodId) (args : Array Value) (below : List Frame) (meth : Method) (c : Code) (Q : State → Prop) (nL : Nat) (D : va_G) (cl : List vw_C) (A : Nat → Prop) (cA ad : Nat → Nat) (SK : List mz_E) (k : mz_C) : Prop :=
  ∀ (H : Heap) (locs : List Loc) (lsR : Array Slot), va_P D cl (mz_wl cA ad k.2.2.2 0 SK) H → va_D A (mz_wl cA ad k.2.2.2 0 SK) → va_S A s.heap H locs → mz_has ad lsR nL k.2.1 → W p l e R s m args below meth c H locs 0 0 Q (F0 m k.1 lsR (k.2.2.1.map (mz_cv ad)))
/-- the arrays' kinds, as the tables have them -/
def mz_tys (cA : Nat → Nat) (tys : List (ClassId × FieldType)) (SK : List mz_E) : Prop := tys[0]? = some (cA 0, .int) ∧ tys[1]? = some (cA 1, .byte) ∧ tys[2]? = some (cA 2, .long) ∧ ∀ (r t n : Nat) (rs : List Nat), mz_nth SK r = some (.inl (t + 3, n, rs)) → ∃ ty : FieldType, ty.isReference = true ∧ tys[t + 3]? = some (cA (t + 3), ty)
/-- the classes' fields: their words, types and names -/
def mz_cls (cl : List vw_C) (tyf : Nat → Nat → FieldType) (Ts : List Cond) : Prop := ∀ (ci : Nat) (q : vw_C), cl[ci]? = some q → (∀ w ∈ u_ws q.1 q.2.1 q.2.2, w ∈ Ts) ∧ (∀ k, k < q.2.2 → parseFieldDescriptor (q.2.1 k).2.2.1 = some (tyf ci k)) ∧ ∀ a, a < q.2.2 → ∀ b, b < q.2.2 → a ≠ b → (q.2.1 a).2.1 ≠ (q.2.1 b).2.1
theorem mz_fit_iff {ls : mz_L} {i : Nat} : mz_fit ls i = true ↔ i < ls.length := by simp [mz_fit, Nat.blt_eq]
theorem mz_nth_mem {α : Type} : ∀ {l : List α} {i : Nat} {a : α}, mz_nth l i = some a → a ∈ l
  | [], i, a, h => by simp [mz_nth] at h
  | b :: r, 0, a, h => by simp only [mz_nth, Option.some.injEq] at h; rw [h]; exact List.mem_cons_self
  | b :: r, i + 1, a, h => List.mem_cons_of_mem _ (mz_nth_mem (l := r) h)
theorem mz_okj_in {j : Nat} {w : Cond} (hLK : ∀ w ∈ LK, w ∈ Ts) (h : mz_okj LK j w = true) : w ∈ Ts := hLK w (mz_nth_mem (of_decide_eq_true h))
theorem mz_decode {cc : ByteArray} {pc : Nat} {q : Instr × Nat} (h : (match decode cc pc with
    | .ok q2 => decide (q2 = q)
    | .error _ => false) = true) : decode cc pc = .ok q := by
  split at h
  · next q2 e => rw [e, of_decide_eq_true h]
  · cases h
theorem mz_bin_some {f : Int32 → Int32 → Int32} {P : Int32 → Int32 → List Prop} {pc : Nat} {ls : mz_L} {st : List Value} {M : mz_M} {k : mz_C} {P' : List Prop} (h : mz_bin f P pc ls st M = some (k, P')) : ∃ x y r, st = .int y :: .int x :: r ∧ k = (pc + 1, ls, .int (f x y) :: r, M) ∧ P' = P x y := by
  unfold mz_bin at h
  split at h
  · cases h; exact ⟨_, _, _, rfl, rfl, rfl⟩
  · cases h
theorem mz_if_some {f : Int32 → Prop} {d : ∀ x, Decidable (f x)} {a pc : Nat} {ls : mz_L} {st : List Value} {M : mz_M} {k : mz_C} {P' : List Prop} (h : mz_if f d a pc ls st M = some (k, P')) : ∃ x r, st = .int x :: r ∧ k = (@ite Nat (f x) (d x) a (pc + 3), ls, r, M) := by
  unfold mz_if at h
  split at h
  · cases h; exact ⟨_, _, rfl, rfl⟩
  · cases h
theorem mz_ic_some {f : Int32 → Int32 → Prop} {d : ∀ x y, Decidable (f x y)} {a pc : Nat} {ls : mz_L} {st : List Value} {M : mz_M} {k : mz_C} {P' : List Prop} (h : mz_ic f d a pc ls st M = some (k, P')) : ∃ x y r, st = .int y :: .int x :: r ∧ k = (@ite Nat (f x y) (d x y) a (pc + 3), ls, r, M) := by
  unfold mz_ic at h
  split at h
  · cases h; exact ⟨_, _, _, rfl, rfl⟩
  · cases h
theorem mz_rowI {M : mz_M} {r t n : Nat} {rs : List Nat} {f : Nat → Int32} (ht : t = 0 ∨ t = 1) (e0 : mz_nth SK r = some (.inl (t, n, rs))) : (mz_wl cA ad M 0 SK).set r (ad r, .inl (cA t, n, .inl f)) = mz_wl cA ad (mz_wr M r f) 0 SK := by
  rw [← mz_wl_set (M := M) (M' := mz_wr M r f) e0 (fun b hb => by simp [mz_wr, hb])]
  rcases ht with rfl | rfl <;> simp [mz_ent, mz_con, mz_wr]
theorem mz_rowL {M : mz_M} {r n : Nat} {rs : List Nat} {f : Nat → Int64} (e0 : mz_nth SK r = some (.inl (2, n, rs))) : (mz_wl cA ad M 0 SK).set r (ad r, .inl (cA 2, n, .inr (.inl f))) = mz_wl cA ad (mz_wrl M r f) 0 SK := by
  rw [← mz_wl_set (M := M) (M' := mz_wrl M r f) e0 (fun b hb => by simp [mz_wrl, hb])]
  simp [mz_ent, mz_con, mz_wrl]
theorem mz_rowF {M : mz_M} {r ci k : Nat} {fs : List (Option Nat)} {x : Int32} (e0 : mz_nth SK r = some (.inr (ci, fs))) (hk : mz_nth fs k = some none) : (mz_wl cA ad M 0 SK).set r (ad r, .inr (ci, (mz_fs ad M r 0 fs).set k (.int x))) = mz_wl cA ad (mz_wr M r (upd (M.1 r) k x)) 0 SK := by
  rw [mz_fs_set ad M r x fs 0 k hk, Nat.zero_add, ← mz_wl_set (M := M) (M' := mz_wr M r (upd (M.1 r) k x)) e0 (fun b hb => by simp [mz_wr, hb])]
  simp [mz_ent]
theorem mz_aald {ws : va_W} {H : Heap} {locs : List Loc} {a q0 t0 n pc : Nat} {cB : ClassId} {ty : FieldType} {f : Nat → Option Nat} {i : Int32} {rest : List Value} {ls : Array Slot} (hx : p.tables.exec = Jvm.exec) (hb : c.code = cc) (hK : va_K D cl tys s) (hP : va_P D cl ws H) (hr : ty.isReference = true) (ha : ws[q0]? = some (a, .inl (cB, n, .inr (.inr (.inr (.inr f)))))) (ht : tys[t0]? = some (cB, ty)) (hin : vp_in i n) (hdg : decode cc pc = .ok (.aaload, 1))
    (kk : W p l e R s m args below meth c H locs 0 0 Q (F0 m (pc + 1) ls (va_rf (f i.toNatClampNeg) :: rest))) : W p l e R s m args below meth c H locs 0 0 Q (F0 m pc ls (.int i :: .ref a :: rest)) := by
  have hlt : i.toNatClampNeg < n := Nat.not_le.mp fun q => hin (Or.inr q)
  exact W.aald (v := va_rf (f i.toNatClampNeg)) (ty := ty) hx hb (hP q0 _ ha) ((hK.2 t0 _ ht).1 n (fun j => va_rf (f j))) hr (fun q => by cases q) (by show ¬ (i < 0 ∨ (arrV _ _ _).slots.size ≤ _); rw [arrV_size]; exact hin) (by show (arrV _ _ _).slots[_]? = _; rw [arrV_read _ _ hlt]) rfl rfl hdg kk
set_option maxHeartbeats 4000000 in
/-- a row of the small machine is an instruction's -/
theorem mz_one (hx : p.tables.exec = Jvm.exec) (hb : c.code = cc) (hml : c.maxLocals = nL) (hown : s.vm.findClass own = some m.cls) (hts : ∀ w ∈ Ts, w.before args s = true) (hLK : ∀ w ∈ LK, w ∈ Ts) (hK : va_K D cl tys s) (hty : mz_tys cA tys SK) (hcl : mz_cls cl tyf Ts)
    {pc len a j : Nat} {ins : Instr} {v : Int32} (hok : mz_okb LK cl tyf own cc (pc, ins, len, a, v, j) = true) {ls : mz_L} {st : List Value} {M : mz_M} {k : mz_C} {P : List Prop} (h : mz_step SK ins len a v pc ls st M = some (k, P)) (hP : ∀ x ∈ P, x)
    (kk : mz_W p l e R s m args below meth c Q nL D cl A cA ad SK k) : mz_W p l e R s m args below meth c Q nL D cl A cA ad SK (pc, ls, st, M) := by
  intro H locs lsR h1 h2 h3 h4
  dsimp only at h1 h2 h3 h4
  unfold mz_okb at hok
  dsimp only at hok
  rw [Bool.and_eq_true] at hok
  obtain ⟨hd, hok⟩ := hok
  replace hd := mz_decode hd
  have go : ∀ {k2 : mz_C}, k2 = k → k2.2.2.2 = M → k2.2.1 = ls → W p l e R s m args below meth c H locs 0 0 Q (F0 m k.1 lsR (k.2.2.1.map (mz_cv ad))) := by
    intro k2 e1 e2 e3
    subst e1
    exact kk H locs lsR (by rw [e2]; exact h1) (by rw [e2]; exact h2) h3 (by rw [e3]; exact h4)
  cases ins
  case iconst n =>
    dsimp only [mz_step] at h
    simp only [Bool.and_eq_true, decide_eq_true_eq] at hok
    cases h
    obtain ⟨rfl, hv⟩ := hok
    exact lv_iconst hx hb hd hv (go rfl rfl rfl)
  case bipush n =>
    dsimp only [mz_step] at h
    simp only [Bool.and_eq_true, decide_eq_true_eq] at hok
    cases h
    obtain ⟨rfl, hv⟩ := hok
    exact lv_bipush hx hb hd hv (go rfl rfl rfl)
  case sipush n =>
    dsimp only [mz_step] at h
    simp only [Bool.and_eq_true, decide_eq_true_eq] at hok
    cases h
    obtain ⟨rfl, hv⟩ := hok
    exact lv_sipush hx hb hd hv (go rfl rfl rfl)
  case lconst n =>
    dsimp only [mz_step] at h
    simp only [Bool.and_eq_true, decide_eq_true_eq] at hok
    cases h
    obtain ⟨rfl, hv⟩ := hok
    exact lv_lconst hx hb hd hv (go rfl rfl rfl)
  case ldc i =>
    dsimp only [mz_step] at h
    simp only [Bool.and_eq_true, decide_eq_true_eq] at hok
    cases h
    obtain ⟨rfl, hv⟩ := hok
    exact lv_ldc hx hb hown (hts _ (mz_okj_in hLK hv)) hd (go rfl rfl rfl)
  case ldc_w i =>
    dsimp only [mz_step] at h
    simp only [Bool.and_eq_true, decide_eq_true_eq] at hok
    cases h
    obtain ⟨rfl, hv⟩ := hok
    exact lv_ldcw hx hb hown (hts _ (mz_okj_in hLK hv)) hd (go rfl rfl rfl)
  case ldc2_w i =>
    dsimp only [mz_step] at h
    simp only [Bool.and_eq_true, decide_eq_true_eq] at hok
    cases h
    obtain ⟨rfl, hv⟩ := hok
    exact lv_ldc2 hx hb hown (hts _ (mz_okj_in hLK hv)) hd (go rfl rfl rfl)
  case iload i =>
    dsimp only [mz_step] at h
    simp only [Bool.and_eq_true, decide_eq_true_eq] at hok
    obtain ⟨rfl, hi⟩ := hok
    split at h
    · next x e0 =>
      cases h
      have hg := h4.2.2.2 _ _ (mz_int_some e0)
      subst hi
      exact lv_iload hx hb hd hg (go rfl rfl rfl)
    · cases h
  case aload i =>
    dsimp only [mz_step] at h
    simp only [Bool.and_eq_true, decide_eq_true_eq] at hok
    obtain ⟨rfl, hi⟩ := hok
    split at h
    · next x e0 =>
      cases h
      have hg := h4.2.2.2 _ _ (mz_ref_some e0)
      subst hi
      exact lv_aload hx hb hd hg (go rfl rfl rfl)
    · cases h
  case lload i =>
    dsimp only [mz_step] at h
    simp only [Bool.and_eq_true, decide_eq_true_eq] at hok
    obtain ⟨rfl, hi⟩ := hok
    split at h
    · next x e0 =>
      cases h
      have hg := h4.2.2.2 _ _ (mz_long_some e0)
      subst hi
      exact lv_lload hx hb hd hg (go rfl rfl rfl)
    · cases h
  case iload_n i =>
    dsimp only [mz_step] at h
    simp only [Bool.and_eq_true, decide_eq_true_eq] at hok
    obtain ⟨rfl, hi⟩ := hok
    split at h
    · next x e0 =>
      cases h
      have hg := h4.2.2.2 _ _ (mz_int_some e0)
      skip
      exact lv_iload_n hx hb hd hi hg (go rfl rfl rfl)
    · cases h
  case aload_n i =>
    dsimp only [mz_step] at h
    simp only [Bool.and_eq_true, decide_eq_true_eq] at hok
    obtain ⟨rfl, hi⟩ := hok
    split at h
    · next x e0 =>
      cases h
      have hg := h4.2.2.2 _ _ (mz_ref_some e0)
      skip
      exact lv_aload_n hx hb hd hi hg (go rfl rfl rfl)
    · cases h
  case lload_n i =>
    dsimp only [mz_step] at h
    simp only [Bool.and_eq_true, decide_eq_true_eq] at hok
    obtain ⟨rfl, hi⟩ := hok
    split at h
    · next x e0 =>
      cases h
      have hg := h4.2.2.2 _ _ (mz_long_some e0)
      skip
      exact lv_lload_n hx hb hd hi hg (go rfl rfl rfl)
    · cases h
  case istore i =>
    dsimp only [mz_step] at h
    simp only [Bool.and_eq_true, decide_eq_true_eq] at hok
    obtain ⟨rfl, hi⟩ := hok
    split at h
    · next x r =>
      split at h
      · next hfit =>
        cases h
        have hfl := mz_fit_iff.mp hfit
        subst hi
        exact lv_istore hx hb hd h4.lv (by have := h4.2.2.1; omega) rfl (fun ls' hl' => kk H locs ls' h1 h2 h3 (h4.st hl'))
      · cases h
    · cases h
  case astore i =>
    dsimp only [mz_step] at h
    simp only [Bool.and_eq_true, decide_eq_true_eq] at hok
    obtain ⟨rfl, hi⟩ := hok
    split at h
    · next x r =>
      split at h
      · next hfit =>
        cases h
        have hfl := mz_fit_iff.mp hfit
        subst hi
        exact lv_astore hx hb hd h4.lv (by have := h4.2.2.1; omega) rfl (fun ls' hl' => kk H locs ls' h1 h2 h3 (h4.st hl'))
      · cases h
    · cases h
  case istore_n i =>
    dsimp only [mz_step] at h
    simp only [Bool.and_eq_true, decide_eq_true_eq] at hok
    obtain ⟨rfl, hi⟩ := hok
    split at h
    · next x r =>
      split at h
      · next hfit =>
        cases h
        have hfl := mz_fit_iff.mp hfit
        skip
        exact lv_istore_n hx hb hd hi h4.lv (by have := h4.2.2.1; omega) rfl (fun ls' hl' => kk H locs ls' h1 h2 h3 (h4.st hl'))
      · cases h
    · cases h
  case astore_n i =>
    dsimp only [mz_step] at h
    simp only [Bool.and_eq_true, decide_eq_true_eq] at hok
    obtain ⟨rfl, hi⟩ := hok
    split at h
    · next x r =>
      split at h
      · next hfit =>
        cases h
        have hfl := mz_fit_iff.mp hfit
        skip
        exact lv_astore_n hx hb hd hi h4.lv (by have := h4.2.2.1; omega) rfl (fun ls' hl' => kk H locs ls' h1 h2 h3 (h4.st hl'))
      · cases h
    · cases h
  case iinc i n =>
    dsimp only [mz_step] at h
    simp only [Bool.and_eq_true, decide_eq_true_eq] at hok
    obtain ⟨⟨rfl, hi⟩, hv⟩ := hok
    split at h
    · next x e0 =>
      split at h
      · next hfit =>
        cases h
        have hfl := mz_fit_iff.mp hfit
        subst hi
        obtain ⟨k0, hk0⟩ := List.getElem?_of_mem (mz_as_mem (ad := ad) (q := (i, .int x)) |>.mpr ⟨.int x, mz_int_some e0, rfl⟩)
        exact lv_iinc hx hb hd h4.lv hk0 (by rw [hv]) (by have := h4.2.2.1; omega) rfl (fun ls' hl' => kk H locs ls' h1 h2 h3 (h4.st hl'))
      · cases h
    · cases h
  case iadd =>
    simp only [decide_eq_true_eq] at hok
    subst hok
    obtain ⟨x, y, r, rfl, rfl, -⟩ := mz_bin_some h
    exact lv_iadd hx hb hd (go rfl rfl rfl)
  case isub =>
    simp only [decide_eq_true_eq] at hok
    subst hok
    obtain ⟨x, y, r, rfl, rfl, -⟩ := mz_bin_some h
    exact lv_isub hx hb hd (go rfl rfl rfl)
  case imul =>
    simp only [decide_eq_true_eq] at hok
    subst hok
    obtain ⟨x, y, r, rfl, rfl, -⟩ := mz_bin_some h
    exact lv_imul hx hb hd (go rfl rfl rfl)
  case iand =>
    simp only [decide_eq_true_eq] at hok
    subst hok
    obtain ⟨x, y, r, rfl, rfl, -⟩ := mz_bin_some h
    exact lv_iand hx hb hd (go rfl rfl rfl)
  case ior =>
    simp only [decide_eq_true_eq] at hok
    subst hok
    obtain ⟨x, y, r, rfl, rfl, -⟩ := mz_bin_some h
    exact lv_ior hx hb hd (go rfl rfl rfl)
  case ixor =>
    simp only [decide_eq_true_eq] at hok
    subst hok
    obtain ⟨x, y, r, rfl, rfl, -⟩ := mz_bin_some h
    exact lv_ixor hx hb hd (go rfl rfl rfl)
  case ishl =>
    simp only [decide_eq_true_eq] at hok
    subst hok
    obtain ⟨x, y, r, rfl, rfl, -⟩ := mz_bin_some h
    exact lv_ishl hx hb hd (go rfl rfl rfl)
  case ishr =>
    simp only [decide_eq_true_eq] at hok
    subst hok
    obtain ⟨x, y, r, rfl, rfl, -⟩ := mz_bin_some h
    exact lv_ishr hx hb hd (go rfl rfl rfl)
  case iushr =>
    simp only [decide_eq_true_eq] at hok
    subst hok
    obtain ⟨x, y, r, rfl, rfl, -⟩ := mz_bin_some h
    exact lv_iushr hx hb hd rfl (go rfl rfl rfl)
  case idiv =>
    simp only [decide_eq_true_eq] at hok
    subst hok
    obtain ⟨x, y, r, rfl, rfl, rfl⟩ := mz_bin_some h
    exact lv_idiv hx hb hd (hP _ List.mem_cons_self) (go rfl rfl rfl)
  case irem =>
    simp only [decide_eq_true_eq] at hok
    subst hok
    obtain ⟨x, y, r, rfl, rfl, rfl⟩ := mz_bin_some h
    exact lv_irem hx hb hd (hP _ List.mem_cons_self) (go rfl rfl rfl)
  case ladd =>
    simp only [decide_eq_true_eq] at hok
    subst hok
    dsimp only [mz_step] at h
    split at h
    · cases h
      exact lv_ladd hx hb hd (go rfl rfl rfl)
    · cases h
  case lcmp =>
    simp only [decide_eq_true_eq] at hok
    subst hok
    dsimp only [mz_step] at h
    split at h
    · cases h
      exact W.lcmp hx hb hd (go rfl rfl rfl)
    · cases h
  case i2l =>
    simp only [decide_eq_true_eq] at hok
    subst hok
    dsimp only [mz_step] at h
    split at h
    · cases h
      exact lv_i2l hx hb hd rfl (go rfl rfl rfl)
    · cases h
  case l2i =>
    simp only [decide_eq_true_eq] at hok
    subst hok
    dsimp only [mz_step] at h
    split at h
    · cases h
      exact lv_l2i hx hb hd rfl (go rfl rfl rfl)
    · cases h
  case i2b =>
    simp only [decide_eq_true_eq] at hok
    subst hok
    dsimp only [mz_step] at h
    split at h
    · cases h
      exact lv_i2b hx hb hd rfl (go rfl rfl rfl)
    · cases h
  case pop =>
    simp only [decide_eq_true_eq] at hok
    subst hok
    dsimp only [mz_step] at h
    split at h
    · cases h
      exact lv_pop hx hb hd rfl (go rfl rfl rfl)
    · cases h
  case dup =>
    simp only [decide_eq_true_eq] at hok
    subst hok
    dsimp only [mz_step] at h
    split at h
    · cases h
      exact lv_dup hx hb hd rfl (go rfl rfl rfl)
    · cases h
      exact lv_dup hx hb hd rfl (go rfl rfl rfl)
    · cases h
  case dup_x1 =>
    simp only [decide_eq_true_eq] at hok
    subst hok
    dsimp only [mz_step] at h
    split at h
    · cases h
      exact lv_dup_x1 hx hb hd rfl rfl (go rfl rfl rfl)
    · cases h
  case dup2 =>
    simp only [decide_eq_true_eq] at hok
    subst hok
    dsimp only [mz_step] at h
    split at h
    · cases h
      exact lv_dup2_11 hx hb hd rfl rfl (go rfl rfl rfl)
    · cases h
  case goto o =>
    dsimp only [mz_step] at h
    simp only [Bool.and_eq_true, decide_eq_true_eq] at hok
    obtain ⟨rfl, ht⟩ := hok
    cases h
    exact lv_goto hx hb hd ht (go rfl rfl rfl)
  case ifCond cn o =>
    simp only [Bool.and_eq_true, decide_eq_true_eq] at hok
    obtain ⟨rfl, ht⟩ := hok
    cases cn
    case eq =>
      obtain ⟨x, r, rfl, rfl⟩ := mz_if_some h
      have g := kk H locs lsR h1 h2 h3 h4
      dsimp only at g
      exact lv_if_eq hx hb hd ht (fun hc => by rw [if_pos hc] at g; exact g) (fun hc => by rw [if_neg hc] at g; exact g)
    case ne =>
      obtain ⟨x, r, rfl, rfl⟩ := mz_if_some h
      have g := kk H locs lsR h1 h2 h3 h4
      dsimp only at g
      exact lv_if_ne hx hb hd ht (fun hc => by rw [if_pos hc] at g; exact g) (fun hc => by rw [if_neg (fun q => q hc)] at g; exact g)
    case lt =>
      obtain ⟨x, r, rfl, rfl⟩ := mz_if_some h
      have g := kk H locs lsR h1 h2 h3 h4
      dsimp only at g
      exact lv_if_lt hx hb hd ht (fun hc => by rw [if_pos hc] at g; exact g) (fun hc => by rw [if_neg hc] at g; exact g)
    case ge =>
      obtain ⟨x, r, rfl, rfl⟩ := mz_if_some h
      have g := kk H locs lsR h1 h2 h3 h4
      dsimp only at g
      exact lv_if_ge hx hb hd ht (fun hc => by rw [if_pos hc] at g; exact g) (fun hc => by rw [if_neg hc] at g; exact g)
    case gt =>
      obtain ⟨x, r, rfl, rfl⟩ := mz_if_some h
      have g := kk H locs lsR h1 h2 h3 h4
      dsimp only at g
      exact lv_if_gt hx hb hd ht (fun hc => by rw [if_pos hc] at g; exact g) (fun hc => by rw [if_neg hc] at g; exact g)
    case le =>
      obtain ⟨x, r, rfl, rfl⟩ := mz_if_some h
      have g := kk H locs lsR h1 h2 h3 h4
      dsimp only at g
      exact lv_if_le hx hb hd ht (fun hc => by rw [if_pos hc] at g; exact g) (fun hc => by rw [if_neg hc] at g; exact g)
  case if_icmp cn o =>
    simp only [Bool.and_eq_true, decide_eq_true_eq] at hok
    obtain ⟨rfl, ht⟩ := hok
    cases cn
    case eq =>
      obtain ⟨x, y, r, rfl, rfl⟩ := mz_ic_some h
      have g := kk H locs lsR h1 h2 h3 h4
      dsimp only at g
      exact lv_icmp_eq hx hb hd ht (fun hc => by rw [if_pos hc] at g; exact g) (fun hc => by rw [if_neg hc] at g; exact g)
    case ne =>
      obtain ⟨x, y, r, rfl, rfl⟩ := mz_ic_some h
      have g := kk H locs lsR h1 h2 h3 h4
      dsimp only at g
      exact lv_icmp_ne hx hb hd ht (fun hc => by rw [if_pos hc] at g; exact g) (fun hc => by rw [if_neg (fun q => q hc)] at g; exact g)
    case lt =>
      obtain ⟨x, y, r, rfl, rfl⟩ := mz_ic_some h
      have g := kk H locs lsR h1 h2 h3 h4
      dsimp only at g
      exact lv_icmp_lt hx hb hd ht (fun hc => by rw [if_pos hc] at g; exact g) (fun hc => by rw [if_neg hc] at g; exact g)
    case ge =>
      obtain ⟨x, y, r, rfl, rfl⟩ := mz_ic_some h
      have g := kk H locs lsR h1 h2 h3 h4
      dsimp only at g
      exact lv_icmp_ge hx hb hd ht (fun hc => by rw [if_pos hc] at g; exact g) (fun hc => by rw [if_neg hc] at g; exact g)
    case gt =>
      obtain ⟨x, y, r, rfl, rfl⟩ := mz_ic_some h
      have g := kk H locs lsR h1 h2 h3 h4
      dsimp only at g
      exact lv_icmp_gt hx hb hd ht (fun hc => by rw [if_pos hc] at g; exact g) (fun hc => by rw [if_neg hc] at g; exact g)
    case le =>
      obtain ⟨x, y, r, rfl, rfl⟩ := mz_ic_some h
      have g := kk H locs lsR h1 h2 h3 h4
      dsimp only at g
      exact lv_icmp_le hx hb hd ht (fun hc => by rw [if_pos hc] at g; exact g) (fun hc => by rw [if_neg hc] at g; exact g)
  case tableswitch d lo hi offs =>
    dsimp only [mz_step] at h
    simp only [Bool.and_eq_true, decide_eq_true_eq] at hok
    obtain ⟨⟨ht, hsz⟩, hall⟩ := hok
    split at h
    · next x r =>
      cases h
      have g := kk H locs lsR h1 h2 h3 h4
      dsimp only at g
      by_cases hc : x.toInt < lo ∨ hi < x.toInt
      · rw [if_pos hc] at g
        exact lv_tableOut hx hb hd hc ht g
      · rw [if_neg hc] at g
        have hlt : (x.toInt - lo).toNat < offs.size := by omega
        have hg : offs[(x.toInt - lo).toNat]? = some (offs.getD (x.toInt - lo).toNat 0) := by
          simp [Array.getD, hlt]
        have h0 : (0 : Int) ≤ (pc : Int) + offs.getD (x.toInt - lo).toNat 0 := by
          have h9 := Array.all_eq_true.mp hall (x.toInt - lo).toNat hlt
          simpa [Array.getD, hlt] using h9
        exact lv_tableIn hx hb hd (fun q => hc (Or.inl q)) (fun q => hc (Or.inr q)) hg (by omega) g
    · cases h
  case iaload =>
    simp only [decide_eq_true_eq] at hok
    subst hok
    dsimp only [mz_step] at h
    split at h
    · next i r q =>
      split at h
      · next n rs e0 =>
        cases h
        have hw : (mz_wl cA ad M 0 SK)[r]? = some (ad r, .inl (cA 0, n, .inl (M.1 r))) := mz_w_at e0
        exact va_iald hx hb hK h1 r 0 hw hty.1 (hP _ List.mem_cons_self) hd (go rfl rfl rfl)
      · cases h
    · cases h
  case baload =>
    simp only [decide_eq_true_eq] at hok
    subst hok
    dsimp only [mz_step] at h
    split at h
    · next i r q =>
      split at h
      · next n rs e0 =>
        cases h
        have hw : (mz_wl cA ad M 0 SK)[r]? = some (ad r, .inl (cA 1, n, .inl (M.1 r))) := mz_w_at e0
        exact va_bald hx hb hK h1 r 1 hw hty.2.1 (hP _ List.mem_cons_self) hd (go rfl rfl rfl)
      · cases h
    · cases h
  case laload =>
    simp only [decide_eq_true_eq] at hok
    subst hok
    dsimp only [mz_step] at h
    split at h
    · next i r q =>
      split at h
      · next n rs e0 =>
        cases h
        have hw : (mz_wl cA ad M 0 SK)[r]? = some (ad r, .inl (cA 2, n, .inr (.inl (M.2 r)))) := mz_w_at e0
        exact va_lald hx hb hK h1 r 2 hw hty.2.2.1 (hP _ List.mem_cons_self) hd (go rfl rfl rfl)
      · cases h
    · cases h
  case aaload =>
    simp only [decide_eq_true_eq] at hok
    subst hok
    dsimp only [mz_step] at h
    split at h
    · next i r q =>
      split at h
      · next t n rs e0 =>
        cases h
        have hin : vp_in i n := hP _ List.mem_cons_self
        have hlen : rs.length = n := hP _ (List.mem_cons_of_mem _ List.mem_cons_self)
        have hw : (mz_wl cA ad M 0 SK)[r]? = some (ad r, .inl (cA (t + 3), n, .inr (.inr (.inr (.inr (fun j => if j < rs.length then some (ad (rs.getD j 0)) else none)))))) := mz_w_at e0
        obtain ⟨ty, hr, ht⟩ := hty.2.2.2 r t n rs e0
        refine mz_aald hx hb hK h1 hr hw ht hin hd ?_
        have hlt : i.toNatClampNeg < rs.length := by rw [hlen]; exact Nat.not_le.mp fun q => hin (Or.inr q)
        rw [if_pos hlt]
        exact go rfl rfl rfl
      · cases h
    · cases h
  case iastore =>
    simp only [decide_eq_true_eq] at hok
    subst hok
    dsimp only [mz_step] at h
    split at h
    · next x i r q =>
      split at h
      · next n rs e0 =>
        cases h
        have hw : (mz_wl cA ad M 0 SK)[r]? = some (ad r, .inl (cA 0, n, .inl (M.1 r))) := mz_w_at e0
        refine va_iast hx hb hK h1 h2 h3 r 0 hw hty.1 (hP _ List.mem_cons_self) hd (fun H1 locs1 g1 g2 g3 => ?_)
        rw [mz_rowI (Or.inl rfl) e0] at g1 g2
        exact kk H1 locs1 lsR g1 g2 g3 h4
      · cases h
    · cases h
  case bastore =>
    simp only [decide_eq_true_eq] at hok
    subst hok
    dsimp only [mz_step] at h
    split at h
    · next x i r q =>
      split at h
      · next n rs e0 =>
        cases h
        have hw : (mz_wl cA ad M 0 SK)[r]? = some (ad r, .inl (cA 1, n, .inl (M.1 r))) := mz_w_at e0
        refine va_bast hx hb hK h1 h2 h3 r 1 hw hty.2.1 (hP _ List.mem_cons_self) hd (fun H1 locs1 g1 g2 g3 => ?_)
        rw [mz_rowI (Or.inr rfl) e0] at g1 g2
        exact kk H1 locs1 lsR g1 g2 g3 h4
      · cases h
    · cases h
  case lastore =>
    simp only [decide_eq_true_eq] at hok
    subst hok
    dsimp only [mz_step] at h
    split at h
    · next x i r q =>
      split at h
      · next n rs e0 =>
        cases h
        have hw : (mz_wl cA ad M 0 SK)[r]? = some (ad r, .inl (cA 2, n, .inr (.inl (M.2 r)))) := mz_w_at e0
        refine va_last hx hb hK h1 h2 h3 r 2 hw hty.2.2.1 (hP _ List.mem_cons_self) hd (fun H1 locs1 g1 g2 g3 => ?_)
        rw [mz_rowL e0] at g1 g2
        exact kk H1 locs1 lsR g1 g2 g3 h4
      · cases h
    · cases h
  case arraylength =>
    simp only [decide_eq_true_eq] at hok
    subst hok
    dsimp only [mz_step] at h
    split at h
    · next r q =>
      split at h
      · next t n rs e0 =>
        cases h
        have hw : (mz_wl cA ad M 0 SK)[r]? = some (ad r, .inl (cA t, n, mz_con ad M r t rs)) := mz_w_at e0
        match t, hw, e0 with
        | 0, hw, _ => exact va_alen hx hb hK h1 r 0 hw hty.1 rfl hd (go rfl rfl rfl)
        | 1, hw, _ => exact va_alen hx hb hK h1 r 1 hw hty.2.1 rfl hd (go rfl rfl rfl)
        | 2, hw, _ => exact va_alen hx hb hK h1 r 2 hw hty.2.2.1 rfl hd (go rfl rfl rfl)
        | t + 3, hw, e0 =>
          obtain ⟨ty, -, ht⟩ := hty.2.2.2 r t n rs e0
          exact va_alen hx hb hK h1 r (t + 3) hw ht rfl hd (go rfl rfl rfl)
      · cases h
    · cases h
  case getfield i =>
    dsimp only [mz_step] at h
    rw [Bool.and_eq_true] at hok
    obtain ⟨hlen, hok⟩ := hok
    simp only [decide_eq_true_eq] at hlen
    subst hlen
    split at h
    · next r q =>
      split at h
      · next ci fs e0 =>
        split at hok
        · next q9 e9 =>
          simp only [Bool.and_eq_true, decide_eq_true_eq] at hok
          obtain ⟨hlt, hj⟩ := hok
          have hw : (mz_wl cA ad M 0 SK)[r]? = some (ad r, .inr (ci, mz_fs ad M r 0 fs)) := mz_w_at e0
          split at h
          · next ek =>
            split at h
            · next hbe =>
              cases h
              have hv : (mz_fs ad M r 0 fs)[a % 64]? = some (.int (M.1 r (a % 64))) := by rw [mz_fs_get, ek]; simp
              have hci := Nat.eq_of_beq_eq_true hbe
              subst hci
              exact va_get (C := q9.1) (T := q9.2.1) (N := q9.2.2) hx hb hts (hcl _ _ e9).1 hown hK h1 r hw e9 (a % 64) hlt (hts _ (mz_okj_in hLK hj)) (fun _ h9 => h9) hv hd (go rfl rfl rfl)
            · cases h
          · next z ek =>
            split at h
            · next hbe =>
              cases h
              have hv : (mz_fs ad M r 0 fs)[a % 64]? = some (.ref (ad z)) := by rw [mz_fs_get, ek]; simp
              have hci := Nat.eq_of_beq_eq_true hbe
              subst hci
              exact va_get (C := q9.1) (T := q9.2.1) (N := q9.2.2) hx hb hts (hcl _ _ e9).1 hown hK h1 r hw e9 (a % 64) hlt (hts _ (mz_okj_in hLK hj)) (fun _ h9 => h9) hv hd (go rfl rfl rfl)
            · cases h
          · cases h
        · cases hok
      · cases h
    · cases h
  case putfield i =>
    dsimp only [mz_step] at h
    rw [Bool.and_eq_true] at hok
    obtain ⟨hlen, hok⟩ := hok
    simp only [decide_eq_true_eq] at hlen
    subst hlen
    split at h
    · next x r q =>
      split at h
      · next ci fs e0 =>
        split at hok
        · next q9 e9 =>
          simp only [Bool.and_eq_true, decide_eq_true_eq] at hok
          obtain ⟨⟨⟨hlt, hj⟩, hfin⟩, htf⟩ := hok
          have hw : (mz_wl cA ad M 0 SK)[r]? = some (ad r, .inr (ci, mz_fs ad M r 0 fs)) := mz_w_at e0
          split at h
          · next ek =>
            split at h
            · next hbe =>
              cases h
              have hci := Nat.eq_of_beq_eq_true hbe
              subst hci
              obtain ⟨c1, c2, c3⟩ := hcl _ _ e9
              have hnf : narrow (tyf (a / 64) (a % 64)) (.int x) = .int x ∧ fits (tyf (a / 64) (a % 64)) (.int x) = true := by
                rw [htf]
                by_cases hv0 : v = 0
                · rw [if_pos hv0]; exact ⟨rfl, rfl⟩
                · rw [if_neg hv0]
                  have hbo : x = 0 ∨ x = 1 := by
                    split at hP
                    · next hz =>
                      exact absurd (Int32.toBitVec_inj.mp (BitVec.eq_of_toNat_eq hz)) hv0
                    · exact hP _ List.mem_cons_self
                  rcases hbo with q | q
                  · subst q; exact ⟨by decide +kernel, by decide +kernel⟩
                  · subst q; exact ⟨by decide +kernel, by decide +kernel⟩
              refine va_put (C := q9.1) (T := q9.2.1) (N := q9.2.2) hx hb hts c1 (tyf (a / 64)) c2 c3 hown hK h1 h2 h3 r hw e9 (a % 64) hlt (hts _ (mz_okj_in hLK hj)) (fun _ h9 => h9) hfin (c2 _ hlt) hnf.1 hnf.2 (by rw [mz_fs_len]; exact mz_nth_lt ek) hd (fun H1 locs1 g1 g2 g3 => ?_)
              rw [show mz_cv ad (Value.int x) = .int x from rfl, mz_rowF e0 ek] at g1 g2
              exact kk H1 locs1 lsR g1 g2 g3 h4
            · cases h
          · cases h
        · cases hok
      · cases h
    · cases h
  all_goals (dsimp only [mz_step] at h; cases h)
end MZ
