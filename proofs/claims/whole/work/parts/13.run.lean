/-! runs of the small machine -/
def mz_y (I : mz_I) : MethodName := I.1
def mz_cc (I : mz_I) : ByteArray := I.2.1
def mz_nL (I : mz_I) : Nat := I.2.2.1
def mz_rt (I : mz_I) : Option FieldType := I.2.2.2.1
def mz_sta (I : mz_I) : Bool := I.2.2.2.2.1
def mz_ci (I : mz_I) : Nat := I.2.2.2.2.2.1
def mz_np (I : mz_I) : Nat := I.2.2.2.2.2.2.1
def mz_fr (I : mz_I) : Nat := I.2.2.2.2.2.2.2.1
def mz_lo (I : mz_I) : Nat := I.2.2.2.2.2.2.2.2.1
def mz_rows (I : mz_I) : List mz_R := I.2.2.2.2.2.2.2.2.2
abbrev mz_O : Type := Option Value × mz_M
/-- what a row that calls or returns does; otherwise a step -/
def mz_do (SK : List mz_E) (tab : List mz_I) (run : mz_I → mz_C → mz_O → Prop) (I : mz_I) (r : mz_R) (k : mz_C) (res : mz_O) : Prop := match r.2.1 with
  | .ireturn => ∃ x : Int32, k.2.2.1 = [.int x] ∧ res = (some (.int x), k.2.2.2) ∧ (mz_rt I = some .int ∨ (mz_rt I = some .boolean ∧ (x = 0 ∨ x = 1)))
  | .lreturn => ∃ x : Int64, k.2.2.1 = [.long x] ∧ res = (some (.long x), k.2.2.2) ∧ mz_rt I = some .long
  | .return_ => k.2.2.1 = [] ∧ res = (none, k.2.2.2) ∧ mz_rt I = none
  | .invokevirtual _ => ∃ (J : mz_I) (As : List Value) (b : Nat) (rest : List Value) (fs : List (Option Nat)) (r1 : mz_O), mz_nth tab r.2.2.2.1 = some J ∧ k.2.2.1 = As.reverse ++ .ref b :: rest ∧ As.length = mz_np J ∧ mz_sta J = false ∧ mz_nth SK b = some (.inr (mz_ci J, fs)) ∧ (rest.map fun v => v.category).sum ≤ 8 ∧ (lg_sl (Value.ref b :: As)).length ≤ mz_nL J ∧ run J (0, mz_pad (mz_nL J) (mz_args (.ref b :: As)), [], k.2.2.2) r1 ∧ run I (k.1 + 3, k.2.1, r1.1.toList ++ rest, r1.2) res
  | .invokestatic _ => (∃ (J : mz_I) (As : List Value) (rest : List Value) (r1 : mz_O), mz_nth tab r.2.2.2.1 = some J ∧ ¬ r.2.2.2.1 = 1000 ∧ ¬ r.2.2.2.1 = 1001 ∧ k.2.2.1 = As.reverse ++ rest ∧ As.length = mz_np J ∧ mz_sta J = true ∧ (rest.map fun v => v.category).sum ≤ 8 ∧ (lg_sl As).length ≤ mz_nL J ∧ run J (0, mz_pad (mz_nL J) (mz_args As), [], k.2.2.2) r1 ∧ run I (k.1 + 3, k.2.1, r1.1.toList ++ rest, r1.2) res) ∨
      (∃ (sp dp n : Int32) (b0 b n0 n1 : Nat) (rs0 rs1 : List Nat) (rest : List Value), r.2.2.2.1 = 1000 ∧ k.2.2.1 = .int n :: .int dp :: .ref b :: .int sp :: .ref b0 :: rest ∧ mz_nth SK b0 = some (.inl (0, n0, rs0)) ∧ mz_nth SK b = some (.inl (0, n1, rs1)) ∧ ¬ sp < 0 ∧ ¬ dp < 0 ∧ ¬ n < 0 ∧ sp.toNatClampNeg + n.toNatClampNeg ≤ n0 ∧ dp.toNatClampNeg + n.toNatClampNeg ≤ n1 ∧ (rest.map fun v => v.category).sum ≤ 8 ∧ run I (k.1 + 3, k.2.1, rest, mz_wr k.2.2.2 b (va_cpy (k.2.2.2.1 b0) (k.2.2.2.1 b) sp.toNatClampNeg dp.toNatClampNeg n.toNatClampNeg)) res) ∨
      ∃ (x y : Int32) (rest : List Value), r.2.2.2.1 = 1001 ∧ k.2.2.1 = .int y :: .int x :: rest ∧ (rest.map fun v => v.category).sum ≤ 8 ∧ run I (k.1 + 3, k.2.1, .int (if y < x then y else x) :: rest, k.2.2.2) res
  | ins => ∃ (k2 : mz_C) (P : List Prop), mz_step SK ins r.2.2.1 r.2.2.2.1 r.2.2.2.2.1 k.1 k.2.1 k.2.2.1 k.2.2.2 = some (k2, P) ∧ (∀ x ∈ P, x) ∧ run I k2 res
def mz_run (SK : List mz_E) (tab : List mz_I) : Nat → mz_I → mz_C → mz_O → Prop
  | 0, _, _, _ => False
  | n + 1, I, k, res => ∃ r : mz_R, mz_find k.1 (mz_rows I) = some r ∧ mz_do SK tab (mz_run SK tab n) I r k res
theorem mz_do_mono {SK : List mz_E} {tab : List mz_I} {run run' : mz_I → mz_C → mz_O → Prop} (h : ∀ I k res, run I k res → run' I k res) {I : mz_I} {r : mz_R} {k : mz_C} {res : mz_O} (hd : mz_do SK tab run I r k res) : mz_do SK tab run' I r k res := by
  unfold mz_do at hd ⊢
  split at hd
  · exact hd
  · exact hd
  · exact hd
  · obtain ⟨J, As, b, rest, fs, r1, a1, a2, a3, a4, a5, a6, a7, a8, a9⟩ := hd
    exact ⟨J, As, b, rest, fs, r1, a1, a2, a3, a4, a5, a6, a7, h _ _ _ a8, h _ _ _ a9⟩
  · rcases hd with ⟨J, As, rest, r1, a1, a0, a0', a2, a3, a4, a6, a7, a8, a9⟩ | ⟨sp, dp, n, b0, b, n0, n1, rs0, rs1, rest, a1, a2, a3, a4, a5, a6, a7, a8, a9, b1, b2⟩ | ⟨x, y, rest, a1, a2, a3, a4⟩
    · exact Or.inl ⟨J, As, rest, r1, a1, a0, a0', a2, a3, a4, a6, a7, h _ _ _ a8, h _ _ _ a9⟩
    · exact Or.inr (Or.inl ⟨sp, dp, n, b0, b, n0, n1, rs0, rs1, rest, a1, a2, a3, a4, a5, a6, a7, a8, a9, b1, h _ _ _ b2⟩)
    · exact Or.inr (Or.inr ⟨x, y, rest, a1, a2, a3, h _ _ _ a4⟩)
  · obtain ⟨k2, P, a1, a2, a3⟩ := hd
    exact ⟨k2, P, a1, a2, h _ _ _ a3⟩
theorem mz_run_succ {SK : List mz_E} {tab : List mz_I} : ∀ {n : Nat} {I : mz_I} {k : mz_C} {res : mz_O}, mz_run SK tab n I k res → mz_run SK tab (n + 1) I k res
  | 0, I, k, res, h => h.elim
  | n + 1, I, k, res, h => by
    obtain ⟨r, h1, h2⟩ := h
    exact ⟨r, h1, mz_do_mono (fun I k res h => mz_run_succ h) h2⟩
theorem mz_run_le {SK : List mz_E} {tab : List mz_I} {n n' : Nat} (hn : n ≤ n') {I : mz_I} {k : mz_C} {res : mz_O} (h : mz_run SK tab n I k res) : mz_run SK tab n' I k res := by
  induction hn with
  | refl => exact h
  | step _ ih => exact mz_run_succ ih
/-! a table's methods: what is checked of each, once, by program -/
def mz_okc (LK : List Cond) (tab : List mz_I) (I : mz_I) (r : mz_R) : Bool := match r with
  | (_, ins, _, a, _, j) => match ins with
    | .invokevirtual i => (match mz_nth tab a with
      | some J => mz_okj LK j (.methodLink (mz_y I).cls i (mz_y J)) && decide (mz_fr J + 1 ≤ mz_fr I) && decide (8 + (mz_nL J + 11) + mz_lo J ≤ mz_lo I)
      | none => false)
    | .invokestatic i => if a = 1000 then mz_okj LK j (.methodLink (mz_y I).cls i arraycopyName) && decide (1 ≤ mz_fr I) && decide (8 + (nativeFrameWords "java/lang/System" "arraycopy" 5 + 11) ≤ mz_lo I) else if a = 1001 then mz_okj LK j (.methodLink (mz_y I).cls i Lib.Math.min.name) && decide (1 ≤ mz_fr I) && decide (21 ≤ mz_lo I) else (match mz_nth tab a with
      | some J => mz_okj LK j (.methodLink (mz_y I).cls i (mz_y J)) && decide (mz_fr J + 1 ≤ mz_fr I) && decide (8 + (mz_nL J + 11) + mz_lo J ≤ mz_lo I)
      | none => false)
    | _ => true
/-- a method's own words: its code, its class, how it is chosen -/
def mz_okm (Ts : List Cond) (cl : List vw_C) (I : mz_I) : Prop := plainName (mz_y I).cls = true ∧ Cond.code (mz_y I) (mz_cc I) (mz_nL I) (mz_rt I) ∈ Ts ∧ Cond.initialized (mz_y I).cls ∈ Ts ∧ ((mz_y I).cls ≠ "java/lang/invoke/MethodHandle" ∧ (mz_y I).cls ≠ "java/lang/invoke/VarHandle" ∧ (parseMethodDescriptor (mz_y I).desc).map (fun d => d.parameters.length) = some (mz_np I)) ∧ (mz_sta I = true → Cond.static (mz_y I) ∈ Ts) ∧ (mz_sta I = false → Cond.instanceMethod (mz_y I) ∈ Ts ∧ Cond.selects (mz_y I).cls (mz_y I) (mz_y I) ∈ Ts ∧ ∃ q : vw_C, cl[mz_ci I]? = some q ∧ q.1 = (mz_y I).cls)
def mz_ok (LK Ts : List Cond) (cl : List vw_C) (tyf : Nat → Nat → FieldType) (tab : List mz_I) : Prop := ∀ (a : Nat) (I : mz_I), mz_nth tab a = some I → mz_okm Ts cl I ∧ ∀ r ∈ mz_rows I, mz_okb LK cl tyf (mz_y I).cls (mz_cc I) r = true ∧ mz_okc LK tab I r = true
theorem mz_find_mem {pc : Nat} : ∀ {l : List mz_R} {r : mz_R}, mz_find pc l = some r → r ∈ l ∧ r.1 = pc
  | [], r, h => by simp [mz_find] at h
  | a :: l, r, h => by
    unfold mz_find at h
    split at h
    · next e => cases h; exact ⟨List.mem_cons_self, Nat.eq_of_beq_eq_true e⟩
    · obtain ⟨h1, h2⟩ := mz_find_mem (l := l) h
      exact ⟨List.mem_cons_of_mem _ h1, h2⟩
/-! a method's contract -/
def mz_ws (Ts : List Cond) (I : mz_I) : List Cond := Cond.code (mz_y I) (mz_cc I) (mz_nL I) (mz_rt I) :: Ts
def mz_rm (I : mz_I) : Room := { frames := mz_fr I, cells := 0, slots := 0, locals := mz_lo I }
def mz_Pc (SK : List mz_E) (cA ad : Nat → Nat) (D : va_G) (cl : List vw_C) (tys : List (ClassId × FieldType)) (As : List Value) (M : mz_M) (sz : Nat) : Array Value → State → Prop :=
  va_Pc (As.map (mz_cv ad)) (fun U => U.heap.size = sz ∧ va_P D cl (mz_wl cA ad M 0 SK) U.heap ∧ va_K D cl tys U ∧ va_D (fun _ => True) (mz_wl cA ad M 0 SK))
def mz_Q (SK : List mz_E) (cA ad : Nat → Nat) (D : va_G) (cl : List vw_C) (tys : List (ClassId × FieldType)) (res : mz_O) (A : Nat → Prop) : Array Value → State → Outcome → State → Prop :=
  fun _ st oc t => (oc = .returned (res.1.map (mz_cv ad)) ∧ va_P D cl (mz_wl cA ad res.2 0 SK) t.heap ∧ va_K D cl tys t ∧ va_D A (mz_wl cA ad res.2 0 SK)) ∧ va_F A st t
theorem mz_blind {SK : List mz_E} {cA ad : Nat → Nat} {D : va_G} {cl : List vw_C} {tys : List (ClassId × FieldType)} {As : List Value} {M : mz_M} {sz : Nat} : FrameBlind (mz_Pc SK cA ad D cl tys As M sz) :=
  fun a U g mk q => by
    obtain ⟨q0, q1, qP, qK, qD⟩ := q
    exact ⟨q0, q1, qP, va_K.moved (u := U) (U := U.calling g mk a) (Vm.Alike.refl U.vm) qK, qD⟩
section MZC
variable {p : Program} {l : Launch} {e : Env} {R : Room} {s : State} {m : MethodId} {args : Array Value} {below : List Frame} {meth : Method} {c : Code} {Q : State → Prop}
variable {cc : ByteArray} {nL : Nat} {D : va_G} {cl : List vw_C} {tys : List (ClassId × FieldType)} {A0 A1 : Nat → Prop} {Ts LK : List Cond} {own : String} {cA ad : Nat → Nat} {SK : List mz_E} {tyf : Nat → Nat → FieldType} {tab : List mz_I}
/-- behind a call -/
theorem mz_back {H H0 : Heap} {locs : List Loc} {pc : Nat} {ls : Array Slot} {st0 rest : List Value} {res : mz_O} {a : Array Value} {free : Nat → Prop} (hr : va_Run p l e R s m args below meth c H locs 0 0 0 0 (F0 m pc ls st0) rest (mz_Q SK cA ad D cl tys res A1 a) free) (hS : va_S A0 H0 H locs) (hA : ∀ q, q < H.size → A1 q → A0 q) (hA2 : ∀ q, A1 q → A0 q) (hf : ∀ q, free q → A0 q)
    (kk : ∀ (H1 : Heap) (locs1 : List Loc), va_P D cl (mz_wl cA ad res.2 0 SK) H1 → va_D A0 (mz_wl cA ad res.2 0 SK) → va_S A0 H0 H1 locs1 → W p l e R s m args below meth c H1 locs1 0 0 Q (F0 m (pc + 3) ls ((res.1.map (mz_cv ad)).toList ++ rest))) : W p l e R s m args below meth c H locs 0 0 Q (F0 m pc ls st0) := by
  intro T hT X
  obtain ⟨v, st₀, t, T', L, h0, X', hL, e1, e2, ⟨⟨hv, qP, qK, qD⟩, hz, hk⟩, st⟩ := hr T hT X
  cases hv
  rw [h0] at hz hk
  obtain ⟨t2, a1, b1⟩ := kk T'.heap (locs ++ L) (by rw [e1]; exact qP) (qD.weaken (fun _ _ _ h => hA2 _ h))
    ⟨Nat.le_trans hS.1 (by rw [e1]; exact hz), fun q h1 h2 => by rw [e1, hk q (Nat.lt_of_lt_of_le h1 hS.1) (fun z => h2 (hA q (Nat.lt_of_lt_of_le h1 hS.1) z))]; exact hS.2.1 q h1 h2, fun q hq => by
      rcases List.mem_append.mp hq with h | h
      · exact hS.2.2 q h
      · exact hf _ (hL q h)⟩ T' rfl X'
  exact ⟨t2, st t2 a1, b1⟩
/-- what a method's runs say of the machine -/
def mz_Sim (l : Launch) (D : va_G) (cl : List vw_C) (tys : List (ClassId × FieldType)) (Ts : List Cond) (cA ad : Nat → Nat) (SK : List mz_E) (n : Nat) (tab : List mz_I) : Prop :=
  ∀ (a : Nat) (I : mz_I) (As : List Value) (M : mz_M) (res : mz_O) (sz : Nat), mz_nth tab a = some I → mz_run SK tab n I (0, mz_pad (mz_nL I) (mz_args As), [], M) res → (lg_sl As).length ≤ mz_nL I →
    Met l (mz_y I) (mz_ws Ts I) (mz_rm I) (mz_Pc SK cA ad D cl tys As M sz) (mz_Q SK cA ad D cl tys res (va_A (mz_wl cA ad M 0 SK) sz)) 0 0 (va_A (mz_wl cA ad M 0 SK) sz)
theorem mz_lgsl (ad : Nat → Nat) : ∀ (As : List Value), (lg_sl (As.map (mz_cv ad))).length = (lg_sl As).length
  | [] => rfl
  | v :: vs => by
    have h := mz_lgsl ad vs
    simp only [lg_sl, List.map_cons, List.flatMap_cons, List.length_append, mz_cv_cat] at h ⊢
    rw [h]
    split <;> rfl
theorem mz_goodIn {Ts : List Cond} (hg : ∀ w ∈ Ts, goodWord w = true) {I J : mz_I} {ws : List Cond} (hJ : Cond.code (mz_y J) (mz_cc J) (mz_nL J) (mz_rt J) ∈ Ts) : GoodIn (mz_ws Ts I) (mz_ws Ts J) := by
  intro w hw
  rcases List.mem_cons.mp hw with rfl | hw
  · exact ⟨List.mem_cons_of_mem _ hJ, good_of_word (hg _ hJ)⟩
  · exact ⟨List.mem_cons_of_mem _ hw, good_of_word (hg _ hw)⟩
set_option maxHeartbeats 4000000 in
theorem mz_sim (hok : mz_ok LK Ts cl tyf tab) (hg : ∀ w ∈ Ts, goodWord w = true) (hLK : ∀ w ∈ LK, w ∈ Ts) (hty : mz_tys cA tys SK) (hcl : mz_cls cl tyf Ts) (hcpy : Cond.native arraycopyName ∈ Ts ∧ Cond.static arraycopyName ∈ Ts ∧ Cond.initialized "java/lang/System" ∈ Ts) (hmin : Cond.static Lib.Math.min.name ∈ Ts ∧ Cond.initialized "java/lang/Math" ∈ Ts ∧ Cond.code Lib.Math.min.name Lib.Math.min.code 2 (some .int) ∈ Ts) : ∀ n, mz_Sim l D cl tys Ts cA ad SK n tab := by
  have body : ∀ (n : Nat), (∀ k, k < n → mz_Sim l D cl tys Ts cA ad SK k tab) → ∀ (j : Nat), j ≤ n → ∀ (p : Program) (e : Env) (s : State) (m : MethodId) (args : Array Value) (below : List Frame) (meth : Method) (c : Code) (a : Nat) (I : mz_I) (k : mz_C) (res : mz_O) (A : Nat → Prop), mz_nth tab a = some I → p.tables.exec = Jvm.exec → c.code = mz_cc I → c.maxLocals = mz_nL I → meth.sig.returnType = mz_rt I → meth.locks = false → s.vm.findClass (mz_y I).cls = some m.cls → (∀ w ∈ mz_ws Ts I, w.before args s = true) → va_K D cl tys s → (∀ q, s.heap.size ≤ q → A q) → mz_run SK tab j I k res →
      mz_W p l e (mz_rm I) s m args below meth c (MQ below (mz_Q SK cA ad D cl tys res A) args s 0 0 A) (mz_nL I) D cl A cA ad SK k := by
    intro n ihn j
    induction j with
    | zero => intro _ p e s m args below meth c a I k res A _ _ _ _ _ _ _ _ _ _ h; exact h.elim
    | succ j ihj =>
      intro hj p e s m args below meth c a I k res A hI hx hb hml hr hlocks hown hts hK hA hrun
      have ih := fun k2 res2 h => ihj (by omega) p e s m args below meth c a I k2 res2 A hI hx hb hml hr hlocks hown hts hK hA h
      obtain ⟨⟨pc', ins, len, a9, v9, j9⟩, hf, hdo⟩ := hrun
      obtain ⟨hmem, hpc⟩ := mz_find_mem hf
      obtain ⟨hokm, hokr⟩ := hok a I hI
      obtain ⟨hob, hoc⟩ := hokr _ hmem
      dsimp only at hpc
      obtain ⟨pc, ls, st, M⟩ := k
      dsimp only at hpc
      subst hpc
      have hts2 : ∀ w ∈ Ts, w.before args s = true := fun w hw => hts w (List.mem_cons_of_mem _ hw)
      have hdc : decode (mz_cc I) pc' = .ok (ins, len) := by
        have h9 := hob
        unfold mz_okb at h9
        dsimp only at h9
        rw [Bool.and_eq_true] at h9
        exact mz_decode h9.1
      unfold mz_do at hdo
      dsimp only at hdo
      have hlen1 : ∀ x : Nat, mz_okb LK cl tyf (mz_y I).cls (mz_cc I) (pc', ins, len, a9, v9, j9) = true → (len = (match ins with
        | .invokevirtual _ => 3
        | .invokestatic _ => 3
        | .ireturn => 1
        | .lreturn => 1
        | .return_ => 1
        | _ => len)) := by
        intro _ h9
        unfold mz_okb at h9
        dsimp only at h9
        rw [Bool.and_eq_true] at h9
        cases ins <;> first | rfl | exact of_decide_eq_true h9.2
      have hln := hlen1 0 hob
      split at hdo
      · -- ireturn
        obtain ⟨x, e1, e2, e3⟩ := hdo
        dsimp only at hln
        subst hln
        subst e1
        subst e2
        intro H locs lsR h1 h2 h3 h4
        dsimp only at h1 h2 h3 h4
        rcases e3 with e3 | ⟨e3, e4⟩
        · exact W.iret (v := x) hx hb (hr.trans e3) (fun t ht hW => ⟨⟨rfl, by rw [ht]; exact h1, va_K.moved hW.alike hK, h2⟩, h3.F ht⟩) h3.2.2 hdc hlocks
        · have hn : narrow .boolean (.int x) = .int x := by rcases e4 with rfl | rfl <;> decide +kernel
          exact W.zret (v := x) (ty := .boolean) hx hb (hr.trans e3) hn (fun t ht hW => ⟨⟨rfl, by rw [ht]; exact h1, va_K.moved hW.alike hK, h2⟩, h3.F ht⟩) h3.2.2 hdc hlocks
      · -- lreturn
        obtain ⟨x, e1, e2, e3⟩ := hdo
        dsimp only at hln
        subst hln
        subst e1
        subst e2
        intro H locs lsR h1 h2 h3 h4
        dsimp only at h1 h2 h3 h4
        exact W.lret (v := x) hx hb (hr.trans e3) (fun t ht hW => ⟨⟨rfl, by rw [ht]; exact h1, va_K.moved hW.alike hK, h2⟩, h3.F ht⟩) h3.2.2 hdc hlocks
      · -- return
        obtain ⟨e1, e2, e3⟩ := hdo
        dsimp only at hln
        subst hln
        subst e1
        subst e2
        intro H locs lsR h1 h2 h3 h4
        dsimp only at h1 h2 h3 h4
        exact W.vret hx hb (hr.trans e3) (fun t ht hW => ⟨⟨rfl, by rw [ht]; exact h1, va_K.moved hW.alike hK, h2⟩, h3.F ht⟩) h3.2.2 hdc hlocks
      · -- invokevirtual
        next i9 =>
        obtain ⟨J, As, b, rest, fs, r1, a1, a2, a3, a4, a5, a6, a7, a8, b9⟩ := hdo
        dsimp only at hln
        subst hln
        subst a2
        intro H locs lsR h1 h2 h3 h4
        dsimp only at h1 h2 h3 h4
        unfold mz_okc at hoc
        dsimp only at hoc a1
        rw [a1] at hoc
        simp only [Bool.and_eq_true, decide_eq_true_eq] at hoc
        obtain ⟨⟨c1, c2⟩, c3⟩ := hoc
        obtain ⟨⟨m1, m2, m3, m4, -, m5⟩, -⟩ := hok _ J a1
        obtain ⟨m6, m7, q9, m8, m9⟩ := m5 a4
        have hM := ihn j (by omega) _ J (.ref b :: As) M r1 H.size a1 a8 a7
        have hw : (mz_wl cA ad M 0 SK)[b]? = some (ad b, .inr (mz_ci J, mz_fs ad M b 0 fs)) := mz_w_at a5
        have hCB := callB_of (R := mz_rm I) (rm := mz_rm J) (ws := mz_ws Ts J) (ws' := Ts) (mc := 0) (ms := 0) (own := (mz_y I).cls) (index := i9) (mz_np J) hts (mz_goodIn (ws := Ts) hg m2) rfl rfl rfl (hts2 _ m3) (hts2 _ (mz_okj_in hLK c1)) m4 ⟨c2, c3⟩
        have hrcv := va_recv hK h1 m8 hw
        rw [m9] at hrcv
        have hrn := va_runV (e := e) (below := below) (meth := meth) (C := (mz_y J).cls) (b := ad b) (As := As.map (mz_cv ad)) (rest := rest.map (mz_cv ad)) (g := F0 m pc' lsR ((As.reverse ++ .ref b :: rest).map (mz_cv ad))) (locs := locs) (cells := 0) (slots := 0) ⟨hx, hb, hml, hown, hts⟩ hM ⟨hCB, hts2 _ m6, hts2 _ m7⟩ ⟨mz_blind, hrcv, fun U hU hW => ⟨rfl, by rw [hU], by rw [hU]; exact h1, va_K.moved hW.alike hK, h2.weaken (fun _ _ _ _ => trivial)⟩⟩ rfl (by rw [List.length_map]; exact a3) h4.1 (by rw [List.map_append, List.map_reverse]; rfl) (lv_room (by rw [mz_sum]; exact a6)) hdc ⟨Nat.le_refl _, Nat.le_refl _⟩
        have hsub : ∀ q, va_A (mz_wl cA ad M 0 SK) H.size q → A q := by
          rintro q (⟨k0, e0, h⟩ | h)
          · exact h2.2 k0 _ h
          · exact hA q (Nat.le_trans h3.1 h)
        refine mz_back hrn h3 (fun q _ h => hsub q h) hsub hsub (fun H1 locs1 g1 g2 g3 => ?_)
        have := ih _ res b9 H1 locs1 lsR g1 g2 g3 h4
        dsimp only at this
        obtain ⟨_ | v1, M1⟩ := r1
        · exact this
        · exact this
      · -- invokestatic
        next i9 =>
        rcases hdo with ⟨J, As, rest, r1, a1, a0, a0', a2, a3, a4, a6, a7, a8, b9⟩ | ⟨sp, dp, n9, b0, b, n0, n1, rs0, rs1, rest, a1, a2, a3, a4, a5, a6, a7, a8, a9', b1, b2⟩ | ⟨x9, y9, rest, a1, a2, a3, a4⟩
        · dsimp only at hln
          subst hln
          subst a2
          intro H locs lsR h1 h2 h3 h4
          dsimp only at h1 h2 h3 h4
          unfold mz_okc at hoc
          dsimp only at hoc a1
          rw [if_neg a0, if_neg a0', a1] at hoc
          simp only [Bool.and_eq_true, decide_eq_true_eq] at hoc
          obtain ⟨⟨c1, c2⟩, c3⟩ := hoc
          obtain ⟨⟨m1, m2, m3, m4, m5, -⟩, -⟩ := hok _ J a1
          have hM := ihn j (by omega) _ J As M r1 H.size a1 a8 a7
          have hCB := callB_of (R := mz_rm I) (rm := mz_rm J) (ws := mz_ws Ts J) (ws' := Ts) (mc := 0) (ms := 0) (own := (mz_y I).cls) (index := i9) (mz_np J) hts (mz_goodIn (ws := Ts) hg m2) rfl rfl rfl (hts2 _ m3) (hts2 _ (mz_okj_in hLK c1)) m4 ⟨c2, c3⟩
          have hrn := va_runS (e := e) (below := below) (meth := meth) (As := As.map (mz_cv ad)) (rest := rest.map (mz_cv ad)) (g := F0 m pc' lsR ((As.reverse ++ rest).map (mz_cv ad))) (locs := locs) (cells := 0) (slots := 0) ⟨hx, hb, hml, hown, hts⟩ hM ⟨hCB, hts2 _ (m5 a4)⟩ ⟨mz_blind, fun U hU hW => ⟨rfl, by rw [hU], by rw [hU]; exact h1, va_K.moved hW.alike hK, h2.weaken (fun _ _ _ _ => trivial)⟩⟩ rfl (by rw [List.length_map]; exact a3) h4.1 (by rw [List.map_append, List.map_reverse]) (lv_room (by rw [mz_sum]; exact a6)) hdc ⟨Nat.le_refl _, Nat.le_refl _⟩
          have hsub : ∀ q, va_A (mz_wl cA ad M 0 SK) H.size q → A q := by
            rintro q (⟨k0, e0, h⟩ | h)
            · exact h2.2 k0 _ h
            · exact hA q (Nat.le_trans h3.1 h)
          refine mz_back hrn h3 (fun q _ h => hsub q h) hsub hsub (fun H1 locs1 g1 g2 g3 => ?_)
          have := ih _ res b9 H1 locs1 lsR g1 g2 g3 h4
          dsimp only at this
          obtain ⟨_ | v1, M1⟩ := r1
          · exact this
          · exact this
        · dsimp only at hln a1
          subst hln
          subst a2
          subst a1
          intro H locs lsR h1 h2 h3 h4
          dsimp only at h1 h2 h3 h4
          unfold mz_okc at hoc
          dsimp only at hoc
          rw [if_pos rfl] at hoc
          simp only [Bool.and_eq_true, decide_eq_true_eq] at hoc
          obtain ⟨⟨c1, c2⟩, c3⟩ := hoc
          have hw0 : (mz_wl cA ad M 0 SK)[b0]? = some (ad b0, .inl (cA 0, n0, .inl (M.1 b0))) := mz_w_at a3
          have hw1 : (mz_wl cA ad M 0 SK)[b]? = some (ad b, .inl (cA 0, n1, .inl (M.1 b))) := mz_w_at a4
          refine va_copyi hx hb (hml.trans h4.1.symm) hown (hts2 _ (mz_okj_in hLK c1)) (hts2 _ hcpy.1) (hts2 _ hcpy.2.1) (hts2 _ hcpy.2.2) hK h1 h2 h3 b0 b 0 0 hw0 hw1 hty.1 hty.1 rfl a5 a6 a7 a8 a9' (fun _ _ => rfl) c2 (by rw [mz_sum]; show _ ≤ mz_lo I; omega) hdc (fun H1 locs1 g1 g2 g3 => ?_)
          rw [mz_rowI (Or.inl rfl) a4] at g1 g2
          exact ih _ res b2 H1 locs1 lsR g1 g2 g3 h4
        · dsimp only at hln a1
          subst hln
          subst a2
          subst a1
          intro H locs lsR h1 h2 h3 h4
          dsimp only at h1 h2 h3 h4
          unfold mz_okc at hoc
          dsimp only at hoc
          rw [if_neg (by decide), if_pos rfl] at hoc
          simp only [Bool.and_eq_true, decide_eq_true_eq] at hoc
          obtain ⟨⟨c1, c2⟩, c3⟩ := hoc
          exact va_mmin hx hb (hml.trans h4.1.symm) hown (hts2 _ (mz_okj_in hLK c1)) (hts2 _ hmin.1) (hts2 _ hmin.2.1) (hts2 _ hmin.2.2) c2 (by rw [mz_sum]; show _ ≤ mz_lo I; omega) (Nat.zero_le _) (Nat.zero_le _) hdc (ih _ res a4 H locs lsR h1 h2 h3 h4)
      · -- a step
        obtain ⟨k2, P, a1, a2, a3⟩ := hdo
        exact mz_one hx hb hml hown hts2 hLK hK hty hcl hob a1 a2 (ih k2 res a3)
  intro n
  induction n using Nat.strongRecOn with
  | _ n ihn =>
    intro a I As M res sz hI hrun hlen
    obtain ⟨⟨m1, m2, m3, m4, -, -⟩, -⟩ := hok a I hI
    refine Met.ofW (cc := mz_cc I) (maxL := mz_nL I) (ret := mz_rt I) m1 rfl ?_
    intro p e s m args below meth c s₁ B hml hv
    obtain ⟨rfl, hsz, h1, hK, hD0⟩ := hv
    subst hsz
    have hts := atoms_spec (ws := mz_ws Ts I) B.pre
    have hown : s.vm.findClass (mz_y I).cls = some m.cls := findClass_of_methodNamed B.named
    have hlocks := B.notSynchronized
    rw [lg_entry_eq]
    refine body n ihn n (Nat.le_refl _) p e s m _ below meth c a I _ res _ hI B.exec B.bytes hml B.returns hlocks hown hts hK (fun q h => Or.inr h) hrun s.heap [] _ h1 hD0.self va_S.rf (mz_entry ad As (by rw [mz_lgsl]; exact hlen))
end MZC
