/-! making: what the constructors stand on -/
def mq_z0 : mz_M := (fun _ _ => 0, fun _ _ => 0)
/-- the links to nest mates' constructors -/
def qN : List (String × Nat × MethodName) := [(RX9, 9, yX2_init), (RX2, 11, yX0_init), (RX2, 20, yX1_init), (RX9, 28, yX7_init), (RX3, 15, yX7_init), (RX9, 45, yX8_init), (RX9, 52, yX6_init)]
def qE (U : State) : Prop := (∀ q ∈ qN, va_Nw (.methodLinkNest q.1 q.2.1 q.2.2 "FieldBases") U) ∧ va_AOA .int U ∧ va_AO RX7 U
theorem qE.warm {s U : State} (hW : s.WarmedH U.vm) (h : qE s) : qE U := ⟨fun q hq => va_Nw.warmM hW (h.1 q hq), over_moved (a := #[]) hW.alike h.2.1, va_AO.moved hW.alike h.2.2⟩
theorem qE.calling {U : State} {g : JFrame} {mk : MethodId} {a : Array Value} (h : qE U) : qE (U.calling g mk a) := ⟨fun q hq => va_Nw.same rfl rfl (h.1 q hq), over_moved (a := #[]) (Vm.Alike.refl _) h.2.1, va_AO.moved (Vm.Alike.refl _) h.2.2⟩
/-- the arrays' classes -/
def qT (cA : Nat → Nat) : List (ClassId × FieldType) := [(cA 0, .int), (cA 1, .byte), (cA 2, .long), (cA 3, .object RX7), (cA 4, .array .int)]
theorem va_RA.uniq {s : State} {c c' : ClassId} {ty : FieldType} (h : va_RA s c ty) (h' : va_RA s c' ty) : c' = c := by
  cases ty with
  | object C =>
    obtain ⟨-, -, -, -, -, h1⟩ := h
    obtain ⟨-, -, -, -, -, h2⟩ := h'
    exact Option.some.inj (h2.symm.trans h1)
  | _ => exact Option.some.inj (Eq.trans (Eq.symm h') h)
theorem qK_eq {D : va_G} {tys : List (ClassId × FieldType)} {c c' : ClassId} {ty : FieldType} {s : State} (hK : va_K D vwCl (tys ++ [(c', ty)]) s) (k : Nat) (h : tys[k]? = some (c, ty)) : c' = c := by
  have hlt : k < tys.length := (List.getElem?_eq_some_iff.mp h).1
  have h1 := hK.2 k (c, ty) (by rw [List.getElem?_append_left hlt]; exact h)
  have h2 := hK.2 tys.length (c', ty) (by rw [List.getElem?_append_right (Nat.le_refl _), Nat.sub_self]; rfl)
  exact va_RA.uniq h1.2 h2.2
/-- a join: the callee's cells stand last -/
theorem qJoin {A0 : Nat → Prop} {D : va_G} {cl : List vw_C} {ws wc w1 : va_W} {H H1 : Heap} (hP : va_P D cl (ws ++ wc) H) (hD : va_D A0 (ws ++ wc)) (hk : ∀ q : Nat, q < H.size → ¬ va_A wc H.size q → H1[q]? = H[q]?) (hF : ∀ q, va_A wc H.size q → A0 q) (hP1 : va_P D cl w1 H1) (hD1 : va_D (va_A wc H.size) w1) : va_P D cl (ws ++ w1) H1 ∧ va_D A0 (ws ++ w1) := by
  have hl : ∀ (k : Nat) (q : Nat × va_E), ws[k]? = some q → (ws ++ wc)[k]? = some q := fun k q hq => by
    rw [List.getElem?_append_left (List.getElem?_eq_some_iff.mp hq).1]; exact hq
  have hno : ∀ (k : Nat) (q : Nat × va_E), ws[k]? = some q → ¬ va_A wc H.size q.1 := by
    rintro k q hq (⟨j, e, hj⟩ | hj)
    · have hlt := (List.getElem?_eq_some_iff.mp hq).1
      have h2 : (ws ++ wc)[ws.length + j]? = some (q.1, e) := by
        rw [List.getElem?_append_right (Nat.le_add_right _ _), Nat.add_sub_cancel_left]; exact hj
      have := hD.1 k (ws.length + j) q (q.1, e) (hl k q hq) h2 rfl
      omega
    · exact absurd ((hP k q (hl k q hq)).lt) (Nat.not_lt.mpr hj)
  refine ⟨va_P.app (fun k q hq => (hP k q (hl k q hq)).kept (hk q.1 ((hP k q (hl k q hq)).lt) (hno k q hq))) hP1, va_D.app ⟨fun i j p q hi hj e => hD.1 i j p q (hl i p hi) (hl j q hj) e, fun k q hq => hD.2 k q (hl k q hq)⟩ (hD1.weaken (fun _ _ _ h => hF _ h)) (fun i j p q hi hj e => hno i p hi (by rw [e]; exact hD1.2 j q hj))⟩
/-- a constructor: on a new object, to the cells of sk, all nought -/
def qI (l : Launch) (D : va_G) (cA : Nat → Nat) (y : MethodName) (cc : ByteArray) (nL : Nat) (o : va_E) (sk : List mz_E) (rm : Room) : Prop :=
  ∀ h0 sz : Nat, Met l y (Cond.code y cc nL none :: mq_Ts) rm (va_Pc [.ref h0] (fun U => U.heap.size = sz ∧ va_P D vwCl [(h0, o)] U.heap ∧ va_K D vwCl (qT cA) U ∧ va_D (fun _ => True) [(h0, o)] ∧ qE U))
    (va_Qv (S := Nat → Nat) (fun a => a 0 = h0) (fun a t => va_P D vwCl (mz_wl cA a mq_z0 0 sk) t.heap ∧ va_K D vwCl (qT cA) t ∧ va_D (va_A [(h0, o)] sz) (mz_wl cA a mq_z0 0 sk)) (va_A [(h0, o)] sz)) rm.cells rm.slots (va_A [(h0, o)] sz)
section QI
variable {p : Program} {l : Launch} {e : Env} {R : Room} {s : State} {m : MethodId} {args : Array Value} {below : List Frame} {meth : Method} {c : Code} {H : Heap} {locs : List Loc} {cells slots : Nat} {Q : State → Prop}
variable {cc : ByteArray} {pc : Nat} {ls : Array Slot} {rest : List Value} {D : va_G} {cA : Nat → Nat} {A : Nat → Prop} {ws : va_W} {H0 : Heap}
/-- behind 'new C; dup', the constructor's call -/
theorem qI_back {y : MethodName} {bytes : ByteArray} {nL' idx nL q : Nat} {own : String} {o : va_E} {sk : List mz_E} {rm : Room}
    (hr : va_Run p l e R s m args below meth c H locs cells slots rm.cells rm.slots (F0 m pc ls (.ref q :: rest)) rest (va_Qv (S := Nat → Nat) (fun a => a 0 = q) (fun a t => va_P D vwCl (mz_wl cA a mq_z0 0 sk) t.heap ∧ va_K D vwCl (qT cA) t ∧ va_D (va_A [(q, o)] H.size) (mz_wl cA a mq_z0 0 sk)) (va_A [(q, o)] H.size) (Value.ref q :: []).toArray) (va_A [(q, o)] H.size))
    (hP : va_P D vwCl (ws ++ [(q, o)]) H) (hD : va_D A (ws ++ [(q, o)])) (hS : va_S A H0 H locs) (hA : ∀ q, H0.size ≤ q → A q)
    (kk : ∀ (a : Nat → Nat) (H1 : Heap) (locs1 : List Loc), a 0 = q → va_P D vwCl (ws ++ mz_wl cA a mq_z0 0 sk) H1 → va_D A (ws ++ mz_wl cA a mq_z0 0 sk) → va_S A H0 H1 locs1 → W p l e R s m args below meth c H1 locs1 (cells + rm.cells) (slots + rm.slots) Q (F0 m (pc + 3) ls rest)) :
    W p l e R s m args below meth c H locs cells slots Q (F0 m pc ls (.ref q :: rest)) := by
  have hsub : ∀ x, va_A [(q, o)] H.size x → A x := by
    rintro x (⟨k, e0, h⟩ | h)
    · have hk : k < 1 := (List.getElem?_eq_some_iff.mp h).1
      rw [show k = 0 by omega] at h
      have h1 : (ws ++ [(q, o)])[ws.length]? = some (q, o) := by rw [List.getElem?_append_right (Nat.le_refl _), Nat.sub_self]; rfl
      have h2 := hD.2 _ _ h1
      have e9 : (q, o) = (x, e0) := Option.some.inj h
      rw [← (Prod.mk.inj e9).1]
      exact h2
    · exact hA x (Nat.le_trans hS.1 h)
  refine va_callv hr hS (fun x _ h => hsub x h) hsub (fun u t H1 locs1 ht hvm hw hB hz1 hk1 hS1 => ?_)
  obtain ⟨hP1, hK1, hD1⟩ := hB
  rw [ht] at hP1
  obtain ⟨j1, j2⟩ := qJoin hP hD hk1 hsub hP1 hD1
  exact kk u H1 locs1 hw j1 j2 hS1
theorem qI_pre {q : Nat} {o : va_E} (hP : va_P D vwCl (ws ++ [(q, o)]) H) (hD : va_D A (ws ++ [(q, o)])) (hK : va_K D vwCl (qT cA) s) (hE : qE s) :
    PreS s H (va_Pc [.ref q] (fun U => U.heap.size = H.size ∧ va_P D vwCl [(q, o)] U.heap ∧ va_K D vwCl (qT cA) U ∧ va_D (fun _ => True) [(q, o)] ∧ qE U)) [.ref q] := by
  have h1 : ∀ (k : Nat) (x : Nat × va_E), [(q, o)][k]? = some x → (ws ++ [(q, o)])[ws.length + k]? = some x := fun k x hx => by
    rw [List.getElem?_append_right (Nat.le_add_right _ _), Nat.add_sub_cancel_left]; exact hx
  refine ⟨fun a U g mk z => ?_, fun U hU hW => ⟨rfl, by rw [hU], fun k x hx => by rw [hU]; exact hP _ _ (h1 k x hx), va_K.moved hW.alike hK, ⟨fun i j p q hi hj e => ?_, fun _ _ _ => trivial⟩, hE.warm hW⟩⟩
  · obtain ⟨q0, q1, qP, qK, qD, qE⟩ := z
    exact ⟨q0, q1, qP, va_K.moved (u := U) (U := U.calling g mk a) (Vm.Alike.refl U.vm) qK, qD, qE.calling⟩
  · have := hD.1 _ _ p q (h1 i p hi) (h1 j q hj) e
    omega
/-- a constructor that is not private -/
theorem qI_call {y : MethodName} {bytes : ByteArray} {nL' idx nL q : Nat} {own : String} {o : va_E} {sk : List mz_E} {rm : Room} {Ts : List Cond} (hm : qI l D cA y bytes nL' o sk rm) (hx : p.tables.exec = Jvm.exec) (hb : c.code = cc) (hml : c.maxLocals = nL) (hown : s.vm.findClass own = some m.cls) (hts : ∀ w ∈ Ts, w.before args s = true)
    (hT : GoodIn Ts (Cond.code y bytes nL' none :: mq_Ts)) (hini : (Cond.initialized y.cls).before args s = true) (hlink : (Cond.methodLink own idx y).before args s = true) (hinst : (Cond.instanceMethod y).before args s = true) (hname : y.name = "<init>")
    (hd : y.cls ≠ "java/lang/invoke/MethodHandle" ∧ y.cls ≠ "java/lang/invoke/VarHandle" ∧ (parseMethodDescriptor y.desc).map (fun d => d.parameters.length) = some 0) (hR : rm.frames + 1 ≤ R.frames ∧ 8 + (nL' + 11) + rm.locals ≤ R.locals)
    (hK : va_K D vwCl (qT cA) s) (hE : qE s) (hP : va_P D vwCl (ws ++ [(q, o)]) H) (hD : va_D A (ws ++ [(q, o)])) (hS : va_S A H0 H locs) (hA : ∀ q, H0.size ≤ q → A q) (hsz : ls.size = nL) (a6 : (rest.map fun v => v.category).sum ≤ 8) (hdg : decode cc pc = .ok (.invokespecial idx, 3)) (hf : cells + rm.cells ≤ R.cells ∧ slots + rm.slots ≤ R.slots)
    (kk : ∀ (a : Nat → Nat) (H1 : Heap) (locs1 : List Loc), a 0 = q → va_P D vwCl (ws ++ mz_wl cA a mq_z0 0 sk) H1 → va_D A (ws ++ mz_wl cA a mq_z0 0 sk) → va_S A H0 H1 locs1 → W p l e R s m args below meth c H1 locs1 (cells + rm.cells) (slots + rm.slots) Q (F0 m (pc + 3) ls rest)) :
    W p l e R s m args below meth c H locs cells slots Q (F0 m pc ls (.ref q :: rest)) :=
  qI_back (y := y) (bytes := bytes) (nL' := nL') (idx := idx) (nL := nL) (own := own) (va_runI (As := []) (rest := rest) ⟨hx, hb, hml, hown, hts⟩ (hm q H.size) (cwI 0 hts hT rfl rfl rfl hini hlink hinst hname hd hR) (qI_pre hP hD hK hE) rfl rfl hsz rfl (lv_room a6) hdg hf) hP hD hS hA kk
/-- a nest mate's private one -/
theorem qI_callN {y : MethodName} {bytes : ByteArray} {nL' idx nL q : Nat} {own : String} {o : va_E} {sk : List mz_E} {rm : Room} {Ts : List Cond} (hm : qI l D cA y bytes nL' o sk rm) (hx : p.tables.exec = Jvm.exec) (hb : c.code = cc) (hml : c.maxLocals = nL) (hown : s.vm.findClass own = some m.cls) (hts : ∀ w ∈ Ts, w.before args s = true)
    (hT : GoodIn Ts (Cond.code y bytes nL' none :: mq_Ts)) (hini : (Cond.initialized y.cls).before args s = true) (hq : (own, idx, y) ∈ qN) (hinst : (Cond.instanceMethod y).before args s = true) (hname : y.name = "<init>")
    (hd : y.cls ≠ "java/lang/invoke/MethodHandle" ∧ y.cls ≠ "java/lang/invoke/VarHandle" ∧ (parseMethodDescriptor y.desc).map (fun d => d.parameters.length) = some 0) (hR : rm.frames + 1 ≤ R.frames ∧ 8 + (nL' + 11) + rm.locals ≤ R.locals)
    (hK : va_K D vwCl (qT cA) s) (hE : qE s) (hP : va_P D vwCl (ws ++ [(q, o)]) H) (hD : va_D A (ws ++ [(q, o)])) (hS : va_S A H0 H locs) (hA : ∀ q, H0.size ≤ q → A q) (hsz : ls.size = nL) (a6 : (rest.map fun v => v.category).sum ≤ 8) (hdg : decode cc pc = .ok (.invokespecial idx, 3)) (hf : cells + rm.cells ≤ R.cells ∧ slots + rm.slots ≤ R.slots)
    (kk : ∀ (a : Nat → Nat) (H1 : Heap) (locs1 : List Loc), a 0 = q → va_P D vwCl (ws ++ mz_wl cA a mq_z0 0 sk) H1 → va_D A (ws ++ mz_wl cA a mq_z0 0 sk) → va_S A H0 H1 locs1 → W p l e R s m args below meth c H1 locs1 (cells + rm.cells) (slots + rm.slots) Q (F0 m (pc + 3) ls rest)) :
    W p l e R s m args below meth c H locs cells slots Q (F0 m pc ls (.ref q :: rest)) :=
  qI_back (y := y) (bytes := bytes) (nL' := nL') (idx := idx) (nL := nL) (own := own) (va_runIN (As := []) (rest := rest) ⟨hx, hb, hml, hown, hts⟩ (hm q H.size) ⟨va_cnB 0 hts hT rfl rfl rfl (hE.1 _ hq) hini hd hR, hname, hinst⟩ (qI_pre hP hD hK hE) rfl rfl hsz rfl (lv_room a6) hdg hf) hP hD hS hA kk
theorem qz0 (c : ClassId) (N k : Nat) : vp_cell c (N, mz_con (fun _ => 0) mq_z0 k 0 []) = arrV c N (fun _ => defaultValue (newarray.typeOf .int)) := rfl
theorem qz1 (c : ClassId) (N k : Nat) : vp_cell c (N, mz_con (fun _ => 0) mq_z0 k 1 []) = arrV c N (fun _ => defaultValue (newarray.typeOf .byte)) := rfl
theorem qz2 (c : ClassId) (N k : Nat) : vp_cell c (N, mz_con (fun _ => 0) mq_z0 k 2 []) = arrV c N (fun _ => defaultValue (newarray.typeOf .long)) := rfl
/-- a row of ints, bytes or longs -/
theorem qNewa (hx : p.tables.exec = Jvm.exec) (hb : c.code = cc) {atype : ArrayType} {t N k : Nat} {n : Int32} (harr : (Cond.arrayClass (newarray.typeOf atype)).before args s = true) (ht : (qT cA)[t]? = some (cA t, newarray.typeOf atype)) (hz : ∀ c : ClassId, vp_cell c (N, mz_con (fun _ => 0) mq_z0 k t []) = arrV c N (fun _ => defaultValue (newarray.typeOf atype)))
    (hK : va_K D vwCl (qT cA) s) (hP : va_P D vwCl ws H) (hD : va_D A ws) (hS : va_S A H0 H locs) (hA : ∀ q, H0.size ≤ q → A q) (hn : ¬ n < 0) (hN : n.toNatClampNeg = N) (hbytes : N * componentBytes (newarray.typeOf atype) ≤ 536870912) (hcells : cells + 1 ≤ R.cells) (hslots : slots + N ≤ R.slots) (hdg : decode cc pc = .ok (.newarray atype, 2))
    (kk : ∀ (q : Nat) (H1 : Heap), va_P D vwCl (ws ++ [(q, .inl (cA t, N, mz_con (fun _ => 0) mq_z0 k t []))]) H1 → va_D A (ws ++ [(q, .inl (cA t, N, mz_con (fun _ => 0) mq_z0 k t []))]) → va_S A H0 H1 locs → W p l e R s m args below meth c H1 locs (cells + 1) (slots + N) Q (F0 m (pc + 2) ls (.ref q :: rest))) :
    W p l e R s m args below meth c H locs cells slots Q (F0 m pc ls (.int n :: rest)) := by
  refine va_newa (ty := newarray.typeOf atype) (a0 := (N, mz_con (fun _ => 0) mq_z0 k t [])) hx hb harr rfl hK hP hD hS hA hz hn hN hbytes hcells hslots hdg (fun q c' H1 hK1 hP1 hD1 hS1 => ?_)
  obtain rfl := qK_eq hK1 t ht
  exact kk q H1 hP1 hD1 hS1
end QI
theorem mq_good {ws : List Cond} {y : MethodName} {cc : ByteArray} {n : Nat} {r : Option FieldType} (h : Cond.code y cc n r ∈ mq_Ts) (hsub : ∀ w ∈ mq_Ts, w ∈ ws) : GoodIn ws (Cond.code y cc n r :: mq_Ts) := by
  intro w hw
  rcases List.mem_cons.mp hw with rfl | hw
  · exact ⟨hsub _ h, good_of_word (mq_hg _ h)⟩
  · exact ⟨hsub _ hw, good_of_word (mq_hg _ hw)⟩
