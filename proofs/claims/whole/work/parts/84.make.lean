/-! rows of rows: an array over arrays of t can be made -/
def va_AOA (t : FieldType) (U : State) : Prop := (Cond.arrayOver (.array t)).before #[] U = true
theorem va_AOA.use {t : FieldType} {A : Array Value} {U : State} (h : va_AOA t U) : (Cond.arrayOver (.array t)).before A U = true := over_moved (a := #[]) (Vm.Alike.refl _) h
/-! ===== BEGIN new T[n][m]: the outer array a place, the inner ones among the pooled ===== -/
/-- f, but v at every address of l -/
def vr_up {α : Type} (f : Nat → α) (l : List Nat) (v : α) : Nat → α := fun a => if a ∈ l then v else f a
theorem vr_up_in {α : Type} {f : Nat → α} {l : List Nat} {v : α} {a : Nat} (h : a ∈ l) : vr_up f l v a = v := if_pos h
theorem vr_up_ne {α : Type} {f : Nat → α} {l : List Nat} {v : α} {a : Nat} (h : a ∉ l) : vr_up f l v a = f a := if_neg h
theorem vr_rows {L l : List Nat} {f : Nat → va_E} {e : va_E} (h : ∀ a, a ∈ l → a ∉ L) : va_pl L f ++ l.map (fun a => (a, e)) = va_pl (L ++ l) (vr_up f l e) := by
  unfold va_pl
  rw [List.map_append]
  congr 1
  · apply List.map_congr_left
    intro a ha
    rw [vr_up_ne (fun q => h a q ha)]
  · apply List.map_congr_left
    intro a ha
    rw [vr_up_in ha]
theorem vr_lay {X rows : va_W} {x : Nat × va_E} {pl : va_W} {D : va_G} {cl : List vw_C} {H : Heap} (hP : va_P D cl (((X ++ pl) ++ [x]) ++ rows) H) : va_P D cl ((X ++ [x]) ++ (pl ++ rows)) H := by
  rw [List.append_assoc (X ++ pl)] at hP
  have h := va_P.swap hP
  rw [← List.append_assoc X] at h
  have h2 := va_P.swap h
  rw [List.append_assoc (X ++ [x])] at h2
  exact h2
theorem vr_layD {X rows : va_W} {x : Nat × va_E} {pl : va_W} {A : Nat → Prop} (hD : va_D A (((X ++ pl) ++ [x]) ++ rows)) : va_D A ((X ++ [x]) ++ (pl ++ rows)) := by
  rw [List.append_assoc (X ++ pl)] at hD
  have h := va_D.swap hD
  rw [← List.append_assoc X] at h
  have h2 := va_D.swap h
  rw [List.append_assoc (X ++ [x])] at h2
  exact h2
theorem vr_outer (c : ClassId) (N h0 : Nat) : ∀ i : Nat, Jvm.Free.Multi.outerC c N h0 i = arrV c N (fun j => va_rf (if j < i then some (h0 + 1 + j) else none))
  | 0 => by
    show ({ cls := c, slots := Array.replicate N .null, vm := .none } : Cell) = _
    rw [arrV_new]
    refine congrArg (arrV c N) (funext fun j => ?_)
    simp [va_rf]
  | i + 1 => by
    show (Jvm.Free.Multi.outerC c N h0 i).setSlot i (.ref (h0 + 1 + i)) = _
    rw [vr_outer c N h0 i, arrV_store]
    refine congrArg (arrV c N) (funext fun j => ?_)
    by_cases e : j = i
    · subst e
      simp [updV, va_rf]
    · by_cases h : j < i
      · simp [updV, e, h, Nat.lt_succ_of_lt h]
      · simp [updV, e, h, show ¬ j < i + 1 by omega]
section VGM
variable {p : Program} {l : Launch} {e : Env} {R : Room} {s : State} {m : MethodId} {args : Array Value} {below : List Frame} {meth : Method} {c : Code} {H : Heap} {locs : List Loc} {cells slots : Nat} {Q : State → Prop}
variable {cc : ByteArray} {pc : Nat} {ls : Array Slot} {rest : List Value} {D : va_G} {cl : List vw_C} {A : Nat → Prop} {a : Nat} {tys : List (ClassId × FieldType)} {ws : va_W} {H0 : Heap}
theorem va_mna {X : va_W} {L : List Nat} {f : Nat → va_E} {cc : ByteArray} (hexec : p.tables.exec = Jvm.exec) (hb : c.code = cc) {own : String} {index : Nat} {ty : FieldType} {cy : ClassId} (hown : s.vm.findClass own = some m.cls) (hclink : (Cond.classLink own index ("[" ++ (FieldType.array ty).toString)).before args s = true) (hover : va_AOA ty s) (harr : (Cond.arrayClass ty).before args s = true) (hcy : s.vm.findClass (FieldType.array ty).toString = some cy)
    (hK : va_K D cl tys s) (hP : va_P D cl (X ++ va_pl L f) H) (hD : va_D A (X ++ va_pl L f)) (hS : va_S A H0 H locs) (hA : ∀ q, H0.size ≤ q → A q) {n k : Int32} {N' K' : Nat} {z : vp_A} (hn : ¬ n < 0) (hk : ¬ k < 0) (hN : n.toNatClampNeg = N') (hM : k.toNatClampNeg = K')
    (hb1 : N' * 4 ≤ 536870912) (hb2 : K' * componentBytes ty ≤ 536870912) (hb3 : K' ≤ 536870912) (hdf : fits ty (defaultValue ty) = true) (hdd : (defaultValue ty).isDefault = true) (hcells : cells + (1 + N') ≤ R.cells) (hslots : slots + (N' + N' * K') ≤ R.slots) (hz : ∀ c : ClassId, Jvm.Free.Multi.innerC c K' (defaultValue ty) = vp_cell c z) (hdg : decode cc pc = .ok (.multianewarray index 2, 4))
    (kk : ∀ (q : Nat) (r : Nat → Nat) (cA : ClassId) (H1 : Heap), (∀ i j : Nat, i < N' → j < N' → r i = r j → i = j) → (∀ i : Nat, i < N' → r i ∉ L) → va_K D cl (tys ++ [(cA, .array ty)]) s →
      va_P D cl ((X ++ [(q, .inl (cA, N', .inr (.inr (.inr (.inr (fun i => if i < N' then some (r i) else none))))))]) ++ va_pl (L ++ (List.range N').map r) (vr_up f ((List.range N').map r) (.inl (cy, z)))) H1 → va_D A ((X ++ [(q, .inl (cA, N', .inr (.inr (.inr (.inr (fun i => if i < N' then some (r i) else none))))))]) ++ va_pl (L ++ (List.range N').map r) (vr_up f ((List.range N').map r) (.inl (cy, z)))) → va_S A H0 H1 locs →
      W p l e R s m args below meth c H1 locs (cells + 1 + N') (slots + N' + N' * K') Q (F0 m (pc + 4) ls (.ref q :: rest))) : W p l e R s m args below meth c H locs cells slots Q (F0 m pc ls (.int k :: .int n :: rest)) := by
  subst hN
  subst hM
  intro T hT Xs
  obtain ⟨vm₁, cA, comp, -, fA, fC, hO, -, X', step⟩ := Xs.multianewarray2F hexec hown hclink (va_AOA.use hover) harr (g := F0 m pc ls (.int k :: .int n :: rest)) rfl (by rw [hb]; exact hdg) rfl hn hk hb1 hb2 hb3 hdf hdd hcells hslots
  have ec : some cy = some comp := hcy.symm.trans fC
  cases ec
  generalize hF : Jvm.Free.Multi.fill (T.setVm vm₁) cA cy n.toNatClampNeg k.toNatClampNeg (defaultValue ty) n.toNatClampNeg = F at X' step
  have hTh : (T.setVm vm₁).heap = H := hT
  obtain ⟨f1, f2, -, -⟩ := Jvm.Free.Multi.fill_facts (T.setVm vm₁) cA cy n.toNatClampNeg k.toNatClampNeg (defaultValue ty) n.toNatClampNeg
  rw [hF, hTh] at f1 f2
  have hold : ∀ x : Nat, x < H.size → F.heap[x]? = H[x]? := fun x hx => by
    have := Jvm.Free.Multi.fill_old (T.setVm vm₁) cA cy n.toNatClampNeg k.toNatClampNeg (defaultValue ty) (a := x) (by rw [hTh]; exact hx) n.toNatClampNeg
    rw [hF, hTh] at this
    exact this
  have hrow : ∀ j : Nat, j < n.toNatClampNeg → F.heap[H.size + 1 + j]? = some (vp_cell cy z) := fun j hj => by
    have := Jvm.Free.Multi.fill_inner (T.setVm vm₁) cA cy n.toNatClampNeg k.toNatClampNeg (defaultValue ty) n.toNatClampNeg j hj
    rw [hF, hTh, hz] at this
    exact this
  have hout : Jvm.Free.Multi.outerC cA n.toNatClampNeg H.size n.toNatClampNeg = vp_cell cA (n.toNatClampNeg, .inr (.inr (.inr (.inr (fun i => if i < n.toNatClampNeg then some (H.size + 1 + i) else none))))) := by
    rw [vp_cell_q]
    exact vr_outer cA n.toNatClampNeg H.size n.toNatClampNeg
  rw [hout] at f2
  have hlt : ∀ a, a ∈ L → a < H.size := fun a ha => by
    obtain ⟨k9, hk9⟩ := va_pl_get (X := X) (f := f) ha
    exact (hP k9 _ hk9).lt
  have hnl : ∀ i : Nat, i < n.toNatClampNeg → H.size + 1 + i ∉ L := fun i _ h => by
    have := hlt _ h
    omega
  have hnm : ∀ a, a ∈ (List.range n.toNatClampNeg).map (fun i => H.size + 1 + i) → a ∉ L := fun a ha h => by
    obtain ⟨i, -, rfl⟩ := List.mem_map.mp ha
    have := hlt _ h
    omega
  have hP0 : va_P D cl (X ++ va_pl L f) F.heap := hP.kept (fun k9 x hx => hold x.1 ((hP k9 x hx).lt))
  have hP1 : va_P D cl ((X ++ va_pl L f) ++ [(H.size, .inl (cA, n.toNatClampNeg, .inr (.inr (.inr (.inr (fun i => if i < n.toNatClampNeg then some (H.size + 1 + i) else none))))))]) F.heap := hP0.app (fun k9 x hx => by
    have h0 : k9 < 1 := (List.getElem?_eq_some_iff.mp hx).1
    rw [show k9 = 0 by omega] at hx
    cases hx
    exact f2)
  have hP2 : va_P D cl (((X ++ va_pl L f) ++ [(H.size, .inl (cA, n.toNatClampNeg, .inr (.inr (.inr (.inr (fun i => if i < n.toNatClampNeg then some (H.size + 1 + i) else none))))))]) ++ ((List.range n.toNatClampNeg).map (fun i => H.size + 1 + i)).map (fun a => (a, .inl (cy, z)))) F.heap := hP1.app (fun k9 x hx => by
    obtain ⟨a, ha, rfl⟩ := List.mem_map.mp (List.mem_of_getElem? hx)
    obtain ⟨i, hi, rfl⟩ := List.mem_map.mp ha
    exact hrow i (List.mem_range.mp hi))
  have hD2 : va_D A (((X ++ va_pl L f) ++ [(H.size, .inl (cA, n.toNatClampNeg, .inr (.inr (.inr (.inr (fun i => if i < n.toNatClampNeg then some (H.size + 1 + i) else none))))))]) ++ ((List.range n.toNatClampNeg).map (fun i => H.size + 1 + i)).map (fun a => (a, .inl (cy, z)))) := by
    have hD1 := hD.push (e := .inl (cA, n.toNatClampNeg, .inr (.inr (.inr (.inr (fun i => if i < n.toNatClampNeg then some (H.size + 1 + i) else none)))))) hP rfl (hA _ hS.1)
    generalize hW1 : (X ++ va_pl L f) ++ [(H.size, .inl (cA, n.toNatClampNeg, .inr (.inr (.inr (.inr (fun i => if i < n.toNatClampNeg then some (H.size + 1 + i) else none))))))] = W1 at hD1 hP1 ⊢
    have hle : ∀ (k9 : Nat) (x : Nat × va_E), W1[k9]? = some x → x.1 ≤ H.size := fun k9 x hx => by
      rw [← hW1] at hx
      by_cases hl : k9 < (X ++ va_pl L f).length
      · rw [List.getElem?_append_left hl] at hx
        exact Nat.le_of_lt ((hP k9 x hx).lt)
      · rw [List.getElem?_append_right (by omega)] at hx
        have h0 : k9 - (X ++ va_pl L f).length < 1 := (List.getElem?_eq_some_iff.mp hx).1
        rw [show k9 - (X ++ va_pl L f).length = 0 by omega] at hx
        cases hx
        exact Nat.le_refl _
    have hr : ∀ (k9 : Nat) (x : Nat × va_E), (((List.range n.toNatClampNeg).map (fun i => H.size + 1 + i)).map (fun a => ((a, .inl (cy, z)) : Nat × va_E)))[k9]? = some x → x.1 = H.size + 1 + k9 := fun k9 x hx => by
      rw [List.getElem?_map, List.getElem?_map] at hx
      by_cases h9 : k9 < n.toNatClampNeg
      · rw [List.getElem?_range h9] at hx
        cases hx
        rfl
      · have hn0 : (List.range n.toNatClampNeg)[k9]? = none := List.getElem?_eq_none (by rw [List.length_range]; omega)
        rw [hn0] at hx
        cases hx
    refine ⟨fun i j x y hi hj hxy => ?_, fun k9 x hx => ?_⟩
    · by_cases h1 : i < W1.length <;> by_cases h2 : j < W1.length
      · rw [List.getElem?_append_left h1] at hi
        rw [List.getElem?_append_left h2] at hj
        exact hD1.1 i j x y hi hj hxy
      · rw [List.getElem?_append_left h1] at hi
        rw [List.getElem?_append_right (by omega)] at hj
        have := hle _ _ hi
        have := hr _ _ hj
        omega
      · rw [List.getElem?_append_right (by omega)] at hi
        rw [List.getElem?_append_left h2] at hj
        have := hle _ _ hj
        have := hr _ _ hi
        omega
      · rw [List.getElem?_append_right (by omega)] at hi hj
        have := hr _ _ hi
        have := hr _ _ hj
        omega
    · by_cases h1 : k9 < W1.length
      · rw [List.getElem?_append_left h1] at hx
        exact hD1.2 k9 x hx
      · rw [List.getElem?_append_right (by omega)] at hx
        have := hr _ _ hx
        exact hA _ (by have := hS.1; omega)
  have hAr : ArrOfT s cA (.array ty) := fun N9 z9 => by
    obtain ⟨-, k9, hk9, cm9, hkk9⟩ := (hO 0 0 0).1
    exact ⟨(fun q hq => by cases hq), k9, hk9, cm9, hkk9⟩
  have hK2 : va_K D cl (tys ++ [(cA, .array ty)]) s := ⟨hK.1, fun k9 x hx => by
    by_cases hl : k9 < tys.length
    · rw [List.getElem?_append_left hl] at hx
      exact hK.2 k9 x hx
    · rw [List.getElem?_append_right (by omega)] at hx
      have h0 : k9 - tys.length < 1 := (List.getElem?_eq_some_iff.mp hx).1
      rw [show k9 - tys.length = 0 by omega] at hx
      cases hx
      exact ⟨hAr, fA⟩⟩
  obtain ⟨t, a1, b1⟩ := kk H.size (fun i => H.size + 1 + i) cA F.heap (fun i j _ _ h => by have h9 : H.size + 1 + i = H.size + 1 + j := h; omega) hnl hK2 (by rw [← vr_rows hnm]; exact vr_lay hP2) (by rw [← vr_rows hnm]; exact vr_layD hD2) ⟨by rw [f1]; have := hS.1; omega, fun x h1 h2 => (hold x (Nat.lt_of_lt_of_le h1 hS.1)).trans (hS.2.1 x h1 h2), hS.2.2⟩ F rfl X'
  refine ⟨t, step t ?_, b1⟩
  have e : T.heap.size = H.size := by rw [hT]
  rw [e]
  exact a1
end VGM
/-! ===== END ===== -/

/-! making: what the constructors stand on -/
def mq_z0 : mz_M := (fun _ _ => 0, fun _ _ => 0)
/-- the links to nest mates' constructors -/
def qN : List (String × Nat × MethodName) := [(RX9, 9, yX2_init), (RX2, 11, yX0_init), (RX2, 20, yX1_init), (RX9, 28, yX7_init), (RX3, 15, yX7_init), (RX9, 45, yX8_init), (RX9, 52, yX6_init)]
def qE (U : State) : Prop := (∀ q ∈ qN, va_Nw (.methodLinkNest q.1 q.2.1 q.2.2 "FieldBases") U) ∧ va_AOA .int U ∧ va_AO RX7 U
theorem qE.warm {s U : State} (hW : s.WarmedH U.vm) (h : qE s) : qE U := ⟨fun q hq => va_Nw.warmM hW (h.1 q hq), over_moved (a := #[]) hW.alike h.2.1, va_AO.moved hW.alike h.2.2⟩
theorem qE.calling {U : State} {g : JFrame} {mk : MethodId} {a : Array Value} (h : qE U) : qE (U.calling g mk a) := ⟨fun q hq => va_Nw.same rfl rfl (h.1 q hq), over_moved (a := #[]) (Vm.Alike.refl _) h.2.1, va_AO.moved (Vm.Alike.refl _) h.2.2⟩
/-- the arrays' classes -/
def qT (cA : Nat → Nat) : List (ClassId × FieldType) := [(cA 0, .int), (cA 1, .byte), (cA 2, .long), (cA 3, .object RX7), (cA 4, .array .int)]
theorem va_RA.uniq {s : State} {c c' : ClassId} {ty : FieldType} (h : va_RA s c ty) (h' : va_RA s c' ty) : c' = c := by
  cases ty with
  | object C =>
    obtain ⟨-, -, -, -, -, h1⟩ := h
    obtain ⟨-, -, -, -, -, h2⟩ := h'
    exact Option.some.inj (h2.symm.trans h1)
  | _ => exact Option.some.inj (Eq.trans (Eq.symm h') h)
theorem qK_eq {D : va_G} {tys : List (ClassId × FieldType)} {c c' : ClassId} {ty : FieldType} {s : State} (hK : va_K D vwCl (tys ++ [(c', ty)]) s) (k : Nat) (h : tys[k]? = some (c, ty)) : c' = c := by
  have hlt : k < tys.length := (List.getElem?_eq_some_iff.mp h).1
  have h1 := hK.2 k (c, ty) (by rw [List.getElem?_append_left hlt]; exact h)
  have h2 := hK.2 tys.length (c', ty) (by rw [List.getElem?_append_right (Nat.le_refl _), Nat.sub_self]; rfl)
  exact va_RA.uniq h1.2 h2.2
/-- a join: the callee's cells stand last -/
theorem qJoin {A0 : Nat → Prop} {D : va_G} {cl : List vw_C} {ws wc w1 : va_W} {H H1 : Heap} (hP : va_P D cl (ws ++ wc) H) (hD : va_D A0 (ws ++ wc)) (hk : ∀ q : Nat, q < H.size → ¬ va_A wc H.size q → H1[q]? = H[q]?) (hF : ∀ q, va_A wc H.size q → A0 q) (hP1 : va_P D cl w1 H1) (hD1 : va_D (va_A wc H.size) w1) : va_P D cl (ws ++ w1) H1 ∧ va_D A0 (ws ++ w1) := by
  have hl : ∀ (k : Nat) (q : Nat × va_E), ws[k]? = some q → (ws ++ wc)[k]? = some q := fun k q hq => by
    rw [List.getElem?_append_left (List.getElem?_eq_some_iff.mp hq).1]; exact hq
  have hno : ∀ (k : Nat) (q : Nat × va_E), ws[k]? = some q → ¬ va_A wc H.size q.1 := by
    rintro k q hq (⟨j, e, hj⟩ | hj)
    · have hlt := (List.getElem?_eq_some_iff.mp hq).1
      have h2 : (ws ++ wc)[ws.length + j]? = some (q.1, e) := by
        rw [List.getElem?_append_right (Nat.le_add_right _ _), Nat.add_sub_cancel_left]; exact hj
      have := hD.1 k (ws.length + j) q (q.1, e) (hl k q hq) h2 rfl
      omega
    · exact absurd ((hP k q (hl k q hq)).lt) (Nat.not_lt.mpr hj)
  refine ⟨va_P.app (fun k q hq => (hP k q (hl k q hq)).kept (hk q.1 ((hP k q (hl k q hq)).lt) (hno k q hq))) hP1, va_D.app ⟨fun i j p q hi hj e => hD.1 i j p q (hl i p hi) (hl j q hj) e, fun k q hq => hD.2 k q (hl k q hq)⟩ (hD1.weaken (fun _ _ _ h => hF _ h)) (fun i j p q hi hj e => hno i p hi (by rw [e]; exact hD1.2 j q hj))⟩
/-- a constructor: on a new object, to the cells of sk, all nought -/
def qI (l : Launch) (D : va_G) (cA : Nat → Nat) (y : MethodName) (cc : ByteArray) (nL : Nat) (o : va_E) (sk : List mz_E) (rm : Room) : Prop :=
  ∀ h0 sz : Nat, Met l y (Cond.code y cc nL none :: mq_Ts) rm (va_Pc [.ref h0] (fun U => U.heap.size = sz ∧ va_P D vwCl [(h0, o)] U.heap ∧ va_K D vwCl (qT cA) U ∧ va_D (fun _ => True) [(h0, o)] ∧ qE U))
    (va_Qv (S := Nat → Nat) (fun a => a 0 = h0) (fun a t => va_P D vwCl (mz_wl cA a mq_z0 0 sk) t.heap ∧ va_K D vwCl (qT cA) t ∧ va_D (va_A [(h0, o)] sz) (mz_wl cA a mq_z0 0 sk)) (va_A [(h0, o)] sz)) rm.cells rm.slots (va_A [(h0, o)] sz)
section QI
variable {p : Program} {l : Launch} {e : Env} {R : Room} {s : State} {m : MethodId} {args : Array Value} {below : List Frame} {meth : Method} {c : Code} {H : Heap} {locs : List Loc} {cells slots : Nat} {Q : State → Prop}
variable {cc : ByteArray} {pc : Nat} {ls : Array Slot} {rest : List Value} {D : va_G} {cA : Nat → Nat} {A : Nat → Prop} {ws : va_W} {H0 : Heap}
/-- behind 'new C; dup', the constructor's call -/
theorem qI_back {y : MethodName} {bytes : ByteArray} {nL' idx nL q : Nat} {own : String} {o : va_E} {sk : List mz_E} {rm : Room}
    (hr : va_Run p l e R s m args below meth c H locs cells slots rm.cells rm.slots (F0 m pc ls (.ref q :: rest)) rest (va_Qv (S := Nat → Nat) (fun a => a 0 = q) (fun a t => va_P D vwCl (mz_wl cA a mq_z0 0 sk) t.heap ∧ va_K D vwCl (qT cA) t ∧ va_D (va_A [(q, o)] H.size) (mz_wl cA a mq_z0 0 sk)) (va_A [(q, o)] H.size) (Value.ref q :: []).toArray) (va_A [(q, o)] H.size))
    (hP : va_P D vwCl (ws ++ [(q, o)]) H) (hD : va_D A (ws ++ [(q, o)])) (hS : va_S A H0 H locs) (hA : ∀ q, H0.size ≤ q → A q)
    (kk : ∀ (a : Nat → Nat) (H1 : Heap) (locs1 : List Loc), a 0 = q → va_P D vwCl (ws ++ mz_wl cA a mq_z0 0 sk) H1 → va_D A (ws ++ mz_wl cA a mq_z0 0 sk) → va_S A H0 H1 locs1 → W p l e R s m args below meth c H1 locs1 (cells + rm.cells) (slots + rm.slots) Q (F0 m (pc + 3) ls rest)) :
    W p l e R s m args below meth c H locs cells slots Q (F0 m pc ls (.ref q :: rest)) := by
  have hsub : ∀ x, va_A [(q, o)] H.size x → A x := by
    rintro x (⟨k, e0, h⟩ | h)
    · have hk : k < 1 := (List.getElem?_eq_some_iff.mp h).1
      rw [show k = 0 by omega] at h
      have h1 : (ws ++ [(q, o)])[ws.length]? = some (q, o) := by rw [List.getElem?_append_right (Nat.le_refl _), Nat.sub_self]; rfl
      have h2 := hD.2 _ _ h1
      have e9 : (q, o) = (x, e0) := Option.some.inj h
      rw [← (Prod.mk.inj e9).1]
      exact h2
    · exact hA x (Nat.le_trans hS.1 h)
  refine va_callv hr hS (fun x _ h => hsub x h) hsub (fun u t H1 locs1 ht hvm hw hB hz1 hk1 hS1 => ?_)
  obtain ⟨hP1, hK1, hD1⟩ := hB
  rw [ht] at hP1
  obtain ⟨j1, j2⟩ := qJoin hP hD hk1 hsub hP1 hD1
  exact kk u H1 locs1 hw j1 j2 hS1
theorem qI_pre {q : Nat} {o : va_E} (hP : va_P D vwCl (ws ++ [(q, o)]) H) (hD : va_D A (ws ++ [(q, o)])) (hK : va_K D vwCl (qT cA) s) (hE : qE s) :
    PreS s H (va_Pc [.ref q] (fun U => U.heap.size = H.size ∧ va_P D vwCl [(q, o)] U.heap ∧ va_K D vwCl (qT cA) U ∧ va_D (fun _ => True) [(q, o)] ∧ qE U)) [.ref q] := by
  have h1 : ∀ (k : Nat) (x : Nat × va_E), [(q, o)][k]? = some x → (ws ++ [(q, o)])[ws.length + k]? = some x := fun k x hx => by
    rw [List.getElem?_append_right (Nat.le_add_right _ _), Nat.add_sub_cancel_left]; exact hx
  refine ⟨fun a U g mk z => ?_, fun U hU hW => ⟨rfl, by rw [hU], fun k x hx => by rw [hU]; exact hP _ _ (h1 k x hx), va_K.moved hW.alike hK, ⟨fun i j p q hi hj e => ?_, fun _ _ _ => trivial⟩, hE.warm hW⟩⟩
  · obtain ⟨q0, q1, qP, qK, qD, qE⟩ := z
    exact ⟨q0, q1, qP, va_K.moved (u := U) (U := U.calling g mk a) (Vm.Alike.refl U.vm) qK, qD, qE.calling⟩
  · have := hD.1 _ _ p q (h1 i p hi) (h1 j q hj) e
    omega
/-- a constructor that is not private -/
theorem qI_call {y : MethodName} {bytes : ByteArray} {nL' idx nL q : Nat} {own : String} {o : va_E} {sk : List mz_E} {rm : Room} {Ts : List Cond} (hm : qI l D cA y bytes nL' o sk rm) (hx : p.tables.exec = Jvm.exec) (hb : c.code = cc) (hml : c.maxLocals = nL) (hown : s.vm.findClass own = some m.cls) (hts : ∀ w ∈ Ts, w.before args s = true)
    (hT : GoodIn Ts (Cond.code y bytes nL' none :: mq_Ts)) (hini : (Cond.initialized y.cls).before args s = true) (hlink : (Cond.methodLink own idx y).before args s = true) (hinst : (Cond.instanceMethod y).before args s = true) (hname : y.name = "<init>")
    (hd : y.cls ≠ "java/lang/invoke/MethodHandle" ∧ y.cls ≠ "java/lang/invoke/VarHandle" ∧ (parseMethodDescriptor y.desc).map (fun d => d.parameters.length) = some 0) (hR : rm.frames + 1 ≤ R.frames ∧ 8 + (nL' + 11) + rm.locals ≤ R.locals)
    (hK : va_K D vwCl (qT cA) s) (hE : qE s) (hP : va_P D vwCl (ws ++ [(q, o)]) H) (hD : va_D A (ws ++ [(q, o)])) (hS : va_S A H0 H locs) (hA : ∀ q, H0.size ≤ q → A q) (hsz : ls.size = nL) (a6 : (rest.map fun v => v.category).sum ≤ 8) (hdg : decode cc pc = .ok (.invokespecial idx, 3)) (hf : cells + rm.cells ≤ R.cells ∧ slots + rm.slots ≤ R.slots)
    (kk : ∀ (a : Nat → Nat) (H1 : Heap) (locs1 : List Loc), a 0 = q → va_P D vwCl (ws ++ mz_wl cA a mq_z0 0 sk) H1 → va_D A (ws ++ mz_wl cA a mq_z0 0 sk) → va_S A H0 H1 locs1 → W p l e R s m args below meth c H1 locs1 (cells + rm.cells) (slots + rm.slots) Q (F0 m (pc + 3) ls rest)) :
    W p l e R s m args below meth c H locs cells slots Q (F0 m pc ls (.ref q :: rest)) :=
  qI_back (y := y) (bytes := bytes) (nL' := nL') (idx := idx) (nL := nL) (own := own) (va_runI (As := []) (rest := rest) ⟨hx, hb, hml, hown, hts⟩ (hm q H.size) (cwI 0 hts hT rfl rfl rfl hini hlink hinst hname hd hR) (qI_pre hP hD hK hE) rfl rfl hsz rfl (lv_room a6) hdg hf) hP hD hS hA kk
/-- a nest mate's private one -/
theorem qI_callN {y : MethodName} {bytes : ByteArray} {nL' idx nL q : Nat} {own : String} {o : va_E} {sk : List mz_E} {rm : Room} {Ts : List Cond} (hm : qI l D cA y bytes nL' o sk rm) (hx : p.tables.exec = Jvm.exec) (hb : c.code = cc) (hml : c.maxLocals = nL) (hown : s.vm.findClass own = some m.cls) (hts : ∀ w ∈ Ts, w.before args s = true)
    (hT : GoodIn Ts (Cond.code y bytes nL' none :: mq_Ts)) (hini : (Cond.initialized y.cls).before args s = true) (hq : (own, idx, y) ∈ qN) (hinst : (Cond.instanceMethod y).before args s = true) (hname : y.name = "<init>")
    (hd : y.cls ≠ "java/lang/invoke/MethodHandle" ∧ y.cls ≠ "java/lang/invoke/VarHandle" ∧ (parseMethodDescriptor y.desc).map (fun d => d.parameters.length) = some 0) (hR : rm.frames + 1 ≤ R.frames ∧ 8 + (nL' + 11) + rm.locals ≤ R.locals)
    (hK : va_K D vwCl (qT cA) s) (hE : qE s) (hP : va_P D vwCl (ws ++ [(q, o)]) H) (hD : va_D A (ws ++ [(q, o)])) (hS : va_S A H0 H locs) (hA : ∀ q, H0.size ≤ q → A q) (hsz : ls.size = nL) (a6 : (rest.map fun v => v.category).sum ≤ 8) (hdg : decode cc pc = .ok (.invokespecial idx, 3)) (hf : cells + rm.cells ≤ R.cells ∧ slots + rm.slots ≤ R.slots)
    (kk : ∀ (a : Nat → Nat) (H1 : Heap) (locs1 : List Loc), a 0 = q → va_P D vwCl (ws ++ mz_wl cA a mq_z0 0 sk) H1 → va_D A (ws ++ mz_wl cA a mq_z0 0 sk) → va_S A H0 H1 locs1 → W p l e R s m args below meth c H1 locs1 (cells + rm.cells) (slots + rm.slots) Q (F0 m (pc + 3) ls rest)) :
    W p l e R s m args below meth c H locs cells slots Q (F0 m pc ls (.ref q :: rest)) :=
  qI_back (y := y) (bytes := bytes) (nL' := nL') (idx := idx) (nL := nL) (own := own) (va_runIN (As := []) (rest := rest) ⟨hx, hb, hml, hown, hts⟩ (hm q H.size) ⟨va_cnB 0 hts hT rfl rfl rfl (hE.1 _ hq) hini hd hR, hname, hinst⟩ (qI_pre hP hD hK hE) rfl rfl hsz rfl (lv_room a6) hdg hf) hP hD hS hA kk
theorem qz0 (c : ClassId) (N k : Nat) : vp_cell c (N, mz_con (fun _ => 0) mq_z0 k 0 []) = arrV c N (fun _ => defaultValue (newarray.typeOf .int)) := rfl
theorem qz1 (c : ClassId) (N k : Nat) : vp_cell c (N, mz_con (fun _ => 0) mq_z0 k 1 []) = arrV c N (fun _ => defaultValue (newarray.typeOf .byte)) := rfl
theorem qz2 (c : ClassId) (N k : Nat) : vp_cell c (N, mz_con (fun _ => 0) mq_z0 k 2 []) = arrV c N (fun _ => defaultValue (newarray.typeOf .long)) := rfl
/-- a row of ints, bytes or longs -/
theorem qNewa (hx : p.tables.exec = Jvm.exec) (hb : c.code = cc) {atype : ArrayType} {t N k : Nat} {n : Int32} (harr : (Cond.arrayClass (newarray.typeOf atype)).before args s = true) (ht : (qT cA)[t]? = some (cA t, newarray.typeOf atype)) (hz : ∀ c : ClassId, vp_cell c (N, mz_con (fun _ => 0) mq_z0 k t []) = arrV c N (fun _ => defaultValue (newarray.typeOf atype)))
    (hK : va_K D vwCl (qT cA) s) (hP : va_P D vwCl ws H) (hD : va_D A ws) (hS : va_S A H0 H locs) (hA : ∀ q, H0.size ≤ q → A q) (hn : ¬ n < 0) (hN : n.toNatClampNeg = N) (hbytes : N * componentBytes (newarray.typeOf atype) ≤ 536870912) (hcells : cells + 1 ≤ R.cells) (hslots : slots + N ≤ R.slots) (hdg : decode cc pc = .ok (.newarray atype, 2))
    (kk : ∀ (q : Nat) (H1 : Heap), va_P D vwCl (ws ++ [(q, .inl (cA t, N, mz_con (fun _ => 0) mq_z0 k t []))]) H1 → va_D A (ws ++ [(q, .inl (cA t, N, mz_con (fun _ => 0) mq_z0 k t []))]) → va_S A H0 H1 locs → W p l e R s m args below meth c H1 locs (cells + 1) (slots + N) Q (F0 m (pc + 2) ls (.ref q :: rest))) :
    W p l e R s m args below meth c H locs cells slots Q (F0 m pc ls (.int n :: rest)) := by
  refine va_newa (ty := newarray.typeOf atype) (a0 := (N, mz_con (fun _ => 0) mq_z0 k t [])) hx hb harr rfl hK hP hD hS hA hz hn hN hbytes hcells hslots hdg (fun q c' H1 hK1 hP1 hD1 hS1 => ?_)
  obtain rfl := qK_eq hK1 t ht
  exact kk q H1 hP1 hD1 hS1
end QI
theorem mq_good {ws : List Cond} {y : MethodName} {cc : ByteArray} {n : Nat} {r : Option FieldType} (h : Cond.code y cc n r ∈ mq_Ts) (hsub : ∀ w ∈ mq_Ts, w ∈ ws) : GoodIn ws (Cond.code y cc n r :: mq_Ts) := by
  intro w hw
  rcases List.mem_cons.mp hw with rfl | hw
  · exact ⟨hsub _ h, good_of_word (mq_hg _ h)⟩
  · exact ⟨hsub _ hw, good_of_word (mq_hg _ hw)⟩
