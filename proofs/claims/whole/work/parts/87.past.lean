/-! cells under other numbers -/
def shE (d : Nat) (e : mz_E) : mz_E := match e with
  | .inl (t, n, rs) => .inl (t, n, rs.map (fun x => x + d))
  | .inr (ci, fs) => .inr (ci, fs.map (fun o => o.map (fun x => x + d)))
def shOk (N : Nat) (e : mz_E) : Bool := match e with
  | .inl (_, _, rs) => rs.all (fun x => decide (x < N))
  | .inr (_, fs) => fs.all (fun o => match o with
    | some x => decide (x < N)
    | none => true)
theorem shFs {a ad : Nat → Nat} {d N : Nat} (h : ∀ i, i < N → ad (i + d) = a i) (k k' : Nat) : ∀ (fs : List (Option Nat)) (b : Nat), fs.all (fun o => match o with
    | some x => decide (x < N)
    | none => true) = true → mz_fs ad mq_z0 k' b (fs.map (fun o => o.map (fun x => x + d))) = mz_fs a mq_z0 k b fs
  | [], b, _ => rfl
  | none :: r, b, hr => by
    simp only [List.all_cons, Bool.and_eq_true] at hr
    show Value.int (mq_z0.1 k' b) :: mz_fs ad mq_z0 k' (b + 1) _ = .int (mq_z0.1 k b) :: mz_fs a mq_z0 k (b + 1) r
    rw [shFs h k k' r (b + 1) hr.2]
    rfl
  | some x :: r, b, hr => by
    simp only [List.all_cons, Bool.and_eq_true, decide_eq_true_eq] at hr
    show Value.ref (ad (x + d)) :: mz_fs ad mq_z0 k' (b + 1) _ = .ref (a x) :: mz_fs a mq_z0 k (b + 1) r
    rw [shFs h k k' r (b + 1) hr.2, h x hr.1]
theorem shWl {cA a ad : Nat → Nat} {d N : Nat} (h : ∀ i, i < N → ad (i + d) = a i) : ∀ (l : List mz_E) (k : Nat), k + l.length ≤ N → l.all (shOk N) = true → mz_wl cA ad mq_z0 (k + d) (l.map (shE d)) = mz_wl cA a mq_z0 k l
  | [], k, _, _ => rfl
  | e :: r, k, hk, hr => by
    simp only [List.all_cons, Bool.and_eq_true] at hr
    simp only [List.length_cons] at hk
    have ih := shWl (cA := cA) h r (k + 1) (by omega) hr.2
    show (ad (k + d), mz_ent cA ad mq_z0 (k + d) (shE d e)) :: mz_wl cA ad mq_z0 (k + d + 1) (r.map (shE d)) = (a k, mz_ent cA a mq_z0 k e) :: mz_wl cA a mq_z0 (k + 1) r
    rw [show k + d + 1 = k + 1 + d by omega, ih, h k (by omega)]
    congr 2
    obtain ⟨t, n, rs⟩ | ⟨ci, fs⟩ := e
    · show Sum.inl (cA t, n, mz_con ad mq_z0 (k + d) t (rs.map (fun x => x + d))) = .inl (cA t, n, mz_con a mq_z0 k t rs)
      congr 3
      match t with
      | 0 => rfl
      | 1 => rfl
      | 2 => rfl
      | t + 3 =>
        have hf : (fun j => if j < (rs.map (fun x => x + d)).length then some (ad ((rs.map (fun x => x + d)).getD j 0)) else none) = (fun j => if j < rs.length then some (a (rs.getD j 0)) else none) := by
          funext j
          rw [List.length_map]
          by_cases hj : j < rs.length
          · rw [if_pos hj, if_pos hj, List.getD_eq_getElem?_getD, List.getD_eq_getElem?_getD, List.getElem?_map, List.getElem?_eq_getElem hj]
            show some (ad (rs[j] + d)) = some (a rs[j])
            rw [h]
            exact of_decide_eq_true (List.all_eq_true.mp hr.1 _ (List.getElem_mem hj))
          · rw [if_neg hj, if_neg hj]
        exact congrArg (fun f => (Sum.inr (Sum.inr (Sum.inr (Sum.inr f))) : (Nat → Int32) ⊕ (Nat → Int64) ⊕ (Nat → UInt32) ⊕ (Nat → UInt64) ⊕ (Nat → Option Nat))) hf
    · show Sum.inr (ci, mz_fs ad mq_z0 (k + d) 0 (fs.map (fun o => o.map (fun x => x + d)))) = .inr (ci, mz_fs a mq_z0 k 0 fs)
      rw [shFs h k (k + d) fs 0 hr.1]
/-! the past's constructor: eight states -/
def qPs (h0 q1 : Nat) (cA : Nat → Nat) (f : Nat → Option Nat) : va_W := [(h0, .inr (3, [.ref q1, .int 0, .int 0])), (q1, .inl (cA 3, 8, .inr (.inr (.inr (.inr f)))))]
set_option maxHeartbeats 4000000 in
theorem qPast_turn {p : Program} {l : Launch} {e : Env} {Ro : Room} {s : State} {m : MethodId} {args : Array Value} {below : List Frame} {meth : Method} {c : Code} {Q : State → Prop} {D : va_G} {cA : Nat → Nat} {A : Nat → Prop} {ws : va_W} {f : Nat → Option Nat} {i h0 q1 cells slots : Nat} {H H0 : Heap} {locs : List Loc} {ls : Array Slot} {Ts : List Cond} (hx : p.tables.exec = Jvm.exec) (hb : c.code = cX3_init) (hml : c.maxLocals = 2) (hown : s.vm.findClass RX3 = some m.cls) (hts : ∀ w ∈ Ts, w.before args s = true) (hsub : ∀ w ∈ mq_Ts, w ∈ Ts) (hK : va_K D vwCl (qT cA) s) (hE : qE s) (hi : i < 8)
    (hP : va_P D vwCl (qPs h0 q1 cA f ++ ws) H) (hD : va_D A (qPs h0 q1 cA f ++ ws)) (hS : va_S A H0 H locs) (hA : ∀ q : Nat, H0.size ≤ q → A q) (hl : lv_has ls 2 [(1, .int (nI i)), (0, .ref h0)]) (hc : cells + 6 ≤ Ro.cells) (hsl : slots + 38 ≤ Ro.slots) (hfr : 2 ≤ Ro.frames) (hlo : 32 ≤ Ro.locals)
    (kk : ∀ (a : Nat → Nat) (H1 : Heap) (locs1 : List Loc) (ls1 : Array Slot), va_P D vwCl (qPs h0 q1 cA (va_up f i (some (a 0))) ++ (ws ++ mz_wl cA a mq_z0 0 sk_X7)) H1 → va_D A (qPs h0 q1 cA (va_up f i (some (a 0))) ++ (ws ++ mz_wl cA a mq_z0 0 sk_X7)) → va_S A H0 H1 locs1 → lv_has ls1 2 [(1, .int (nI (i + 1))), (0, .ref h0)] → W p l e Ro s m args below meth c H1 locs1 (cells + 1 + 5) (slots + 2 + 36) Q (F0 m 15 ls1 [])) :
    W p l e Ro s m args below meth c H locs cells slots Q (F0 m 15 ls []) := by
  have hq : ∀ w ∈ mq_Ts, w.before args s = true := fun w hw => hts w (hsub w hw)
  refine lv_iload_n hx hb dX3_init_15 rfl (lv_at hl 0 rfl) ?_
  refine lv_bipush (v := 8) hx hb dX3_init_16 rfl ?_
  refine lv_icmp_ge (tgt := 40) hx hb dX3_init_18 rfl (fun q => ?_) (fun _ => ?_)
  · exfalso
    have q : nI 8 ≤ nI i := q
    have h1 : ¬ (nI i < nI 8) := Int32.not_lt.mpr q
    exact h1 ((zn_lt (by omega) (by decide)).mpr hi)
  refine lv_aload_n hx hb dX3_init_21 rfl (lv_at hl 1 rfl) ?_
  refine va_get (D := D) (ci := 3) (C := RX3) (T := TX3) (N := 3) (fs := [.ref q1, .int 0, .int 0]) hx hb hq (fun w hw => mq_iu w (mq_u3 w hw)) hown hK hP 0 rfl rfl 0 (by decide) (hq _ (mq_at_in (q := (1, 117)) (by decide +kernel))) (fun _ h9 => h9) rfl dX3_init_22 ?_
  refine lv_iload_n hx hb dX3_init_25 rfl (lv_at hl 0 rfl) ?_
  refine va_new (ci := 5) (fs := [.int 0, .null]) (C := RX7) (T := TX7) (N := 2) hx hb hq (fun w hw => mq_iu w (mq_u5 w hw)) tyX7 tyX7_ok hown (hq _ (mq_at_in (q := (1, 114)) (by decide +kernel))) (hq _ (mq_at_in (q := (1, 92)) (by decide +kernel))) (hq _ (mq_at_in (q := (1, 5)) (by decide +kernel))) hK hP hD hS hA rfl (fun j hj => by rcases (show j = 0 ∨ j = 1 by omega) with rfl | rfl <;> rfl) (Nat.le_trans (Nat.add_le_add_left (by decide) cells) hc) (Nat.le_trans (Nat.add_le_add_left (by decide) slots) hsl) dX3_init_26 (fun q H hP hD hS => ?_)
  refine lv_dup hx hb dX3_init_29 rfl ?_
  refine qI_callN (own := RX3) (idx := 15) (ws := qPs h0 q1 cA f ++ ws) (cI_X7 l D cA) hx hb hml hown hts (mq_good (mq_at_in (q := (1, 95)) (by decide +kernel)) hsub) (hq _ (mq_at_in (q := (1, 5)) (by decide +kernel))) (by decide +kernel) (hq _ (mq_at_in (q := (1, 94)) (by decide +kernel))) rfl (by decide +kernel) ⟨hfr, hlo⟩ hK hE hP hD hS hA hl.1 (Nat.le_of_ble_eq_true rfl) dX3_init_30 ⟨by show cells + 1 + 5 ≤ _; omega, by show slots + 2 + 36 ≤ _; omega⟩ (fun a H locs h1 hPn hDn hS => ?_)
  obtain rfl := h1
  have hP : va_P D vwCl (qPs h0 q1 cA f ++ (ws ++ mz_wl cA a mq_z0 0 sk_X7)) H := by rw [← List.append_assoc]; exact hPn
  have hD : va_D A (qPs h0 q1 cA f ++ (ws ++ mz_wl cA a mq_z0 0 sk_X7)) := by rw [← List.append_assoc]; exact hDn
  have hidx : (qPs h0 q1 cA f ++ (ws ++ mz_wl cA a mq_z0 0 sk_X7))[2 + ws.length]? = some (a 0, .inr (5, [.int 0, .ref (a 1)])) := by
    rw [List.getElem?_append_right (by show 2 ≤ 2 + ws.length; omega), show 2 + ws.length - (qPs h0 q1 cA f).length = ws.length by show 2 + ws.length - 2 = _; omega, List.getElem?_append_right (Nat.le_refl _), Nat.sub_self]
    rfl
  have hcl : (nI i).toNatClampNeg = i := zn_cl (by omega)
  refine va_astq hx hb hK hP hD hS 1 3 (2 + ws.length) 5 (n := 8) (f := f) rfl rfl hidx (r := (RX7, TX7, 2)) rfl (i := nI i) (zn_in hi (by decide)) dX3_init_33 (fun H locs hP hD hS => ?_)
  rw [hcl] at hP hD
  refine lv_iinc (v := nI (i + 1)) (k := 0) (nL := 2) (lv' := [(1, .int (nI (i + 1))), (0, .ref h0)]) hx hb dX3_init_34 hl rfl (nI_1 i) (by decide) rfl (fun ls hl => ?_)
  exact lv_goto (tgt := 15) hx hb dX3_init_37 rfl (kk a H locs ls hP hD hS hl)
def sk_X3 : List mz_E := [.inr (3, [some 1, none, none]), .inl (3, 8, [2, 8, 14, 20, 26, 32, 38, 44]), .inr (5, [none, some 3]), .inl (4, 4, [4, 5, 6, 7]), .inl (0, 8, []), .inl (0, 8, []), .inl (0, 8, []), .inl (0, 8, []), .inr (5, [none, some 9]), .inl (4, 4, [10, 11, 12, 13]), .inl (0, 8, []), .inl (0, 8, []), .inl (0, 8, []), .inl (0, 8, []), .inr (5, [none, some 15]), .inl (4, 4, [16, 17, 18, 19]), .inl (0, 8, []), .inl (0, 8, []), .inl (0, 8, []), .inl (0, 8, []), .inr (5, [none, some 21]), .inl (4, 4, [22, 23, 24, 25]), .inl (0, 8, []), .inl (0, 8, []), .inl (0, 8, []), .inl (0, 8, []), .inr (5, [none, some 27]), .inl (4, 4, [28, 29, 30, 31]), .inl (0, 8, []), .inl (0, 8, []), .inl (0, 8, []), .inl (0, 8, []), .inr (5, [none, some 33]), .inl (4, 4, [34, 35, 36, 37]), .inl (0, 8, []), .inl (0, 8, []), .inl (0, 8, []), .inl (0, 8, []), .inr (5, [none, some 39]), .inl (4, 4, [40, 41, 42, 43]), .inl (0, 8, []), .inl (0, 8, []), .inl (0, 8, []), .inl (0, 8, []), .inr (5, [none, some 45]), .inl (4, 4, [46, 47, 48, 49]), .inl (0, 8, []), .inl (0, 8, []), .inl (0, 8, []), .inl (0, 8, [])]
def rm_X3 : Room := { frames := 2, cells := 49, slots := 312, locals := 32 }
set_option maxHeartbeats 4000000 in
set_option maxRecDepth 100000 in
theorem cI_X3 (l : Launch) (D : va_G) (cA : Nat → Nat) : qI l D cA yX3_init cX3_init 2 (.inr (3, [.null, .int 0, .int 0])) sk_X3 rm_X3 := by
  intro h0 sz
  refine Met.ofW (cc := cX3_init) (maxL := 2) (ret := none) (by decide) rfl ?_
  intro p e s m args below meth c s₁ B hml hv
  obtain ⟨rfl, hsz, hP, hK, hD0, hE⟩ := hv
  have hx := B.exec
  have hb := B.bytes
  have hr := B.returns
  have hts := atoms_spec (ws := Cond.code yX3_init cX3_init 2 none :: mq_Ts) B.pre
  have hq : ∀ w ∈ mq_Ts, w.before ([Value.ref h0] : List Value).toArray s = true := fun w hw => hts w (List.mem_cons_of_mem _ hw)
  have hown : s.vm.findClass RX3 = some m.cls := findClass_of_methodNamed B.named
  have hlocks := B.notSynchronized
  have hin : meth.name = "<init>" := (name_of_methodNamed B.named B.method).1
  subst hsz
  have hD := hD0.self (sz := s.heap.size)
  generalize hAe : va_A [(h0, .inr (3, [.null, .int 0, .int 0]))] s.heap.size = A at hD ⊢
  have hA : ∀ q : Nat, s.heap.size ≤ q → A q := fun q h => by rw [← hAe]; exact Or.inr h
  have hS : va_S A s.heap s.heap [] := va_S.rf
  have hl := lv_entry ([.ref h0]) (n := 2) (Nat.le_of_ble_eq_true rfl)
  rw [lg_entry_eq]
  generalize (lg_sl ([.ref h0]) ++ List.replicate (2 - (lg_sl ([.ref h0])).length) Slot.unset).toArray = ls at hl ⊢
  have hl : lv_has ls 2 [(0, .ref h0)] := hl
  refine lv_aload_n hx hb dX3_init_0 rfl (lv_at hl 0 rfl) ?_
  refine W.objInit hx hb hown (hq _ (mq_at_in (q := (1, 113)) (by decide +kernel))) (hq _ (mq_at_in (q := (1, 25)) (by decide +kernel))) (hq _ (mq_at_in (q := (1, 26)) (by decide +kernel))) rfl (by rw [hml]; exact hl.1) rfl dX3_init_1 (Nat.le_of_ble_eq_true rfl) (Nat.le_of_ble_eq_true rfl) ?_
  refine W.eq (g2 := F0 m 4 ls []) rfl ?_
  refine lv_aload_n hx hb dX3_init_4 rfl (lv_at hl 0 rfl) ?_
  refine lv_bipush (v := 8) hx hb dX3_init_5 rfl ?_
  refine va_newq (N' := 8) hx hb hown (hq _ (mq_at_in (q := (1, 114)) (by decide +kernel))) hE.2.2 hK hP hD hS hA (by decide +kernel) (by decide +kernel) (Nat.le_of_ble_eq_true rfl) (Nat.le_of_ble_eq_true rfl) (Nat.le_of_ble_eq_true rfl) dX3_init_7 (fun q1 c3 H hK1 hP hD hS => ?_)
  obtain rfl := qK_eq hK1 3 rfl
  refine va_putF (D := D) (ci := 3) (v := .ref q1) (ty := .array (.object RX7)) (C := RX3) (T := TX3) (N := 3) hx hb hq (fun w hw => mq_iu w (mq_u3 w hw)) tyX3 tyX3_ok nmX3 hown hK hP hD hS 0 rfl rfl 0 (by decide) (hq _ (mq_at_in (q := (1, 117)) (by decide +kernel))) (fun _ h9 => h9) rfl hin rfl (by decide +kernel) rfl rfl (Nat.le_of_ble_eq_true rfl) dX3_init_10 (fun H locs hP hD hS => ?_)
  refine lv_iconst (v := 0) hx hb dX3_init_13 rfl ?_
  refine lv_istore_n (i := 1) (nL := 2) (lv' := [(1, .int (nI 0)), (0, .ref h0)]) hx hb dX3_init_14 rfl hl (by decide) rfl (fun ls hl => ?_)
  have hP : va_P D vwCl (qPs h0 q1 cA (fun _ => none) ++ []) H := hP
  have hD : va_D A (qPs h0 q1 cA (fun _ => none) ++ []) := hD
  refine qPast_turn (i := 0) hx hb hml hown hts (fun w hw => List.mem_cons_of_mem _ hw) hK hE (by decide) hP hD hS hA hl (Nat.le_of_ble_eq_true rfl) (Nat.le_of_ble_eq_true rfl) (Nat.le_of_ble_eq_true rfl) (Nat.le_of_ble_eq_true rfl) (fun a0 H locs ls hP hD hS hl => ?_)
  refine qPast_turn (i := 1) hx hb hml hown hts (fun w hw => List.mem_cons_of_mem _ hw) hK hE (by decide) hP hD hS hA hl (Nat.le_of_ble_eq_true rfl) (Nat.le_of_ble_eq_true rfl) (Nat.le_of_ble_eq_true rfl) (Nat.le_of_ble_eq_true rfl) (fun a1 H locs ls hP hD hS hl => ?_)
  refine qPast_turn (i := 2) hx hb hml hown hts (fun w hw => List.mem_cons_of_mem _ hw) hK hE (by decide) hP hD hS hA hl (Nat.le_of_ble_eq_true rfl) (Nat.le_of_ble_eq_true rfl) (Nat.le_of_ble_eq_true rfl) (Nat.le_of_ble_eq_true rfl) (fun a2 H locs ls hP hD hS hl => ?_)
  refine qPast_turn (i := 3) hx hb hml hown hts (fun w hw => List.mem_cons_of_mem _ hw) hK hE (by decide) hP hD hS hA hl (Nat.le_of_ble_eq_true rfl) (Nat.le_of_ble_eq_true rfl) (Nat.le_of_ble_eq_true rfl) (Nat.le_of_ble_eq_true rfl) (fun a3 H locs ls hP hD hS hl => ?_)
  refine qPast_turn (i := 4) hx hb hml hown hts (fun w hw => List.mem_cons_of_mem _ hw) hK hE (by decide) hP hD hS hA hl (Nat.le_of_ble_eq_true rfl) (Nat.le_of_ble_eq_true rfl) (Nat.le_of_ble_eq_true rfl) (Nat.le_of_ble_eq_true rfl) (fun a4 H locs ls hP hD hS hl => ?_)
  refine qPast_turn (i := 5) hx hb hml hown hts (fun w hw => List.mem_cons_of_mem _ hw) hK hE (by decide) hP hD hS hA hl (Nat.le_of_ble_eq_true rfl) (Nat.le_of_ble_eq_true rfl) (Nat.le_of_ble_eq_true rfl) (Nat.le_of_ble_eq_true rfl) (fun a5 H locs ls hP hD hS hl => ?_)
  refine qPast_turn (i := 6) hx hb hml hown hts (fun w hw => List.mem_cons_of_mem _ hw) hK hE (by decide) hP hD hS hA hl (Nat.le_of_ble_eq_true rfl) (Nat.le_of_ble_eq_true rfl) (Nat.le_of_ble_eq_true rfl) (Nat.le_of_ble_eq_true rfl) (fun a6 H locs ls hP hD hS hl => ?_)
  refine qPast_turn (i := 7) hx hb hml hown hts (fun w hw => List.mem_cons_of_mem _ hw) hK hE (by decide) hP hD hS hA hl (Nat.le_of_ble_eq_true rfl) (Nat.le_of_ble_eq_true rfl) (Nat.le_of_ble_eq_true rfl) (Nat.le_of_ble_eq_true rfl) (fun a7 H locs ls hP hD hS hl => ?_)
  have e2 : va_up (va_up (va_up (va_up (va_up (va_up (va_up (va_up (fun _ => none) 0 (some (a0 0))) 1 (some (a1 0))) 2 (some (a2 0))) 3 (some (a3 0))) 4 (some (a4 0))) 5 (some (a5 0))) 6 (some (a6 0))) 7 (some (a7 0)) = (fun j => if j < ([2, 8, 14, 20, 26, 32, 38, 44] : List Nat).length then some (qnth [h0, q1, a0 0, a0 1, a0 2, a0 3, a0 4, a0 5, a1 0, a1 1, a1 2, a1 3, a1 4, a1 5, a2 0, a2 1, a2 2, a2 3, a2 4, a2 5, a3 0, a3 1, a3 2, a3 3, a3 4, a3 5, a4 0, a4 1, a4 2, a4 3, a4 4, a4 5, a5 0, a5 1, a5 2, a5 3, a5 4, a5 5, a6 0, a6 1, a6 2, a6 3, a6 4, a6 5, a7 0, a7 1, a7 2, a7 3, a7 4, a7 5] (([2, 8, 14, 20, 26, 32, 38, 44] : List Nat).getD j 0)) else none) := by
    funext j
    match j with
    | 0 => rfl
    | 1 => rfl
    | 2 => rfl
    | 3 => rfl
    | 4 => rfl
    | 5 => rfl
    | 6 => rfl
    | 7 => rfl
    | n + 8 =>
      show _ = (if n + 8 < 8 then _ else none)
      rw [if_neg (by omega)]
      simp only [va_up]
      repeat (rw [if_neg (by omega)])
  rw [e2] at hP hD
  have w0 : mz_wl cA a0 mq_z0 0 sk_X7 = mz_wl cA (qnth [h0, q1, a0 0, a0 1, a0 2, a0 3, a0 4, a0 5, a1 0, a1 1, a1 2, a1 3, a1 4, a1 5, a2 0, a2 1, a2 2, a2 3, a2 4, a2 5, a3 0, a3 1, a3 2, a3 3, a3 4, a3 5, a4 0, a4 1, a4 2, a4 3, a4 4, a4 5, a5 0, a5 1, a5 2, a5 3, a5 4, a5 5, a6 0, a6 1, a6 2, a6 3, a6 4, a6 5, a7 0, a7 1, a7 2, a7 3, a7 4, a7 5]) mq_z0 (0 + 2) (sk_X7.map (shE 2)) := (shWl (N := 6) (fun i hi => by
    match i, hi with
    | 0, _ => rfl
    | 1, _ => rfl
    | 2, _ => rfl
    | 3, _ => rfl
    | 4, _ => rfl
    | 5, _ => rfl
    | n + 6, hi => omega) sk_X7 0 (by decide) (by decide)).symm
  have w1 : mz_wl cA a1 mq_z0 0 sk_X7 = mz_wl cA (qnth [h0, q1, a0 0, a0 1, a0 2, a0 3, a0 4, a0 5, a1 0, a1 1, a1 2, a1 3, a1 4, a1 5, a2 0, a2 1, a2 2, a2 3, a2 4, a2 5, a3 0, a3 1, a3 2, a3 3, a3 4, a3 5, a4 0, a4 1, a4 2, a4 3, a4 4, a4 5, a5 0, a5 1, a5 2, a5 3, a5 4, a5 5, a6 0, a6 1, a6 2, a6 3, a6 4, a6 5, a7 0, a7 1, a7 2, a7 3, a7 4, a7 5]) mq_z0 (0 + 8) (sk_X7.map (shE 8)) := (shWl (N := 6) (fun i hi => by
    match i, hi with
    | 0, _ => rfl
    | 1, _ => rfl
    | 2, _ => rfl
    | 3, _ => rfl
    | 4, _ => rfl
    | 5, _ => rfl
    | n + 6, hi => omega) sk_X7 0 (by decide) (by decide)).symm
  have w2 : mz_wl cA a2 mq_z0 0 sk_X7 = mz_wl cA (qnth [h0, q1, a0 0, a0 1, a0 2, a0 3, a0 4, a0 5, a1 0, a1 1, a1 2, a1 3, a1 4, a1 5, a2 0, a2 1, a2 2, a2 3, a2 4, a2 5, a3 0, a3 1, a3 2, a3 3, a3 4, a3 5, a4 0, a4 1, a4 2, a4 3, a4 4, a4 5, a5 0, a5 1, a5 2, a5 3, a5 4, a5 5, a6 0, a6 1, a6 2, a6 3, a6 4, a6 5, a7 0, a7 1, a7 2, a7 3, a7 4, a7 5]) mq_z0 (0 + 14) (sk_X7.map (shE 14)) := (shWl (N := 6) (fun i hi => by
    match i, hi with
    | 0, _ => rfl
    | 1, _ => rfl
    | 2, _ => rfl
    | 3, _ => rfl
    | 4, _ => rfl
    | 5, _ => rfl
    | n + 6, hi => omega) sk_X7 0 (by decide) (by decide)).symm
  have w3 : mz_wl cA a3 mq_z0 0 sk_X7 = mz_wl cA (qnth [h0, q1, a0 0, a0 1, a0 2, a0 3, a0 4, a0 5, a1 0, a1 1, a1 2, a1 3, a1 4, a1 5, a2 0, a2 1, a2 2, a2 3, a2 4, a2 5, a3 0, a3 1, a3 2, a3 3, a3 4, a3 5, a4 0, a4 1, a4 2, a4 3, a4 4, a4 5, a5 0, a5 1, a5 2, a5 3, a5 4, a5 5, a6 0, a6 1, a6 2, a6 3, a6 4, a6 5, a7 0, a7 1, a7 2, a7 3, a7 4, a7 5]) mq_z0 (0 + 20) (sk_X7.map (shE 20)) := (shWl (N := 6) (fun i hi => by
    match i, hi with
    | 0, _ => rfl
    | 1, _ => rfl
    | 2, _ => rfl
    | 3, _ => rfl
    | 4, _ => rfl
    | 5, _ => rfl
    | n + 6, hi => omega) sk_X7 0 (by decide) (by decide)).symm
  have w4 : mz_wl cA a4 mq_z0 0 sk_X7 = mz_wl cA (qnth [h0, q1, a0 0, a0 1, a0 2, a0 3, a0 4, a0 5, a1 0, a1 1, a1 2, a1 3, a1 4, a1 5, a2 0, a2 1, a2 2, a2 3, a2 4, a2 5, a3 0, a3 1, a3 2, a3 3, a3 4, a3 5, a4 0, a4 1, a4 2, a4 3, a4 4, a4 5, a5 0, a5 1, a5 2, a5 3, a5 4, a5 5, a6 0, a6 1, a6 2, a6 3, a6 4, a6 5, a7 0, a7 1, a7 2, a7 3, a7 4, a7 5]) mq_z0 (0 + 26) (sk_X7.map (shE 26)) := (shWl (N := 6) (fun i hi => by
    match i, hi with
    | 0, _ => rfl
    | 1, _ => rfl
    | 2, _ => rfl
    | 3, _ => rfl
    | 4, _ => rfl
    | 5, _ => rfl
    | n + 6, hi => omega) sk_X7 0 (by decide) (by decide)).symm
  have w5 : mz_wl cA a5 mq_z0 0 sk_X7 = mz_wl cA (qnth [h0, q1, a0 0, a0 1, a0 2, a0 3, a0 4, a0 5, a1 0, a1 1, a1 2, a1 3, a1 4, a1 5, a2 0, a2 1, a2 2, a2 3, a2 4, a2 5, a3 0, a3 1, a3 2, a3 3, a3 4, a3 5, a4 0, a4 1, a4 2, a4 3, a4 4, a4 5, a5 0, a5 1, a5 2, a5 3, a5 4, a5 5, a6 0, a6 1, a6 2, a6 3, a6 4, a6 5, a7 0, a7 1, a7 2, a7 3, a7 4, a7 5]) mq_z0 (0 + 32) (sk_X7.map (shE 32)) := (shWl (N := 6) (fun i hi => by
    match i, hi with
    | 0, _ => rfl
    | 1, _ => rfl
    | 2, _ => rfl
    | 3, _ => rfl
    | 4, _ => rfl
    | 5, _ => rfl
    | n + 6, hi => omega) sk_X7 0 (by decide) (by decide)).symm
  have w6 : mz_wl cA a6 mq_z0 0 sk_X7 = mz_wl cA (qnth [h0, q1, a0 0, a0 1, a0 2, a0 3, a0 4, a0 5, a1 0, a1 1, a1 2, a1 3, a1 4, a1 5, a2 0, a2 1, a2 2, a2 3, a2 4, a2 5, a3 0, a3 1, a3 2, a3 3, a3 4, a3 5, a4 0, a4 1, a4 2, a4 3, a4 4, a4 5, a5 0, a5 1, a5 2, a5 3, a5 4, a5 5, a6 0, a6 1, a6 2, a6 3, a6 4, a6 5, a7 0, a7 1, a7 2, a7 3, a7 4, a7 5]) mq_z0 (0 + 38) (sk_X7.map (shE 38)) := (shWl (N := 6) (fun i hi => by
    match i, hi with
    | 0, _ => rfl
    | 1, _ => rfl
    | 2, _ => rfl
    | 3, _ => rfl
    | 4, _ => rfl
    | 5, _ => rfl
    | n + 6, hi => omega) sk_X7 0 (by decide) (by decide)).symm
  have w7 : mz_wl cA a7 mq_z0 0 sk_X7 = mz_wl cA (qnth [h0, q1, a0 0, a0 1, a0 2, a0 3, a0 4, a0 5, a1 0, a1 1, a1 2, a1 3, a1 4, a1 5, a2 0, a2 1, a2 2, a2 3, a2 4, a2 5, a3 0, a3 1, a3 2, a3 3, a3 4, a3 5, a4 0, a4 1, a4 2, a4 3, a4 4, a4 5, a5 0, a5 1, a5 2, a5 3, a5 4, a5 5, a6 0, a6 1, a6 2, a6 3, a6 4, a6 5, a7 0, a7 1, a7 2, a7 3, a7 4, a7 5]) mq_z0 (0 + 44) (sk_X7.map (shE 44)) := (shWl (N := 6) (fun i hi => by
    match i, hi with
    | 0, _ => rfl
    | 1, _ => rfl
    | 2, _ => rfl
    | 3, _ => rfl
    | 4, _ => rfl
    | 5, _ => rfl
    | n + 6, hi => omega) sk_X7 0 (by decide) (by decide)).symm
  rw [w0, w1, w2, w3, w4, w5, w6, w7] at hP hD
  refine lv_iload_n hx hb dX3_init_15 rfl (lv_at hl 0 rfl) ?_
  refine lv_bipush (v := 8) hx hb dX3_init_16 rfl ?_
  refine lv_icmp_ge (tgt := 40) hx hb dX3_init_18 rfl (fun _ => ?_) (fun q => absurd (Int32.le_refl _) q)
  exact W.vret hx hb hr (fun t ht hW => ⟨⟨qnth [h0, q1, a0 0, a0 1, a0 2, a0 3, a0 4, a0 5, a1 0, a1 1, a1 2, a1 3, a1 4, a1 5, a2 0, a2 1, a2 2, a2 3, a2 4, a2 5, a3 0, a3 1, a3 2, a3 3, a3 4, a3 5, a4 0, a4 1, a4 2, a4 3, a4 4, a4 5, a5 0, a5 1, a5 2, a5 3, a5 4, a5 5, a6 0, a6 1, a6 2, a6 3, a6 4, a6 5, a7 0, a7 1, a7 2, a7 3, a7 4, a7 5], rfl, rfl, by rw [ht]; exact hP, va_K.moved hW.alike hK, hD⟩, hS.F ht⟩) hS.2.2 dX3_init_40
