/-! worlds: cut in two, under other numbers -/
theorem mz_wl_app {cA ad : Nat → Nat} {M : mz_M} : ∀ (l1 l2 : List mz_E) (k n : Nat), l1.length = n → mz_wl cA ad M k (l1 ++ l2) = mz_wl cA ad M k l1 ++ mz_wl cA ad M (k + n) l2
  | [], l2, k, n, h => by
    subst h
    rfl
  | e :: r, l2, k, n, h => by
    subst h
    show (ad k, mz_ent cA ad M k e) :: mz_wl cA ad M (k + 1) (r ++ l2) = (ad k, mz_ent cA ad M k e) :: (mz_wl cA ad M (k + 1) r ++ mz_wl cA ad M (k + (r.length + 1)) l2)
    rw [mz_wl_app r l2 (k + 1) r.length rfl, show k + 1 + r.length = k + (r.length + 1) by omega]
theorem qadFs {a ad : Nat → Nat} {M : mz_M} {N : Nat} (h : ∀ i, i < N → ad i = a i) (k : Nat) : ∀ (fs : List (Option Nat)) (b : Nat), fs.all (fun o => match o with
    | some x => decide (x < N)
    | none => true) = true → mz_fs ad M k b fs = mz_fs a M k b fs
  | [], b, _ => rfl
  | none :: r, b, hr => by
    simp only [List.all_cons, Bool.and_eq_true] at hr
    show Value.int (M.1 k b) :: mz_fs ad M k (b + 1) r = .int (M.1 k b) :: mz_fs a M k (b + 1) r
    rw [qadFs h k r (b + 1) hr.2]
  | some x :: r, b, hr => by
    simp only [List.all_cons, Bool.and_eq_true, decide_eq_true_eq] at hr
    show Value.ref (ad x) :: mz_fs ad M k (b + 1) r = .ref (a x) :: mz_fs a M k (b + 1) r
    rw [qadFs h k r (b + 1) hr.2, h x hr.1]
theorem qadWl {cA a ad : Nat → Nat} {M : mz_M} {N : Nat} (h : ∀ i, i < N → ad i = a i) : ∀ (l : List mz_E) (k : Nat), k + l.length ≤ N → l.all (shOk N) = true → mz_wl cA ad M k l = mz_wl cA a M k l
  | [], k, _, _ => rfl
  | e :: r, k, hk, hr => by
    simp only [List.all_cons, Bool.and_eq_true] at hr
    simp only [List.length_cons] at hk
    have ih := qadWl (cA := cA) (M := M) h r (k + 1) (by omega) hr.2
    show (ad k, mz_ent cA ad M k e) :: mz_wl cA ad M (k + 1) r = (a k, mz_ent cA a M k e) :: mz_wl cA a M (k + 1) r
    rw [ih, h k (by omega)]
    congr 2
    obtain ⟨t, n, rs⟩ | ⟨ci, fs⟩ := e
    · show Sum.inl (cA t, n, mz_con ad M k t rs) = .inl (cA t, n, mz_con a M k t rs)
      congr 3
      match t with
      | 0 => rfl
      | 1 => rfl
      | 2 => rfl
      | t + 3 =>
        have hf : (fun j => if j < rs.length then some (ad (rs.getD j 0)) else none) = (fun j => if j < rs.length then some (a (rs.getD j 0)) else none) := by
          funext j
          by_cases hj : j < rs.length
          · rw [if_pos hj, if_pos hj, List.getD_eq_getElem?_getD, List.getElem?_eq_getElem hj]
            show some (ad rs[j]) = some (a rs[j])
            rw [h]
            exact of_decide_eq_true (List.all_eq_true.mp hr.1 _ (List.getElem_mem hj))
          · rw [if_neg hj, if_neg hj]
        exact congrArg (fun f => (Sum.inr (Sum.inr (Sum.inr (Sum.inr f))) : (Nat → Int32) ⊕ (Nat → Int64) ⊕ (Nat → UInt32) ⊕ (Nat → UInt64) ⊕ (Nat → Option Nat))) hf
    · show Sum.inr (ci, mz_fs ad M k 0 fs) = .inr (ci, mz_fs a M k 0 fs)
      rw [qadFs h k fs 0 hr.1]
def sk_o9 : mz_E := .inr (7, [some 1, some 2, some 5, some 8, some 14, some 20, some 70, some 73, some 75, some 76, none])
theorem q_wl77 (cA ad : Nat → Nat) (M : mz_M) : mz_wl cA ad M 0 mq_sk77 = mz_wl cA ad M 0 [sk_o9] ++ (mz_wl cA ad M 1 (sk_X2.map (shE 1)) ++ (mz_wl cA ad M 8 (sk_X7.map (shE 8)) ++ (mz_wl cA ad M 14 (sk_X7.map (shE 14)) ++ (mz_wl cA ad M 20 (sk_X3.map (shE 20)) ++ (mz_wl cA ad M 70 (sk_X8.map (shE 70)) ++ (mz_wl cA ad M 73 (sk_X6.map (shE 73)) ++ mz_wl cA ad M 75 [.inl (0, 8, []), .inl (0, 8, [])])))))) := by
  refine (congrArg (mz_wl cA ad M 0) q_parts).trans ?_
  refine (mz_wl_app _ _ 0 1 rfl).trans (congrArg (fun z => mz_wl cA ad M 0 [sk_o9] ++ z) ?_)
  refine (mz_wl_app _ _ 1 7 rfl).trans (congrArg (fun z => mz_wl cA ad M 1 (sk_X2.map (shE 1)) ++ z) ?_)
  refine (mz_wl_app _ _ 8 6 rfl).trans (congrArg (fun z => mz_wl cA ad M 8 (sk_X7.map (shE 8)) ++ z) ?_)
  refine (mz_wl_app _ _ 14 6 rfl).trans (congrArg (fun z => mz_wl cA ad M 14 (sk_X7.map (shE 14)) ++ z) ?_)
  refine (mz_wl_app _ _ 20 50 rfl).trans (congrArg (fun z => mz_wl cA ad M 20 (sk_X3.map (shE 20)) ++ z) ?_)
  refine (mz_wl_app _ _ 70 3 rfl).trans (congrArg (fun z => mz_wl cA ad M 70 (sk_X8.map (shE 70)) ++ z) ?_)
  exact mz_wl_app _ _ 73 2 rfl
theorem q_ad (h0 q7 q8 : Nat) (a1 a2 a3 a4 a5 a6 : Nat → Nat) : ∃ ad : Nat → Nat, ad 0 = h0 ∧ (∀ i, i < 7 → ad (i + 1) = a1 i) ∧ (∀ i, i < 6 → ad (i + 8) = a2 i) ∧ (∀ i, i < 6 → ad (i + 14) = a3 i) ∧ (∀ i, i < 50 → ad (i + 20) = a4 i) ∧ (∀ i, i < 3 → ad (i + 70) = a5 i) ∧ (∀ i, i < 2 → ad (i + 73) = a6 i) ∧ ad 75 = q7 ∧ ad 76 = q8 := by
  refine ⟨fun i => if i < 1 then h0 else if i < 8 then a1 (i - 1) else if i < 14 then a2 (i - 8) else if i < 20 then a3 (i - 14) else if i < 70 then a4 (i - 20) else if i < 73 then a5 (i - 70) else if i < 75 then a6 (i - 73) else if i < 76 then q7 else q8, rfl, ?_, ?_, ?_, ?_, ?_, ?_, rfl, rfl⟩
  · intro i hi
    dsimp only
    rw [if_neg (by omega), if_pos (by omega), Nat.add_sub_cancel]
  · intro i hi
    dsimp only
    rw [if_neg (by omega), if_neg (by omega), if_pos (by omega), Nat.add_sub_cancel]
  · intro i hi
    dsimp only
    rw [if_neg (by omega), if_neg (by omega), if_neg (by omega), if_pos (by omega), Nat.add_sub_cancel]
  · intro i hi
    dsimp only
    rw [if_neg (by omega), if_neg (by omega), if_neg (by omega), if_neg (by omega), if_pos (by omega), Nat.add_sub_cancel]
  · intro i hi
    dsimp only
    rw [if_neg (by omega), if_neg (by omega), if_neg (by omega), if_neg (by omega), if_neg (by omega), if_pos (by omega), Nat.add_sub_cancel]
  · intro i hi
    dsimp only
    rw [if_neg (by omega), if_neg (by omega), if_neg (by omega), if_neg (by omega), if_neg (by omega), if_neg (by omega), if_pos (by omega), Nat.add_sub_cancel]
-- decode rows of X9
theorem dX9_init_0 : decode cX9_init 0 = .ok (.aload_n 0, 1) := by decide +kernel
theorem dX9_init_1 : decode cX9_init 1 = .ok (.invokespecial 1, 3) := by decide +kernel
theorem dX9_init_4 : decode cX9_init 4 = .ok (.aload_n 0, 1) := by decide +kernel
theorem dX9_init_5 : decode cX9_init 5 = .ok (.new 7, 3) := by decide +kernel
theorem dX9_init_8 : decode cX9_init 8 = .ok (.dup, 1) := by decide +kernel
theorem dX9_init_9 : decode cX9_init 9 = .ok (.invokespecial 9, 3) := by decide +kernel
theorem dX9_init_12 : decode cX9_init 12 = .ok (.putfield 10, 3) := by decide +kernel
theorem dX9_init_15 : decode cX9_init 15 = .ok (.aload_n 0, 1) := by decide +kernel
theorem dX9_init_16 : decode cX9_init 16 = .ok (.aload_n 0, 1) := by decide +kernel
theorem dX9_init_17 : decode cX9_init 17 = .ok (.getfield 10, 3) := by decide +kernel
theorem dX9_init_20 : decode cX9_init 20 = .ok (.getfield 16, 3) := by decide +kernel
theorem dX9_init_23 : decode cX9_init 23 = .ok (.putfield 20, 3) := by decide +kernel
theorem dX9_init_26 : decode cX9_init 26 = .ok (.aload_n 0, 1) := by decide +kernel
theorem dX9_init_27 : decode cX9_init 27 = .ok (.aload_n 0, 1) := by decide +kernel
theorem dX9_init_28 : decode cX9_init 28 = .ok (.getfield 10, 3) := by decide +kernel
theorem dX9_init_31 : decode cX9_init 31 = .ok (.getfield 21, 3) := by decide +kernel
theorem dX9_init_34 : decode cX9_init 34 = .ok (.putfield 25, 3) := by decide +kernel
theorem dX9_init_37 : decode cX9_init 37 = .ok (.aload_n 0, 1) := by decide +kernel
theorem dX9_init_38 : decode cX9_init 38 = .ok (.new 26, 3) := by decide +kernel
theorem dX9_init_41 : decode cX9_init 41 = .ok (.dup, 1) := by decide +kernel
theorem dX9_init_42 : decode cX9_init 42 = .ok (.invokespecial 28, 3) := by decide +kernel
theorem dX9_init_45 : decode cX9_init 45 = .ok (.putfield 29, 3) := by decide +kernel
theorem dX9_init_48 : decode cX9_init 48 = .ok (.aload_n 0, 1) := by decide +kernel
theorem dX9_init_49 : decode cX9_init 49 = .ok (.new 26, 3) := by decide +kernel
theorem dX9_init_52 : decode cX9_init 52 = .ok (.dup, 1) := by decide +kernel
theorem dX9_init_53 : decode cX9_init 53 = .ok (.invokespecial 28, 3) := by decide +kernel
theorem dX9_init_56 : decode cX9_init 56 = .ok (.putfield 33, 3) := by decide +kernel
theorem dX9_init_59 : decode cX9_init 59 = .ok (.aload_n 0, 1) := by decide +kernel
theorem dX9_init_60 : decode cX9_init 60 = .ok (.new 36, 3) := by decide +kernel
theorem dX9_init_63 : decode cX9_init 63 = .ok (.dup, 1) := by decide +kernel
theorem dX9_init_64 : decode cX9_init 64 = .ok (.invokespecial 38, 3) := by decide +kernel
theorem dX9_init_67 : decode cX9_init 67 = .ok (.putfield 39, 3) := by decide +kernel
theorem dX9_init_70 : decode cX9_init 70 = .ok (.aload_n 0, 1) := by decide +kernel
theorem dX9_init_71 : decode cX9_init 71 = .ok (.new 43, 3) := by decide +kernel
theorem dX9_init_74 : decode cX9_init 74 = .ok (.dup, 1) := by decide +kernel
theorem dX9_init_75 : decode cX9_init 75 = .ok (.invokespecial 45, 3) := by decide +kernel
theorem dX9_init_78 : decode cX9_init 78 = .ok (.putfield 46, 3) := by decide +kernel
theorem dX9_init_81 : decode cX9_init 81 = .ok (.aload_n 0, 1) := by decide +kernel
theorem dX9_init_82 : decode cX9_init 82 = .ok (.new 50, 3) := by decide +kernel
theorem dX9_init_85 : decode cX9_init 85 = .ok (.dup, 1) := by decide +kernel
theorem dX9_init_86 : decode cX9_init 86 = .ok (.invokespecial 52, 3) := by decide +kernel
theorem dX9_init_89 : decode cX9_init 89 = .ok (.putfield 53, 3) := by decide +kernel
theorem dX9_init_92 : decode cX9_init 92 = .ok (.aload_n 0, 1) := by decide +kernel
theorem dX9_init_93 : decode cX9_init 93 = .ok (.bipush 8, 2) := by decide +kernel
theorem dX9_init_95 : decode cX9_init 95 = .ok (.newarray .int, 2) := by decide +kernel
theorem dX9_init_97 : decode cX9_init 97 = .ok (.putfield 57, 3) := by decide +kernel
theorem dX9_init_100 : decode cX9_init 100 = .ok (.aload_n 0, 1) := by decide +kernel
theorem dX9_init_101 : decode cX9_init 101 = .ok (.bipush 8, 2) := by decide +kernel
theorem dX9_init_103 : decode cX9_init 103 = .ok (.newarray .int, 2) := by decide +kernel
theorem dX9_init_105 : decode cX9_init 105 = .ok (.putfield 61, 3) := by decide +kernel
theorem dX9_init_108 : decode cX9_init 108 = .ok (.aload_n 0, 1) := by decide +kernel
theorem dX9_init_109 : decode cX9_init 109 = .ok (.getfield 20, 3) := by decide +kernel
theorem dX9_init_112 : decode cX9_init 112 = .ok (.bipush 7, 2) := by decide +kernel
theorem dX9_init_114 : decode cX9_init 114 = .ok (.invokevirtual 64, 3) := by decide +kernel
theorem dX9_init_117 : decode cX9_init 117 = .ok (.aload_n 0, 1) := by decide +kernel
theorem dX9_init_118 : decode cX9_init 118 = .ok (.getfield 29, 3) := by decide +kernel
theorem dX9_init_121 : decode cX9_init 121 = .ok (.bipush 7, 2) := by decide +kernel
theorem dX9_init_123 : decode cX9_init 123 = .ok (.invokevirtual 70, 3) := by decide +kernel
theorem dX9_init_126 : decode cX9_init 126 = .ok (.return_, 1) := by decide +kernel
def rm_X9 : Room := { frames := 8, cells := 76, slots := 1100, locals := 300 }
set_option maxHeartbeats 8000000 in
set_option maxRecDepth 100000 in
theorem cF_X9 (l : Launch) (D : va_G) (cA : Nat → Nat) (h0 sz : Nat) : Met l yX9_init (Cond.code yX9_init cX9_init 1 none :: mq_Ts) rm_X9 (va_Pc [.ref h0] (fun U => U.heap.size = sz ∧ va_P D vwCl [(h0, .inr (7, [.null, .null, .null, .null, .null, .null, .null, .null, .null, .null, .int 0]))] U.heap ∧ va_K D vwCl (qT cA) U ∧ va_D (fun _ => True) [(h0, .inr (7, [.null, .null, .null, .null, .null, .null, .null, .null, .null, .null, .int 0]))] ∧ qE U))
    (va_Qv (S := (Nat → Nat) × mz_M) (fun u => u.1 0 = h0 ∧ zQ q_s0 u.2 ∧ ∀ c, 77 ≤ c → u.2.1 c = (fun _ => 0) ∧ u.2.2 c = (fun _ => 0)) (fun u t => va_P D vwCl (mz_wl cA u.1 u.2 0 mq_sk77) t.heap ∧ va_K D vwCl (qT cA) t ∧ va_D (va_A [(h0, .inr (7, [.null, .null, .null, .null, .null, .null, .null, .null, .null, .null, .int 0]))] sz) (mz_wl cA u.1 u.2 0 mq_sk77)) (va_A [(h0, .inr (7, [.null, .null, .null, .null, .null, .null, .null, .null, .null, .null, .int 0]))] sz)) rm_X9.cells rm_X9.slots (va_A [(h0, .inr (7, [.null, .null, .null, .null, .null, .null, .null, .null, .null, .null, .int 0]))] sz) := by
  refine Met.ofW (cc := cX9_init) (maxL := 1) (ret := none) (by decide) rfl ?_
  intro p e s m args below meth c s₁ B hml hv
  obtain ⟨rfl, hsz, hP, hK, hD0, hE⟩ := hv
  have hx := B.exec
  have hb := B.bytes
  have hr := B.returns
  have hts := atoms_spec (ws := Cond.code yX9_init cX9_init 1 none :: mq_Ts) B.pre
  have hq : ∀ w ∈ mq_Ts, w.before ([Value.ref h0] : List Value).toArray s = true := fun w hw => hts w (List.mem_cons_of_mem _ hw)
  have hown : s.vm.findClass RX9 = some m.cls := findClass_of_methodNamed B.named
  have hlocks := B.notSynchronized
  have hin : meth.name = "<init>" := (name_of_methodNamed B.named B.method).1
  subst hsz
  have hD := hD0.self (sz := s.heap.size)
  generalize hAe : va_A [(h0, .inr (7, [.null, .null, .null, .null, .null, .null, .null, .null, .null, .null, .int 0]))] s.heap.size = A at hD ⊢
  have hA : ∀ q : Nat, s.heap.size ≤ q → A q := fun q h => by rw [← hAe]; exact Or.inr h
  have hS : va_S A s.heap s.heap [] := va_S.rf
  have hl := lv_entry ([.ref h0]) (n := 1) (Nat.le_of_ble_eq_true rfl)
  rw [lg_entry_eq]
  generalize (lg_sl ([.ref h0]) ++ List.replicate (1 - (lg_sl ([.ref h0])).length) Slot.unset).toArray = ls at hl ⊢
  have hl : lv_has ls 1 [(0, .ref h0)] := hl
  refine lv_aload_n hx hb dX9_init_0 rfl (lv_at hl 0 rfl) ?_
  refine W.objInit hx hb hown (hq _ (mq_at_in (q := (1, 24)) (by decide +kernel))) (hq _ (mq_at_in (q := (1, 25)) (by decide +kernel))) (hq _ (mq_at_in (q := (1, 26)) (by decide +kernel))) rfl (by rw [hml]; exact hl.1) rfl dX9_init_1 (Nat.le_of_ble_eq_true rfl) (Nat.le_of_ble_eq_true rfl) ?_
  refine W.eq (g2 := F0 m 4 ls []) rfl ?_
  refine lv_aload_n hx hb dX9_init_4 rfl (lv_at hl 0 rfl) ?_
  refine va_new (ci := 2) (fs := [.null, .null]) (C := RX2) (T := TX2) (N := 2) hx hb hq (fun w hw => mq_iu w (mq_u2 w hw)) tyX2 tyX2_ok hown (hq _ (mq_at_in (q := (1, 27)) (by decide +kernel))) (hq _ (mq_at_in (q := (1, 28)) (by decide +kernel))) (hq _ (mq_at_in (q := (1, 2)) (by decide +kernel))) hK hP hD hS hA rfl (fun j hj => by rcases (show j = 0 ∨ j = 1 by omega) with rfl | rfl <;> rfl) (Nat.le_of_ble_eq_true rfl) (Nat.le_of_ble_eq_true rfl) dX9_init_5 (fun q1 H hP hD hS => ?_)
  have hP : va_P D vwCl ([(h0, .inr (7, [.null, .null, .null, .null, .null, .null, .null, .null, .null, .null, .int 0]))] ++ [(q1, .inr (2, [.null, .null]))]) H := hP
  have hD : va_D A ([(h0, .inr (7, [.null, .null, .null, .null, .null, .null, .null, .null, .null, .null, .int 0]))] ++ [(q1, .inr (2, [.null, .null]))]) := hD
  refine lv_dup hx hb dX9_init_8 rfl ?_
  refine qI_callN (own := RX9) (idx := 9) (ws := [(h0, .inr (7, [.null, .null, .null, .null, .null, .null, .null, .null, .null, .null, .int 0]))]) (cI_X2 l D cA) hx hb hml hown hts (mq_good (mq_at_in (q := (1, 31)) (by decide +kernel)) (fun w hw => List.mem_cons_of_mem _ hw)) (hq _ (mq_at_in (q := (1, 2)) (by decide +kernel))) (by decide +kernel) (hq _ (mq_at_in (q := (1, 30)) (by decide +kernel))) rfl (by decide +kernel) ⟨(Nat.le_of_ble_eq_true rfl), (Nat.le_of_ble_eq_true rfl)⟩ hK hE hP hD hS hA hl.1 (Nat.le_of_ble_eq_true rfl) dX9_init_9 ⟨(Nat.le_of_ble_eq_true rfl), (Nat.le_of_ble_eq_true rfl)⟩ (fun a1 H locs h1 hPn hDn hS => ?_)
  obtain rfl := h1
  have hP := hPn
  have hD := hDn
  refine va_putF (D := D) (ci := 7) (v := .ref (a1 0)) (ty := .object RX2) (C := RX9) (T := TX9) (N := 11) hx hb hq (fun w hw => mq_iu w (mq_u7 w hw)) tyX9 tyX9_ok nmX9 hown hK hP hD hS 0 rfl rfl 0 (by decide) (hq _ (mq_at_in (q := (1, 199)) (by decide +kernel))) (fun _ h9 => h9) rfl hin rfl (by decide +kernel) rfl rfl (Nat.le_of_ble_eq_true rfl) dX9_init_12 (fun H locs hP hD hS => ?_)
  have hP : va_P D vwCl ([(h0, .inr (7, [.ref (a1 0), .null, .null, .null, .null, .null, .null, .null, .null, .null, .int 0]))] ++ mz_wl cA a1 mq_z0 0 sk_X2) H := hP
  have hD : va_D A ([(h0, .inr (7, [.ref (a1 0), .null, .null, .null, .null, .null, .null, .null, .null, .null, .int 0]))] ++ mz_wl cA a1 mq_z0 0 sk_X2) := hD
  refine lv_aload_n hx hb dX9_init_15 rfl (lv_at hl 0 rfl) ?_
  refine lv_aload_n hx hb dX9_init_16 rfl (lv_at hl 0 rfl) ?_
  refine va_get (D := D) (ci := 7) (C := RX9) (T := TX9) (N := 11) (fs := [.ref (a1 0), .null, .null, .null, .null, .null, .null, .null, .null, .null, .int 0]) hx hb hq (fun w hw => mq_iu w (mq_u7 w hw)) hown hK hP 0 rfl rfl 0 (by decide) (hq _ (mq_at_in (q := (1, 199)) (by decide +kernel))) (fun _ h9 => h9) rfl dX9_init_17 ?_
  refine va_get (D := D) (ci := 2) (C := RX2) (T := TX2) (N := 2) (fs := [.ref (a1 1), .ref (a1 4)]) hx hb hq (fun w hw => mq_iu w (mq_u2 w hw)) hown hK hP 1 rfl rfl 0 (by decide) (hq _ (mq_at_in (q := (1, 83)) (by decide +kernel))) (fun _ h9 => h9) rfl dX9_init_20 ?_
  refine va_putF (D := D) (ci := 7) (v := .ref (a1 1)) (ty := .object RX0) (C := RX9) (T := TX9) (N := 11) hx hb hq (fun w hw => mq_iu w (mq_u7 w hw)) tyX9 tyX9_ok nmX9 hown hK hP hD hS 0 rfl rfl 1 (by decide) (hq _ (mq_at_in (q := (1, 200)) (by decide +kernel))) (fun _ h9 => h9) rfl hin rfl (by decide +kernel) rfl rfl (Nat.le_of_ble_eq_true rfl) dX9_init_23 (fun H locs hP hD hS => ?_)
  have hP : va_P D vwCl ([(h0, .inr (7, [.ref (a1 0), .ref (a1 1), .null, .null, .null, .null, .null, .null, .null, .null, .int 0]))] ++ mz_wl cA a1 mq_z0 0 sk_X2) H := hP
  have hD : va_D A ([(h0, .inr (7, [.ref (a1 0), .ref (a1 1), .null, .null, .null, .null, .null, .null, .null, .null, .int 0]))] ++ mz_wl cA a1 mq_z0 0 sk_X2) := hD
  refine lv_aload_n hx hb dX9_init_26 rfl (lv_at hl 0 rfl) ?_
  refine lv_aload_n hx hb dX9_init_27 rfl (lv_at hl 0 rfl) ?_
  refine va_get (D := D) (ci := 7) (C := RX9) (T := TX9) (N := 11) (fs := [.ref (a1 0), .ref (a1 1), .null, .null, .null, .null, .null, .null, .null, .null, .int 0]) hx hb hq (fun w hw => mq_iu w (mq_u7 w hw)) hown hK hP 0 rfl rfl 0 (by decide) (hq _ (mq_at_in (q := (1, 199)) (by decide +kernel))) (fun _ h9 => h9) rfl dX9_init_28 ?_
  refine va_get (D := D) (ci := 2) (C := RX2) (T := TX2) (N := 2) (fs := [.ref (a1 1), .ref (a1 4)]) hx hb hq (fun w hw => mq_iu w (mq_u2 w hw)) hown hK hP 1 rfl rfl 1 (by decide) (hq _ (mq_at_in (q := (1, 85)) (by decide +kernel))) (fun _ h9 => h9) rfl dX9_init_31 ?_
  refine va_putF (D := D) (ci := 7) (v := .ref (a1 4)) (ty := .object RX1) (C := RX9) (T := TX9) (N := 11) hx hb hq (fun w hw => mq_iu w (mq_u7 w hw)) tyX9 tyX9_ok nmX9 hown hK hP hD hS 0 rfl rfl 2 (by decide) (hq _ (mq_at_in (q := (1, 201)) (by decide +kernel))) (fun _ h9 => h9) rfl hin rfl (by decide +kernel) rfl rfl (Nat.le_of_ble_eq_true rfl) dX9_init_34 (fun H locs hP hD hS => ?_)
  have hP : va_P D vwCl ([(h0, .inr (7, [.ref (a1 0), .ref (a1 1), .ref (a1 4), .null, .null, .null, .null, .null, .null, .null, .int 0]))] ++ mz_wl cA a1 mq_z0 0 sk_X2) H := hP
  have hD : va_D A ([(h0, .inr (7, [.ref (a1 0), .ref (a1 1), .ref (a1 4), .null, .null, .null, .null, .null, .null, .null, .int 0]))] ++ mz_wl cA a1 mq_z0 0 sk_X2) := hD
  refine lv_aload_n hx hb dX9_init_37 rfl (lv_at hl 0 rfl) ?_
  refine va_new (ci := 5) (fs := [.int 0, .null]) (C := RX7) (T := TX7) (N := 2) hx hb hq (fun w hw => mq_iu w (mq_u5 w hw)) tyX7 tyX7_ok hown (hq _ (mq_at_in (q := (1, 91)) (by decide +kernel))) (hq _ (mq_at_in (q := (1, 92)) (by decide +kernel))) (hq _ (mq_at_in (q := (1, 5)) (by decide +kernel))) hK hP hD hS hA rfl (fun j hj => by rcases (show j = 0 ∨ j = 1 by omega) with rfl | rfl <;> rfl) (Nat.le_of_ble_eq_true rfl) (Nat.le_of_ble_eq_true rfl) dX9_init_38 (fun qa2 H hP hD hS => ?_)
  have hP : va_P D vwCl (([(h0, .inr (7, [.ref (a1 0), .ref (a1 1), .ref (a1 4), .null, .null, .null, .null, .null, .null, .null, .int 0]))] ++ mz_wl cA a1 mq_z0 0 sk_X2) ++ [(qa2, .inr (5, [.int 0, .null]))]) H := hP
  have hD : va_D A (([(h0, .inr (7, [.ref (a1 0), .ref (a1 1), .ref (a1 4), .null, .null, .null, .null, .null, .null, .null, .int 0]))] ++ mz_wl cA a1 mq_z0 0 sk_X2) ++ [(qa2, .inr (5, [.int 0, .null]))]) := hD
  refine lv_dup hx hb dX9_init_41 rfl ?_
  refine qI_callN (own := RX9) (idx := 28) (ws := ([(h0, .inr (7, [.ref (a1 0), .ref (a1 1), .ref (a1 4), .null, .null, .null, .null, .null, .null, .null, .int 0]))] ++ mz_wl cA a1 mq_z0 0 sk_X2)) (cI_X7 l D cA) hx hb hml hown hts (mq_good (mq_at_in (q := (1, 95)) (by decide +kernel)) (fun w hw => List.mem_cons_of_mem _ hw)) (hq _ (mq_at_in (q := (1, 5)) (by decide +kernel))) (by decide +kernel) (hq _ (mq_at_in (q := (1, 94)) (by decide +kernel))) rfl (by decide +kernel) ⟨(Nat.le_of_ble_eq_true rfl), (Nat.le_of_ble_eq_true rfl)⟩ hK hE hP hD hS hA hl.1 (Nat.le_of_ble_eq_true rfl) dX9_init_42 ⟨(Nat.le_of_ble_eq_true rfl), (Nat.le_of_ble_eq_true rfl)⟩ (fun a2 H locs h1 hPn hDn hS => ?_)
  obtain rfl := h1
  have hP := hPn
  have hD := hDn
  refine va_putF (D := D) (ci := 7) (v := .ref (a2 0)) (ty := .object RX7) (C := RX9) (T := TX9) (N := 11) hx hb hq (fun w hw => mq_iu w (mq_u7 w hw)) tyX9 tyX9_ok nmX9 hown hK hP hD hS 0 rfl rfl 3 (by decide) (hq _ (mq_at_in (q := (1, 202)) (by decide +kernel))) (fun _ h9 => h9) rfl hin rfl (by decide +kernel) rfl rfl (Nat.le_of_ble_eq_true rfl) dX9_init_45 (fun H locs hP hD hS => ?_)
  have hP : va_P D vwCl (([(h0, .inr (7, [.ref (a1 0), .ref (a1 1), .ref (a1 4), .ref (a2 0), .null, .null, .null, .null, .null, .null, .int 0]))] ++ mz_wl cA a1 mq_z0 0 sk_X2) ++ mz_wl cA a2 mq_z0 0 sk_X7) H := hP
  have hD : va_D A (([(h0, .inr (7, [.ref (a1 0), .ref (a1 1), .ref (a1 4), .ref (a2 0), .null, .null, .null, .null, .null, .null, .int 0]))] ++ mz_wl cA a1 mq_z0 0 sk_X2) ++ mz_wl cA a2 mq_z0 0 sk_X7) := hD
  refine lv_aload_n hx hb dX9_init_48 rfl (lv_at hl 0 rfl) ?_
  refine va_new (ci := 5) (fs := [.int 0, .null]) (C := RX7) (T := TX7) (N := 2) hx hb hq (fun w hw => mq_iu w (mq_u5 w hw)) tyX7 tyX7_ok hown (hq _ (mq_at_in (q := (1, 91)) (by decide +kernel))) (hq _ (mq_at_in (q := (1, 92)) (by decide +kernel))) (hq _ (mq_at_in (q := (1, 5)) (by decide +kernel))) hK hP hD hS hA rfl (fun j hj => by rcases (show j = 0 ∨ j = 1 by omega) with rfl | rfl <;> rfl) (Nat.le_of_ble_eq_true rfl) (Nat.le_of_ble_eq_true rfl) dX9_init_49 (fun qa3 H hP hD hS => ?_)
  have hP : va_P D vwCl ((([(h0, .inr (7, [.ref (a1 0), .ref (a1 1), .ref (a1 4), .ref (a2 0), .null, .null, .null, .null, .null, .null, .int 0]))] ++ mz_wl cA a1 mq_z0 0 sk_X2) ++ mz_wl cA a2 mq_z0 0 sk_X7) ++ [(qa3, .inr (5, [.int 0, .null]))]) H := hP
  have hD : va_D A ((([(h0, .inr (7, [.ref (a1 0), .ref (a1 1), .ref (a1 4), .ref (a2 0), .null, .null, .null, .null, .null, .null, .int 0]))] ++ mz_wl cA a1 mq_z0 0 sk_X2) ++ mz_wl cA a2 mq_z0 0 sk_X7) ++ [(qa3, .inr (5, [.int 0, .null]))]) := hD
  refine lv_dup hx hb dX9_init_52 rfl ?_
  refine qI_callN (own := RX9) (idx := 28) (ws := (([(h0, .inr (7, [.ref (a1 0), .ref (a1 1), .ref (a1 4), .ref (a2 0), .null, .null, .null, .null, .null, .null, .int 0]))] ++ mz_wl cA a1 mq_z0 0 sk_X2) ++ mz_wl cA a2 mq_z0 0 sk_X7)) (cI_X7 l D cA) hx hb hml hown hts (mq_good (mq_at_in (q := (1, 95)) (by decide +kernel)) (fun w hw => List.mem_cons_of_mem _ hw)) (hq _ (mq_at_in (q := (1, 5)) (by decide +kernel))) (by decide +kernel) (hq _ (mq_at_in (q := (1, 94)) (by decide +kernel))) rfl (by decide +kernel) ⟨(Nat.le_of_ble_eq_true rfl), (Nat.le_of_ble_eq_true rfl)⟩ hK hE hP hD hS hA hl.1 (Nat.le_of_ble_eq_true rfl) dX9_init_53 ⟨(Nat.le_of_ble_eq_true rfl), (Nat.le_of_ble_eq_true rfl)⟩ (fun a3 H locs h1 hPn hDn hS => ?_)
  obtain rfl := h1
  have hP := hPn
  have hD := hDn
  refine va_putF (D := D) (ci := 7) (v := .ref (a3 0)) (ty := .object RX7) (C := RX9) (T := TX9) (N := 11) hx hb hq (fun w hw => mq_iu w (mq_u7 w hw)) tyX9 tyX9_ok nmX9 hown hK hP hD hS 0 rfl rfl 4 (by decide) (hq _ (mq_at_in (q := (1, 203)) (by decide +kernel))) (fun _ h9 => h9) rfl hin rfl (by decide +kernel) rfl rfl (Nat.le_of_ble_eq_true rfl) dX9_init_56 (fun H locs hP hD hS => ?_)
  have hP : va_P D vwCl ((([(h0, .inr (7, [.ref (a1 0), .ref (a1 1), .ref (a1 4), .ref (a2 0), .ref (a3 0), .null, .null, .null, .null, .null, .int 0]))] ++ mz_wl cA a1 mq_z0 0 sk_X2) ++ mz_wl cA a2 mq_z0 0 sk_X7) ++ mz_wl cA a3 mq_z0 0 sk_X7) H := hP
  have hD : va_D A ((([(h0, .inr (7, [.ref (a1 0), .ref (a1 1), .ref (a1 4), .ref (a2 0), .ref (a3 0), .null, .null, .null, .null, .null, .int 0]))] ++ mz_wl cA a1 mq_z0 0 sk_X2) ++ mz_wl cA a2 mq_z0 0 sk_X7) ++ mz_wl cA a3 mq_z0 0 sk_X7) := hD
  refine lv_aload_n hx hb dX9_init_59 rfl (lv_at hl 0 rfl) ?_
  refine va_new (ci := 3) (fs := [.null, .int 0, .int 0]) (C := RX3) (T := TX3) (N := 3) hx hb hq (fun w hw => mq_iu w (mq_u3 w hw)) tyX3 tyX3_ok hown (hq _ (mq_at_in (q := (1, 108)) (by decide +kernel))) (hq _ (mq_at_in (q := (1, 109)) (by decide +kernel))) (hq _ (mq_at_in (q := (1, 6)) (by decide +kernel))) hK hP hD hS hA rfl (fun j hj => by rcases (show j = 0 ∨ j = 1 ∨ j = 2 by omega) with rfl | rfl | rfl <;> rfl) (Nat.le_of_ble_eq_true rfl) (Nat.le_of_ble_eq_true rfl) dX9_init_60 (fun qa4 H hP hD hS => ?_)
  have hP : va_P D vwCl (((([(h0, .inr (7, [.ref (a1 0), .ref (a1 1), .ref (a1 4), .ref (a2 0), .ref (a3 0), .null, .null, .null, .null, .null, .int 0]))] ++ mz_wl cA a1 mq_z0 0 sk_X2) ++ mz_wl cA a2 mq_z0 0 sk_X7) ++ mz_wl cA a3 mq_z0 0 sk_X7) ++ [(qa4, .inr (3, [.null, .int 0, .int 0]))]) H := hP
  have hD : va_D A (((([(h0, .inr (7, [.ref (a1 0), .ref (a1 1), .ref (a1 4), .ref (a2 0), .ref (a3 0), .null, .null, .null, .null, .null, .int 0]))] ++ mz_wl cA a1 mq_z0 0 sk_X2) ++ mz_wl cA a2 mq_z0 0 sk_X7) ++ mz_wl cA a3 mq_z0 0 sk_X7) ++ [(qa4, .inr (3, [.null, .int 0, .int 0]))]) := hD
  refine lv_dup hx hb dX9_init_63 rfl ?_
  refine qI_call (own := RX9) (idx := 38) (ws := ((([(h0, .inr (7, [.ref (a1 0), .ref (a1 1), .ref (a1 4), .ref (a2 0), .ref (a3 0), .null, .null, .null, .null, .null, .int 0]))] ++ mz_wl cA a1 mq_z0 0 sk_X2) ++ mz_wl cA a2 mq_z0 0 sk_X7) ++ mz_wl cA a3 mq_z0 0 sk_X7)) (cI_X3 l D cA) hx hb hml hown hts (mq_good (mq_at_in (q := (1, 112)) (by decide +kernel)) (fun w hw => List.mem_cons_of_mem _ hw)) (hq _ (mq_at_in (q := (1, 6)) (by decide +kernel))) (hq _ (mq_at_in (q := (1, 110)) (by decide +kernel))) (hq _ (mq_at_in (q := (1, 111)) (by decide +kernel))) rfl (by decide +kernel) ⟨(Nat.le_of_ble_eq_true rfl), (Nat.le_of_ble_eq_true rfl)⟩ hK hE hP hD hS hA hl.1 (Nat.le_of_ble_eq_true rfl) dX9_init_64 ⟨(Nat.le_of_ble_eq_true rfl), (Nat.le_of_ble_eq_true rfl)⟩ (fun a4 H locs h1 hPn hDn hS => ?_)
  obtain rfl := h1
  have hP := hPn
  have hD := hDn
  refine va_putF (D := D) (ci := 7) (v := .ref (a4 0)) (ty := .object RX3) (C := RX9) (T := TX9) (N := 11) hx hb hq (fun w hw => mq_iu w (mq_u7 w hw)) tyX9 tyX9_ok nmX9 hown hK hP hD hS 0 rfl rfl 5 (by decide) (hq _ (mq_at_in (q := (1, 204)) (by decide +kernel))) (fun _ h9 => h9) rfl hin rfl (by decide +kernel) rfl rfl (Nat.le_of_ble_eq_true rfl) dX9_init_67 (fun H locs hP hD hS => ?_)
  have hP : va_P D vwCl (((([(h0, .inr (7, [.ref (a1 0), .ref (a1 1), .ref (a1 4), .ref (a2 0), .ref (a3 0), .ref (a4 0), .null, .null, .null, .null, .int 0]))] ++ mz_wl cA a1 mq_z0 0 sk_X2) ++ mz_wl cA a2 mq_z0 0 sk_X7) ++ mz_wl cA a3 mq_z0 0 sk_X7) ++ mz_wl cA a4 mq_z0 0 sk_X3) H := hP
  have hD : va_D A (((([(h0, .inr (7, [.ref (a1 0), .ref (a1 1), .ref (a1 4), .ref (a2 0), .ref (a3 0), .ref (a4 0), .null, .null, .null, .null, .int 0]))] ++ mz_wl cA a1 mq_z0 0 sk_X2) ++ mz_wl cA a2 mq_z0 0 sk_X7) ++ mz_wl cA a3 mq_z0 0 sk_X7) ++ mz_wl cA a4 mq_z0 0 sk_X3) := hD
  refine lv_aload_n hx hb dX9_init_70 rfl (lv_at hl 0 rfl) ?_
  refine va_new (ci := 6) (fs := [.null, .null, .int 0, .int 0]) (C := RX8) (T := TX8) (N := 4) hx hb hq (fun w hw => mq_iu w (mq_u6 w hw)) tyX8 tyX8_ok hown (hq _ (mq_at_in (q := (1, 128)) (by decide +kernel))) (hq _ (mq_at_in (q := (1, 129)) (by decide +kernel))) (hq _ (mq_at_in (q := (1, 7)) (by decide +kernel))) hK hP hD hS hA rfl (fun j hj => by rcases (show j = 0 ∨ j = 1 ∨ j = 2 ∨ j = 3 by omega) with rfl | rfl | rfl | rfl <;> rfl) (Nat.le_of_ble_eq_true rfl) (Nat.le_of_ble_eq_true rfl) dX9_init_71 (fun qa5 H hP hD hS => ?_)
  have hP : va_P D vwCl ((((([(h0, .inr (7, [.ref (a1 0), .ref (a1 1), .ref (a1 4), .ref (a2 0), .ref (a3 0), .ref (a4 0), .null, .null, .null, .null, .int 0]))] ++ mz_wl cA a1 mq_z0 0 sk_X2) ++ mz_wl cA a2 mq_z0 0 sk_X7) ++ mz_wl cA a3 mq_z0 0 sk_X7) ++ mz_wl cA a4 mq_z0 0 sk_X3) ++ [(qa5, .inr (6, [.null, .null, .int 0, .int 0]))]) H := hP
  have hD : va_D A ((((([(h0, .inr (7, [.ref (a1 0), .ref (a1 1), .ref (a1 4), .ref (a2 0), .ref (a3 0), .ref (a4 0), .null, .null, .null, .null, .int 0]))] ++ mz_wl cA a1 mq_z0 0 sk_X2) ++ mz_wl cA a2 mq_z0 0 sk_X7) ++ mz_wl cA a3 mq_z0 0 sk_X7) ++ mz_wl cA a4 mq_z0 0 sk_X3) ++ [(qa5, .inr (6, [.null, .null, .int 0, .int 0]))]) := hD
  refine lv_dup hx hb dX9_init_74 rfl ?_
  refine qI_callN (own := RX9) (idx := 45) (ws := (((([(h0, .inr (7, [.ref (a1 0), .ref (a1 1), .ref (a1 4), .ref (a2 0), .ref (a3 0), .ref (a4 0), .null, .null, .null, .null, .int 0]))] ++ mz_wl cA a1 mq_z0 0 sk_X2) ++ mz_wl cA a2 mq_z0 0 sk_X7) ++ mz_wl cA a3 mq_z0 0 sk_X7) ++ mz_wl cA a4 mq_z0 0 sk_X3)) (cI_X8 l D cA) hx hb hml hown hts (mq_good (mq_at_in (q := (1, 132)) (by decide +kernel)) (fun w hw => List.mem_cons_of_mem _ hw)) (hq _ (mq_at_in (q := (1, 7)) (by decide +kernel))) (by decide +kernel) (hq _ (mq_at_in (q := (1, 131)) (by decide +kernel))) rfl (by decide +kernel) ⟨(Nat.le_of_ble_eq_true rfl), (Nat.le_of_ble_eq_true rfl)⟩ hK hE hP hD hS hA hl.1 (Nat.le_of_ble_eq_true rfl) dX9_init_75 ⟨(Nat.le_of_ble_eq_true rfl), (Nat.le_of_ble_eq_true rfl)⟩ (fun a5 H locs h1 hPn hDn hS => ?_)
  obtain rfl := h1
  have hP := hPn
  have hD := hDn
  refine va_putF (D := D) (ci := 7) (v := .ref (a5 0)) (ty := .object RX8) (C := RX9) (T := TX9) (N := 11) hx hb hq (fun w hw => mq_iu w (mq_u7 w hw)) tyX9 tyX9_ok nmX9 hown hK hP hD hS 0 rfl rfl 6 (by decide) (hq _ (mq_at_in (q := (1, 205)) (by decide +kernel))) (fun _ h9 => h9) rfl hin rfl (by decide +kernel) rfl rfl (Nat.le_of_ble_eq_true rfl) dX9_init_78 (fun H locs hP hD hS => ?_)
  have hP : va_P D vwCl ((((([(h0, .inr (7, [.ref (a1 0), .ref (a1 1), .ref (a1 4), .ref (a2 0), .ref (a3 0), .ref (a4 0), .ref (a5 0), .null, .null, .null, .int 0]))] ++ mz_wl cA a1 mq_z0 0 sk_X2) ++ mz_wl cA a2 mq_z0 0 sk_X7) ++ mz_wl cA a3 mq_z0 0 sk_X7) ++ mz_wl cA a4 mq_z0 0 sk_X3) ++ mz_wl cA a5 mq_z0 0 sk_X8) H := hP
  have hD : va_D A ((((([(h0, .inr (7, [.ref (a1 0), .ref (a1 1), .ref (a1 4), .ref (a2 0), .ref (a3 0), .ref (a4 0), .ref (a5 0), .null, .null, .null, .int 0]))] ++ mz_wl cA a1 mq_z0 0 sk_X2) ++ mz_wl cA a2 mq_z0 0 sk_X7) ++ mz_wl cA a3 mq_z0 0 sk_X7) ++ mz_wl cA a4 mq_z0 0 sk_X3) ++ mz_wl cA a5 mq_z0 0 sk_X8) := hD
  refine lv_aload_n hx hb dX9_init_81 rfl (lv_at hl 0 rfl) ?_
  refine va_new (ci := 4) (fs := [.null, .int 0]) (C := RX6) (T := TX6) (N := 2) hx hb hq (fun w hw => mq_iu w (mq_u4 w hw)) tyX6 tyX6_ok hown (hq _ (mq_at_in (q := (1, 148)) (by decide +kernel))) (hq _ (mq_at_in (q := (1, 149)) (by decide +kernel))) (hq _ (mq_at_in (q := (1, 8)) (by decide +kernel))) hK hP hD hS hA rfl (fun j hj => by rcases (show j = 0 ∨ j = 1 by omega) with rfl | rfl <;> rfl) (Nat.le_of_ble_eq_true rfl) (Nat.le_of_ble_eq_true rfl) dX9_init_82 (fun qa6 H hP hD hS => ?_)
  have hP : va_P D vwCl (((((([(h0, .inr (7, [.ref (a1 0), .ref (a1 1), .ref (a1 4), .ref (a2 0), .ref (a3 0), .ref (a4 0), .ref (a5 0), .null, .null, .null, .int 0]))] ++ mz_wl cA a1 mq_z0 0 sk_X2) ++ mz_wl cA a2 mq_z0 0 sk_X7) ++ mz_wl cA a3 mq_z0 0 sk_X7) ++ mz_wl cA a4 mq_z0 0 sk_X3) ++ mz_wl cA a5 mq_z0 0 sk_X8) ++ [(qa6, .inr (4, [.null, .int 0]))]) H := hP
  have hD : va_D A (((((([(h0, .inr (7, [.ref (a1 0), .ref (a1 1), .ref (a1 4), .ref (a2 0), .ref (a3 0), .ref (a4 0), .ref (a5 0), .null, .null, .null, .int 0]))] ++ mz_wl cA a1 mq_z0 0 sk_X2) ++ mz_wl cA a2 mq_z0 0 sk_X7) ++ mz_wl cA a3 mq_z0 0 sk_X7) ++ mz_wl cA a4 mq_z0 0 sk_X3) ++ mz_wl cA a5 mq_z0 0 sk_X8) ++ [(qa6, .inr (4, [.null, .int 0]))]) := hD
  refine lv_dup hx hb dX9_init_85 rfl ?_
  refine qI_callN (own := RX9) (idx := 52) (ws := ((((([(h0, .inr (7, [.ref (a1 0), .ref (a1 1), .ref (a1 4), .ref (a2 0), .ref (a3 0), .ref (a4 0), .ref (a5 0), .null, .null, .null, .int 0]))] ++ mz_wl cA a1 mq_z0 0 sk_X2) ++ mz_wl cA a2 mq_z0 0 sk_X7) ++ mz_wl cA a3 mq_z0 0 sk_X7) ++ mz_wl cA a4 mq_z0 0 sk_X3) ++ mz_wl cA a5 mq_z0 0 sk_X8)) (cI_X6 l D cA) hx hb hml hown hts (mq_good (mq_at_in (q := (1, 152)) (by decide +kernel)) (fun w hw => List.mem_cons_of_mem _ hw)) (hq _ (mq_at_in (q := (1, 8)) (by decide +kernel))) (by decide +kernel) (hq _ (mq_at_in (q := (1, 151)) (by decide +kernel))) rfl (by decide +kernel) ⟨(Nat.le_of_ble_eq_true rfl), (Nat.le_of_ble_eq_true rfl)⟩ hK hE hP hD hS hA hl.1 (Nat.le_of_ble_eq_true rfl) dX9_init_86 ⟨(Nat.le_of_ble_eq_true rfl), (Nat.le_of_ble_eq_true rfl)⟩ (fun a6 H locs h1 hPn hDn hS => ?_)
  obtain rfl := h1
  have hP := hPn
  have hD := hDn
  refine va_putF (D := D) (ci := 7) (v := .ref (a6 0)) (ty := .object RX6) (C := RX9) (T := TX9) (N := 11) hx hb hq (fun w hw => mq_iu w (mq_u7 w hw)) tyX9 tyX9_ok nmX9 hown hK hP hD hS 0 rfl rfl 7 (by decide) (hq _ (mq_at_in (q := (1, 206)) (by decide +kernel))) (fun _ h9 => h9) rfl hin rfl (by decide +kernel) rfl rfl (Nat.le_of_ble_eq_true rfl) dX9_init_89 (fun H locs hP hD hS => ?_)
  have hP : va_P D vwCl (((((([(h0, .inr (7, [.ref (a1 0), .ref (a1 1), .ref (a1 4), .ref (a2 0), .ref (a3 0), .ref (a4 0), .ref (a5 0), .ref (a6 0), .null, .null, .int 0]))] ++ mz_wl cA a1 mq_z0 0 sk_X2) ++ mz_wl cA a2 mq_z0 0 sk_X7) ++ mz_wl cA a3 mq_z0 0 sk_X7) ++ mz_wl cA a4 mq_z0 0 sk_X3) ++ mz_wl cA a5 mq_z0 0 sk_X8) ++ mz_wl cA a6 mq_z0 0 sk_X6) H := hP
  have hD : va_D A (((((([(h0, .inr (7, [.ref (a1 0), .ref (a1 1), .ref (a1 4), .ref (a2 0), .ref (a3 0), .ref (a4 0), .ref (a5 0), .ref (a6 0), .null, .null, .int 0]))] ++ mz_wl cA a1 mq_z0 0 sk_X2) ++ mz_wl cA a2 mq_z0 0 sk_X7) ++ mz_wl cA a3 mq_z0 0 sk_X7) ++ mz_wl cA a4 mq_z0 0 sk_X3) ++ mz_wl cA a5 mq_z0 0 sk_X8) ++ mz_wl cA a6 mq_z0 0 sk_X6) := hD
  refine lv_aload_n hx hb dX9_init_92 rfl (lv_at hl 0 rfl) ?_
  refine lv_bipush (v := 8) hx hb dX9_init_93 rfl ?_
  refine qNewa (atype := .int) (t := 0) (N := 8) (k := 0) hx hb (hq _ (mq_at_in (q := (1, 63)) (by decide +kernel))) rfl (fun c => qz0 c _ _) hK hP hD hS hA (by decide +kernel) (by decide +kernel) (Nat.le_of_ble_eq_true rfl) (Nat.le_of_ble_eq_true rfl) (Nat.le_of_ble_eq_true rfl) dX9_init_95 (fun q7 H hP hD hS => ?_)
  have hP : va_P D vwCl ((((((([(h0, .inr (7, [.ref (a1 0), .ref (a1 1), .ref (a1 4), .ref (a2 0), .ref (a3 0), .ref (a4 0), .ref (a5 0), .ref (a6 0), .null, .null, .int 0]))] ++ mz_wl cA a1 mq_z0 0 sk_X2) ++ mz_wl cA a2 mq_z0 0 sk_X7) ++ mz_wl cA a3 mq_z0 0 sk_X7) ++ mz_wl cA a4 mq_z0 0 sk_X3) ++ mz_wl cA a5 mq_z0 0 sk_X8) ++ mz_wl cA a6 mq_z0 0 sk_X6) ++ [(q7, .inl (cA 0, 8, mz_con (fun _ => 0) mq_z0 0 0 []))]) H := hP
  have hD : va_D A ((((((([(h0, .inr (7, [.ref (a1 0), .ref (a1 1), .ref (a1 4), .ref (a2 0), .ref (a3 0), .ref (a4 0), .ref (a5 0), .ref (a6 0), .null, .null, .int 0]))] ++ mz_wl cA a1 mq_z0 0 sk_X2) ++ mz_wl cA a2 mq_z0 0 sk_X7) ++ mz_wl cA a3 mq_z0 0 sk_X7) ++ mz_wl cA a4 mq_z0 0 sk_X3) ++ mz_wl cA a5 mq_z0 0 sk_X8) ++ mz_wl cA a6 mq_z0 0 sk_X6) ++ [(q7, .inl (cA 0, 8, mz_con (fun _ => 0) mq_z0 0 0 []))]) := hD
  refine va_putF (D := D) (ci := 7) (v := .ref q7) (ty := .array .int) (C := RX9) (T := TX9) (N := 11) hx hb hq (fun w hw => mq_iu w (mq_u7 w hw)) tyX9 tyX9_ok nmX9 hown hK hP hD hS 0 rfl rfl 8 (by decide) (hq _ (mq_at_in (q := (1, 207)) (by decide +kernel))) (fun _ h9 => h9) rfl hin rfl (by decide +kernel) rfl rfl (Nat.le_of_ble_eq_true rfl) dX9_init_97 (fun H locs hP hD hS => ?_)
  have hP : va_P D vwCl ((((((([(h0, .inr (7, [.ref (a1 0), .ref (a1 1), .ref (a1 4), .ref (a2 0), .ref (a3 0), .ref (a4 0), .ref (a5 0), .ref (a6 0), .ref q7, .null, .int 0]))] ++ mz_wl cA a1 mq_z0 0 sk_X2) ++ mz_wl cA a2 mq_z0 0 sk_X7) ++ mz_wl cA a3 mq_z0 0 sk_X7) ++ mz_wl cA a4 mq_z0 0 sk_X3) ++ mz_wl cA a5 mq_z0 0 sk_X8) ++ mz_wl cA a6 mq_z0 0 sk_X6) ++ [(q7, .inl (cA 0, 8, mz_con (fun _ => 0) mq_z0 0 0 []))]) H := hP
  have hD : va_D A ((((((([(h0, .inr (7, [.ref (a1 0), .ref (a1 1), .ref (a1 4), .ref (a2 0), .ref (a3 0), .ref (a4 0), .ref (a5 0), .ref (a6 0), .ref q7, .null, .int 0]))] ++ mz_wl cA a1 mq_z0 0 sk_X2) ++ mz_wl cA a2 mq_z0 0 sk_X7) ++ mz_wl cA a3 mq_z0 0 sk_X7) ++ mz_wl cA a4 mq_z0 0 sk_X3) ++ mz_wl cA a5 mq_z0 0 sk_X8) ++ mz_wl cA a6 mq_z0 0 sk_X6) ++ [(q7, .inl (cA 0, 8, mz_con (fun _ => 0) mq_z0 0 0 []))]) := hD
  refine lv_aload_n hx hb dX9_init_100 rfl (lv_at hl 0 rfl) ?_
  refine lv_bipush (v := 8) hx hb dX9_init_101 rfl ?_
  refine qNewa (atype := .int) (t := 0) (N := 8) (k := 0) hx hb (hq _ (mq_at_in (q := (1, 63)) (by decide +kernel))) rfl (fun c => qz0 c _ _) hK hP hD hS hA (by decide +kernel) (by decide +kernel) (Nat.le_of_ble_eq_true rfl) (Nat.le_of_ble_eq_true rfl) (Nat.le_of_ble_eq_true rfl) dX9_init_103 (fun q8 H hP hD hS => ?_)
  have hP : va_P D vwCl (((((((([(h0, .inr (7, [.ref (a1 0), .ref (a1 1), .ref (a1 4), .ref (a2 0), .ref (a3 0), .ref (a4 0), .ref (a5 0), .ref (a6 0), .ref q7, .null, .int 0]))] ++ mz_wl cA a1 mq_z0 0 sk_X2) ++ mz_wl cA a2 mq_z0 0 sk_X7) ++ mz_wl cA a3 mq_z0 0 sk_X7) ++ mz_wl cA a4 mq_z0 0 sk_X3) ++ mz_wl cA a5 mq_z0 0 sk_X8) ++ mz_wl cA a6 mq_z0 0 sk_X6) ++ [(q7, .inl (cA 0, 8, mz_con (fun _ => 0) mq_z0 0 0 []))]) ++ [(q8, .inl (cA 0, 8, mz_con (fun _ => 0) mq_z0 0 0 []))]) H := hP
  have hD : va_D A (((((((([(h0, .inr (7, [.ref (a1 0), .ref (a1 1), .ref (a1 4), .ref (a2 0), .ref (a3 0), .ref (a4 0), .ref (a5 0), .ref (a6 0), .ref q7, .null, .int 0]))] ++ mz_wl cA a1 mq_z0 0 sk_X2) ++ mz_wl cA a2 mq_z0 0 sk_X7) ++ mz_wl cA a3 mq_z0 0 sk_X7) ++ mz_wl cA a4 mq_z0 0 sk_X3) ++ mz_wl cA a5 mq_z0 0 sk_X8) ++ mz_wl cA a6 mq_z0 0 sk_X6) ++ [(q7, .inl (cA 0, 8, mz_con (fun _ => 0) mq_z0 0 0 []))]) ++ [(q8, .inl (cA 0, 8, mz_con (fun _ => 0) mq_z0 0 0 []))]) := hD
  refine va_putF (D := D) (ci := 7) (v := .ref q8) (ty := .array .int) (C := RX9) (T := TX9) (N := 11) hx hb hq (fun w hw => mq_iu w (mq_u7 w hw)) tyX9 tyX9_ok nmX9 hown hK hP hD hS 0 rfl rfl 9 (by decide) (hq _ (mq_at_in (q := (1, 208)) (by decide +kernel))) (fun _ h9 => h9) rfl hin rfl (by decide +kernel) rfl rfl (Nat.le_of_ble_eq_true rfl) dX9_init_105 (fun H locs hP hD hS => ?_)
  have hP : va_P D vwCl (((((((([(h0, .inr (7, [.ref (a1 0), .ref (a1 1), .ref (a1 4), .ref (a2 0), .ref (a3 0), .ref (a4 0), .ref (a5 0), .ref (a6 0), .ref q7, .ref q8, .int 0]))] ++ mz_wl cA a1 mq_z0 0 sk_X2) ++ mz_wl cA a2 mq_z0 0 sk_X7) ++ mz_wl cA a3 mq_z0 0 sk_X7) ++ mz_wl cA a4 mq_z0 0 sk_X3) ++ mz_wl cA a5 mq_z0 0 sk_X8) ++ mz_wl cA a6 mq_z0 0 sk_X6) ++ [(q7, .inl (cA 0, 8, mz_con (fun _ => 0) mq_z0 0 0 []))]) ++ [(q8, .inl (cA 0, 8, mz_con (fun _ => 0) mq_z0 0 0 []))]) H := hP
  have hD : va_D A (((((((([(h0, .inr (7, [.ref (a1 0), .ref (a1 1), .ref (a1 4), .ref (a2 0), .ref (a3 0), .ref (a4 0), .ref (a5 0), .ref (a6 0), .ref q7, .ref q8, .int 0]))] ++ mz_wl cA a1 mq_z0 0 sk_X2) ++ mz_wl cA a2 mq_z0 0 sk_X7) ++ mz_wl cA a3 mq_z0 0 sk_X7) ++ mz_wl cA a4 mq_z0 0 sk_X3) ++ mz_wl cA a5 mq_z0 0 sk_X8) ++ mz_wl cA a6 mq_z0 0 sk_X6) ++ [(q7, .inl (cA 0, 8, mz_con (fun _ => 0) mq_z0 0 0 []))]) ++ [(q8, .inl (cA 0, 8, mz_con (fun _ => 0) mq_z0 0 0 []))]) := hD
  obtain ⟨ad, e0, e1, e2, e3, e4, e5, e6, e7, e8⟩ := q_ad h0 q7 q8 a1 a2 a3 a4 a5 a6
  have w0 : mz_wl cA ad mq_z0 0 [sk_o9] = [(h0, .inr (7, [.ref (a1 0), .ref (a1 1), .ref (a1 4), .ref (a2 0), .ref (a3 0), .ref (a4 0), .ref (a5 0), .ref (a6 0), .ref q7, .ref q8, .int 0]))] := by
    show [(ad 0, (.inr (7, [.ref (ad 1), .ref (ad 2), .ref (ad 5), .ref (ad 8), .ref (ad 14), .ref (ad 20), .ref (ad 70), .ref (ad 73), .ref (ad 75), .ref (ad 76), .int 0]) : va_E))] = _
    rw [e0, e7, e8, show ad 1 = a1 0 from e1 0 (by decide), show ad 2 = a1 1 from e1 1 (by decide), show ad 5 = a1 4 from e1 4 (by decide), show ad 8 = a2 0 from e2 0 (by decide), show ad 14 = a3 0 from e3 0 (by decide), show ad 20 = a4 0 from e4 0 (by decide), show ad 70 = a5 0 from e5 0 (by decide), show ad 73 = a6 0 from e6 0 (by decide)]
  have w1 : mz_wl cA ad mq_z0 1 (sk_X2.map (shE 1)) = mz_wl cA a1 mq_z0 0 sk_X2 := shWl (d := 1) (N := 7) e1 sk_X2 0 (by decide) (by decide)
  have w2 : mz_wl cA ad mq_z0 8 (sk_X7.map (shE 8)) = mz_wl cA a2 mq_z0 0 sk_X7 := shWl (d := 8) (N := 6) e2 sk_X7 0 (by decide) (by decide)
  have w3 : mz_wl cA ad mq_z0 14 (sk_X7.map (shE 14)) = mz_wl cA a3 mq_z0 0 sk_X7 := shWl (d := 14) (N := 6) e3 sk_X7 0 (by decide) (by decide)
  have w4 : mz_wl cA ad mq_z0 20 (sk_X3.map (shE 20)) = mz_wl cA a4 mq_z0 0 sk_X3 := shWl (d := 20) (N := 50) e4 sk_X3 0 (by decide) (by decide)
  have w5 : mz_wl cA ad mq_z0 70 (sk_X8.map (shE 70)) = mz_wl cA a5 mq_z0 0 sk_X8 := shWl (d := 70) (N := 3) e5 sk_X8 0 (by decide) (by decide)
  have w6 : mz_wl cA ad mq_z0 73 (sk_X6.map (shE 73)) = mz_wl cA a6 mq_z0 0 sk_X6 := shWl (d := 73) (N := 2) e6 sk_X6 0 (by decide) (by decide)
  have w7 : mz_wl cA ad mq_z0 75 [.inl (0, 8, []), .inl (0, 8, [])] = [(q7, .inl (cA 0, 8, mz_con (fun _ => 0) mq_z0 0 0 [])), (q8, .inl (cA 0, 8, mz_con (fun _ => 0) mq_z0 0 0 []))] := by
    show [(ad 75, _), (ad 76, _)] = _
    rw [e7, e8]
    all_goals rfl
  have e77 : mz_wl cA ad mq_z0 0 mq_sk77 = (((((((([(h0, .inr (7, [.ref (a1 0), .ref (a1 1), .ref (a1 4), .ref (a2 0), .ref (a3 0), .ref (a4 0), .ref (a5 0), .ref (a6 0), .ref q7, .ref q8, .int 0]))] ++ mz_wl cA a1 mq_z0 0 sk_X2) ++ mz_wl cA a2 mq_z0 0 sk_X7) ++ mz_wl cA a3 mq_z0 0 sk_X7) ++ mz_wl cA a4 mq_z0 0 sk_X3) ++ mz_wl cA a5 mq_z0 0 sk_X8) ++ mz_wl cA a6 mq_z0 0 sk_X6) ++ [(q7, .inl (cA 0, 8, mz_con (fun _ => 0) mq_z0 0 0 []))]) ++ [(q8, .inl (cA 0, 8, mz_con (fun _ => 0) mq_z0 0 0 []))]) := by
    rw [q_wl77, w0, w1, w2, w3, w4, w5, w6, w7]
    simp only [List.append_assoc]
    all_goals rfl
  have hP : va_P D vwCl (mz_wl cA ad mq_z0 0 mq_sk77) H := by rw [e77]; exact hP
  have hD : va_D A (mz_wl cA ad mq_z0 0 mq_sk77) := by rw [e77]; exact hD
  obtain ⟨M1, M2, r1, r2, hQ, hz⟩ := q_start
  rw [← e0] at hl
  refine lv_aload_n hx hb dX9_init_108 rfl (lv_at hl 0 rfl) ?_
  refine va_get (D := D) (ci := 7) (C := RX9) (T := TX9) (N := 11) (fs := mz_fs ad mq_z0 0 0 [some 1, some 2, some 5, some 8, some 14, some 20, some 70, some 73, some 75, some 76, none]) hx hb hq (fun w hw => mq_iu w (mq_u7 w hw)) hown hK hP 0 (mz_w_at (e := sk_o9) (i := 0) rfl) rfl 1 (by decide) (hq _ (mq_at_in (q := (1, 200)) (by decide +kernel))) (fun _ h9 => h9) rfl dX9_init_109 ?_
  refine lv_bipush (v := nI 7) hx hb dX9_init_112 rfl ?_
  refine qc_call (SK := mq_sk77) (own := RX9) (a := 0) (b9 := 2) (As := [.int (nI 7)]) (rest := []) (ad := ad) (M := mq_z0) (r1 := (none, M1)) (q_tys_77 cA) hx hb hml hown hts (fun w hw => List.mem_cons_of_mem _ hw) hK hA rfl rfl rfl rfl (Nat.le_of_ble_eq_true rfl) (Nat.le_of_ble_eq_true rfl) (mq_at_in (q := (1, 164)) (by decide +kernel)) ⟨(Nat.le_of_ble_eq_true rfl), (Nat.le_of_ble_eq_true rfl)⟩ ⟨(Nat.le_of_ble_eq_true rfl), (Nat.le_of_ble_eq_true rfl)⟩ dX9_init_114 (q77 r1 (qrs.r (qrs.i (fun a ha => nomatch ha)) (by decide))) hP hD hS hl.1 (fun H locs hP hD hS => ?_)
  refine W.eq (g2 := F0 m 117 ls []) rfl ?_
  refine lv_aload_n hx hb dX9_init_117 rfl (lv_at hl 0 rfl) ?_
  refine va_get (D := D) (ci := 7) (C := RX9) (T := TX9) (N := 11) (fs := mz_fs ad M1 0 0 [some 1, some 2, some 5, some 8, some 14, some 20, some 70, some 73, some 75, some 76, none]) hx hb hq (fun w hw => mq_iu w (mq_u7 w hw)) hown hK hP 0 (mz_w_at (e := sk_o9) (i := 0) rfl) rfl 3 (by decide) (hq _ (mq_at_in (q := (1, 202)) (by decide +kernel))) (fun _ h9 => h9) rfl dX9_init_118 ?_
  refine lv_bipush (v := nI 7) hx hb dX9_init_121 rfl ?_
  refine qc_call (SK := mq_sk77) (own := RX9) (a := 47) (b9 := 8) (As := [.int (nI 7)]) (rest := []) (ad := ad) (M := M1) (r1 := (none, M2)) (q_tys_77 cA) hx hb hml hown hts (fun w hw => List.mem_cons_of_mem _ hw) hK hA rfl rfl rfl rfl (Nat.le_of_ble_eq_true rfl) (Nat.le_of_ble_eq_true rfl) (mq_at_in (q := (1, 195)) (by decide +kernel)) ⟨(Nat.le_of_ble_eq_true rfl), (Nat.le_of_ble_eq_true rfl)⟩ ⟨(Nat.le_of_ble_eq_true rfl), (Nat.le_of_ble_eq_true rfl)⟩ dX9_init_123 (q77 r2 (qrs.r (qrs.i (fun a ha => nomatch ha)) (by decide))) hP hD hS hl.1 (fun H locs hP hD hS => ?_)
  refine W.eq (g2 := F0 m 126 ls []) rfl ?_
  exact W.vret hx hb hr (fun t ht hW => ⟨⟨(ad, M2), rfl, ⟨e0, hQ, fun c hc => hz c (Or.inl hc)⟩, by rw [ht]; exact hP, va_K.moved hW.alike hK, hD⟩, hS.F ht⟩) hS.2.2 dX9_init_126
