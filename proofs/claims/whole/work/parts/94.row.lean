/-! row: it answers, or throws; the law's own catch -/
theorem c_X10_row2 {M0 M : mz_M} {σ : zSg} (h : zP M0 σ M) (x : Int32) : ∃ (y : Int64) (M' : mz_M), mq_C mq_X10_row [.ref 77, .int x] M (some (.long y), M') ∧ zP M0 σ M' ∧ M'.2 = M.2 ∧ ((zel σ.2.2.2.2.1 x = true ∧ y = σ.2.2.2.2.2 (zu x) ∧ M'.1 77 10 = 0) ∨ (¬ zel σ.2.2.2.2.1 x = true ∧ M'.1 77 10 = 1)) := by
  obtain ⟨M1, eM, h1, -⟩ := h.thr
  have e9 : M1.1 77 9 = nI σ.2.2.2.2.1 := h1.2.2.2.2.2.2.1
  have h16 : σ.2.2.2.2.1 ≤ 16 := h1.2.2.2.2.2.1
  have e10 : M1.1 77 10 = 0 := by rw [← eM, zwr_s, zupd_s]
  have e2 : M1.2 = M.2 := by rw [← eM]; rfl
  by_cases e : zel σ.2.2.2.2.1 x = true
  · obtain ⟨j, hj, rfl⟩ := (zel_iff (by omega)).mp e
    refine ⟨M1.2 83 (nI j).toNatClampNeg, M1, t_X10_row_0 _ _ (fun N n1 => ?_), h1, e2, Or.inl ⟨e, ?_, e10⟩⟩
    · obtain rfl := n1.trans eM
      exact ⟨1, by rw [e9]; exact zin1 _ (by rw [yel_sub1 (by omega)]; exact e), fun c => absurd c z10, fun _ => ⟨zn_in (by omega) (by decide), rfl⟩⟩
    · rw [zn_cl (by omega), zu_nI (by omega)]
      exact h1.2.2.2.2.2.2.2 j hj
  · have h2 : zP M0 σ (mz_wr M1 77 (upd (M1.1 77) 10 1)) := h1.w (by decide)
    refine ⟨(0 : Int32).toInt64, mz_wr M1 77 (upd (M1.1 77) 10 1), t_X10_row_0 _ _ (fun N n1 => ?_), h2, e2, Or.inr ⟨e, by rw [zwr_s, zupd_s]⟩⟩
    · obtain rfl := n1.trans eM
      exact ⟨0, by rw [e9]; exact zin0 _ (by rw [yel_sub1 (by omega)]; exact e), fun _ => ⟨0, _, t_X10_lost_0 _ (fun M2 e2 => by rw [e2]), rfl⟩, fun c => absurd rfl c⟩
theorem zBo.l91 {σ : zSg} {M : mz_M} {f : Nat → Int64} (h : zBo σ M) : zBo σ (mz_wrl M 91 f) := by
  obtain ⟨h1, a1, a2, a3, a4, a5⟩ := h
  exact ⟨h1.L (fun c hc => ⟨rfl, zwrl_n (by omega)⟩), a1.k rfl rfl rfl, a2.k rfl rfl, a3.k rfl rfl, a4.k rfl rfl, a5.k (zwrl_n (by decide)) rfl⟩
def RNS : String := "java/util/NoSuchElementException"
def qNs : List String := ["java/lang/RuntimeException", "java/lang/Exception"]
/-- the words of the throw that are not among the good ones -/
def qB : List Cond := [.declares ⟨"java/lang/RuntimeException", "<init>", "()V"⟩, .declares ⟨"java/lang/Exception", "<init>", "()V"⟩, .declares ⟨"java/lang/Throwable", "<init>", "()V"⟩, .castable RNS RNS]
theorem qB_tab : ∀ w ∈ qB, w.onTables = true := by decide +kernel
theorem qB_tbl : ∀ w ∈ qB, w ∈ lw_tbl := by decide +kernel
theorem qB_all : ∀ w ∈ (vx_at0 RX9 301 RNS qNs).filter (fun w => !goodWord w), w ∈ qB := by decide +kernel
theorem qB_good0 : ∀ w ∈ (vx_at0 RX9 301 RNS qNs).filter goodWord, w ∈ lw_tbl := by decide +kernel
theorem qB_good : ∀ w ∈ (vx_at0 RX9 301 RNS qNs).filter goodWord, w ∈ mq_Ts := fun w hw => List.mem_filter.mpr ⟨qB_good0 w hw, (List.mem_filter.mp hw).2⟩
theorem qB_ot : ∀ w ∈ Cond.classLink RX9 299 RNS :: Cond.initialized RNS :: vx_at0 RX9 301 RNS qNs, vx_ot w = true := by decide +kernel
/-- what a throw needs beside the good words -/
def qZ (A : Nat → Prop) (U : State) (H : Heap) : Prop := vx_Zq Bundle.tN "UNASSIGNED_STACK" Bundle.steD A U H ∧ vx_Zq Bundle.tN "SUPPRESSED_SENTINEL" Bundle.listD A U H ∧ ∀ w ∈ qB, va_Nw w U
theorem qZ.warm {A : Nat → Prop} {s U : State} {H : Heap} (hW : s.WarmedH U.vm) (h : qZ A s H) : qZ A U H := by
  refine ⟨vx_Zq.moved hW.alike h.1, vx_Zq.moved hW.alike h.2.1, fun w hw => ?_⟩
  have h3 := h.2.2 w hw
  simp only [qB, List.mem_cons, List.not_mem_nil, or_false] at hw
  rcases hw with rfl | rfl | rfl | rfl
  · exact va_Nw.warmD hW h3
  · exact va_Nw.warmD hW h3
  · exact va_Nw.warmD hW h3
  · exact va_Nw.warmC hW h3
theorem qZ.calling {A : Nat → Prop} {U : State} {g : JFrame} {mk : MethodId} {a : Array Value} (h : qZ A U U.heap) : qZ A (U.calling g mk a) (U.calling g mk a).heap :=
  ⟨vx_Zq.moved (u := U) (U := U.calling g mk a) (Vm.Alike.refl U.vm) h.1, vx_Zq.moved (u := U) (U := U.calling g mk a) (Vm.Alike.refl U.vm) h.2.1, fun w hw => va_Nw.same (u := U) (U := U.calling g mk a) (qB_tab w hw) rfl (h.2.2 w hw)⟩
theorem qZ.kept {A : Nat → Prop} {U : State} {H H1 : Heap} (h : qZ A U H) (hq : ∀ a : Nat, a < H.size → ¬ A a → H1[a]? = H[a]?) : qZ A U H1 := ⟨h.1.kept hq, h.2.1.kept hq, h.2.2⟩
theorem qZ.narrow {A B : Nat → Prop} {U : State} {H : Heap} (h : qZ A U H) (hAB : ∀ q, B q → A q) : qZ B U H := ⟨h.1.narrow hAB, h.2.1.narrow hAB, h.2.2⟩
theorem dX9_row_0 : decode cX9_row 0 = .ok (.iload_n 1, 1) := by decide +kernel
theorem dX9_row_1 : decode cX9_row 1 = .ok (.ifCond .lt 14, 3) := by decide +kernel
theorem dX9_row_4 : decode cX9_row 4 = .ok (.iload_n 1, 1) := by decide +kernel
theorem dX9_row_5 : decode cX9_row 5 = .ok (.aload_n 0, 1) := by decide +kernel
theorem dX9_row_6 : decode cX9_row 6 = .ok (.getfield 53, 3) := by decide +kernel
theorem dX9_row_9 : decode cX9_row 9 = .ok (.getfield 292, 3) := by decide +kernel
theorem dX9_row_12 : decode cX9_row 12 = .ok (.if_icmp .lt 11, 3) := by decide +kernel
theorem dX9_row_15 : decode cX9_row 15 = .ok (.new 299, 3) := by decide +kernel
theorem dX9_row_18 : decode cX9_row 18 = .ok (.dup, 1) := by decide +kernel
theorem dX9_row_19 : decode cX9_row 19 = .ok (.invokespecial 301, 3) := by decide +kernel
theorem dX9_row_22 : decode cX9_row 22 = .ok (.athrow, 1) := by decide +kernel
theorem dX9_row_23 : decode cX9_row 23 = .ok (.aload_n 0, 1) := by decide +kernel
theorem dX9_row_24 : decode cX9_row 24 = .ok (.getfield 53, 3) := by decide +kernel
theorem dX9_row_27 : decode cX9_row 27 = .ok (.getfield 302, 3) := by decide +kernel
theorem dX9_row_30 : decode cX9_row 30 = .ok (.iload_n 1, 1) := by decide +kernel
theorem dX9_row_31 : decode cX9_row 31 = .ok (.laload, 1) := by decide +kernel
theorem dX9_row_32 : decode cX9_row 32 = .ok (.lreturn, 1) := by decide +kernel
theorem dL_row_0 : decode cL_row 0 = .ok (.aload_n 2, 1) := by decide +kernel
theorem dL_row_1 : decode cL_row 1 = .ok (.iconst 0, 1) := by decide +kernel
theorem dL_row_2 : decode cL_row 2 = .ok (.aload_n 0, 1) := by decide +kernel
theorem dL_row_3 : decode cL_row 3 = .ok (.iload_n 1, 1) := by decide +kernel
theorem dL_row_4 : decode cL_row 4 = .ok (.invokevirtual 7, 3) := by decide +kernel
theorem dL_row_7 : decode cL_row 7 = .ok (.lastore, 1) := by decide +kernel
theorem dL_row_8 : decode cL_row 8 = .ok (.goto 6, 3) := by decide +kernel
theorem dL_row_11 : decode cL_row 11 = .ok (.astore_n 3, 1) := by decide +kernel
theorem dL_row_12 : decode cL_row 12 = .ok (.iconst 1, 1) := by decide +kernel
theorem dL_row_13 : decode cL_row 13 = .ok (.ireturn, 1) := by decide +kernel
theorem dL_row_14 : decode cL_row 14 = .ok (.iconst 0, 1) := by decide +kernel
theorem dL_row_15 : decode cL_row 15 = .ok (.ireturn, 1) := by decide +kernel
def rm_row : Room := { frames := 6, cells := 1, slots := 6, locals := 100 }
def rm_Lrow : Room := { frames := 7, cells := 1, slots := 6, locals := 150 }
/-- where row stands: the world, what a throw needs -/
def qRp (cA ad : Nat → Nat) (D : va_G) (tys : List (ClassId × FieldType)) (M : mz_M) (sz : Nat) (As : List Value) : Array Value → State → Prop := va_Pc As (fun U => U.heap.size = sz ∧ va_P D vwCl (mz_wl cA ad M 0 mq_sk) U.heap ∧ va_K D vwCl tys U ∧ va_D (fun _ => True) (mz_wl cA ad M 0 mq_sk) ∧ qZ (va_A (mz_wl cA ad M 0 mq_sk) sz) U U.heap)
theorem qRp_blind {cA ad : Nat → Nat} {D : va_G} {tys : List (ClassId × FieldType)} {M : mz_M} {sz : Nat} {As : List Value} : FrameBlind (qRp cA ad D tys M sz As) := fun a U g mk z => by
  obtain ⟨q0, q1, qP, qK, qD, qz⟩ := z
  exact ⟨q0, q1, qP, va_K.moved (u := U) (U := U.calling g mk a) (Vm.Alike.refl U.vm) qK, qD, qz.calling⟩
set_option maxHeartbeats 4000000 in
set_option maxRecDepth 100000 in
theorem cR_X9 {l : Launch} (hl9 : l.stackTraces = false) {D : va_G} {cA ad : Nat → Nat} {tys : List (ClassId × FieldType)} {M : mz_M} {r : Nat × (Nat → Int64)} {i : Int32} (hr9 : zQr r M) (hty : mz_tys cA tys mq_sk) (sz : Nat) :
    vx_Met l yX9_row (Cond.code yX9_row cX9_row 2 (some .long) :: mq_Ts) rm_row (qRp cA ad D tys M sz [.ref (ad 0), .int i])
      (va_Ql (S := Unit) (fun y _ => zel r.1 i = true ∧ y = r.2 (zu i)) (fun _ t => va_P D vwCl (mz_wl cA ad M 0 mq_sk) t.heap) (va_A (mz_wl cA ad M 0 mq_sk) sz))
      (vx_X (S := Unit) (fun _ => ¬ zel r.1 i = true) (fun E _ t => E = RNS ∧ va_P D vwCl (mz_wl cA ad M 0 mq_sk) t.heap) (va_A (mz_wl cA ad M 0 mq_sk) sz)) 1 6 (va_A (mz_wl cA ad M 0 mq_sk) sz) := by
  refine vx_ofW (cc := cX9_row) (maxL := 2) (ret := some .long) (by decide) rfl ?_
  intro p e s m args below meth c s₁ B hml hex hv
  obtain ⟨rfl, hsz, hP, hK, hD0, hZ⟩ := hv
  have hx := B.exec
  have hb := B.bytes
  have hr := B.returns
  have hts := atoms_spec (ws := Cond.code yX9_row cX9_row 2 (some .long) :: mq_Ts) B.pre
  have hq : ∀ w ∈ mq_Ts, w.before ([Value.ref (ad 0), .int i] : List Value).toArray s = true := fun w hw => hts w (List.mem_cons_of_mem _ hw)
  have hown : s.vm.findClass RX9 = some m.cls := findClass_of_methodNamed B.named
  have hlocks := B.notSynchronized
  subst hsz
  have hD := hD0.self (sz := s.heap.size)
  have hS : va_S (va_A (mz_wl cA ad M 0 mq_sk) s.heap.size) s.heap s.heap [] := va_S.rf
  have hl := lv_entry ([.ref (ad 0), .int i]) (n := 2) (Nat.le_of_ble_eq_true rfl)
  rw [lg_entry_eq]
  generalize (lg_sl ([.ref (ad 0), .int i]) ++ List.replicate (2 - (lg_sl ([.ref (ad 0), .int i])).length) Slot.unset).toArray = ls at hl ⊢
  have hl : lv_has ls 2 [(0, .ref (ad 0)), (1, .int i)] := hl
  have hat : ∀ w ∈ vx_at0 RX9 301 RNS qNs, w.before ([Value.ref (ad 0), .int i] : List Value).toArray s = true := vx_hat (B := qB) (fun w hw => hq w (qB_good w hw)) qB_all (fun w hw => va_Nw.use (qB_tab w hw) (hZ.2.2 w hw))
  have thr : ¬ zel r.1 i = true → W p l e (headSpec (Cond.code yX9_row cX9_row 2 (some .long) :: mq_Ts) rm_row).room s m ([Value.ref (ad 0), .int i] : List Value).toArray below meth c s.heap [] 0 0 (vx_MQ below (va_Ql (S := Unit) (fun y _ => zel r.1 i = true ∧ y = r.2 (zu i)) (fun _ t => va_P D vwCl (mz_wl cA ad M 0 mq_sk) t.heap) (va_A (mz_wl cA ad M 0 mq_sk) s.heap.size)) (vx_X (S := Unit) (fun _ => ¬ zel r.1 i = true) (fun E _ t => E = RNS ∧ va_P D vwCl (mz_wl cA ad M 0 mq_sk) t.heap) (va_A (mz_wl cA ad M 0 mq_sk) s.heap.size)) ([Value.ref (ad 0), .int i] : List Value).toArray s 1 6 (va_A (mz_wl cA ad M 0 mq_sk) s.heap.size)) (F0 m 15 ls []) := fun hn =>
    vx_throw0 (own := RX9) (cls := RNS) (names := qNs) (ik := 299) (ic := 301) (A := va_A (mz_wl cA ad M 0 mq_sk) s.heap.size) hx hb hl9 hown (by decide +kernel) (by decide +kernel) (hq _ (mq_at_in (q := (4, 38)) (by decide +kernel))) (hq _ (mq_at_in (q := (1, 18)) (by decide +kernel))) hat qB_ot hZ.1 hZ.2.1 hS (by rw [hml]; exact hl.1) dX9_row_15 dX9_row_18 dX9_row_19 dX9_row_22 (fun x hx9 => (hex x hx9).elim) (by decide +kernel) (by decide +kernel) (by decide +kernel) (by decide +kernel) hlocks
      (fun t hvm h1 h2 => ⟨(), hn, ⟨rfl, hP.kept (fun k x hx9 => h2 x.1 ((hP k x hx9).lt))⟩, h1, fun q h3 _ => h2 q h3⟩) (fun z hz => nomatch hz) (by decide) (by decide)
  refine lv_iload_n hx hb dX9_row_0 rfl (lv_at hl 1 rfl) ?_
  refine lv_if_lt (tgt := 15) hx hb dX9_row_1 rfl (fun hlt => thr (fun hz => Int32.not_lt.mpr (of_decide_eq_true hz).1 hlt)) (fun hge => ?_)
  refine lv_iload_n hx hb dX9_row_4 rfl (lv_at hl 1 rfl) ?_
  refine lv_aload_n hx hb dX9_row_5 rfl (lv_at hl 0 rfl) ?_
  refine va_get (D := D) (ci := 7) (C := RX9) (T := TX9) (N := 11) (fs := mz_fs ad M 0 0 [some 1, some 2, some 5, some 8, some 14, some 20, some 70, some 73, some 75, some 76, none]) hx hb hq (fun w hw => mq_iu w (mq_u7 w hw)) hown hK hP 0 (mz_w_at (e := sk_o9) (i := 0) rfl) rfl 7 (by decide) (hq _ (mq_at_in (q := (1, 206)) (by decide +kernel))) (fun _ h9 => h9) rfl dX9_row_6 ?_
  refine va_get (D := D) (ci := 4) (C := RX6) (T := TX6) (N := 2) (fs := mz_fs ad M 73 0 [some 74, none]) hx hb hq (fun w hw => mq_iu w (mq_u4 w hw)) hown hK hP 73 (mz_w_at (e := .inr (4, [some 74, none])) (i := 73) rfl) rfl 1 (by decide) (hq _ (mq_at_in (q := (1, 157)) (by decide +kernel))) (fun _ h9 => h9) rfl dX9_row_9 ?_
  refine lv_icmp_lt (tgt := 23) hx hb dX9_row_12 rfl (fun hlt => ?_) (fun hn => thr (fun hz => ?_))
  · have hlt : i < M.1 73 1 := hlt
    rw [hr9.2.1] at hlt
    have hz : zel r.1 i = true := decide_eq_true ⟨Int32.not_lt.mp hge, hlt⟩
    have h16 := hr9.1
    obtain ⟨j, hj, rfl⟩ := (zel_iff (n := r.1) (by omega)).mp hz
    refine lv_aload_n hx hb dX9_row_23 rfl (lv_at hl 0 rfl) ?_
    refine va_get (D := D) (ci := 7) (C := RX9) (T := TX9) (N := 11) (fs := mz_fs ad M 0 0 [some 1, some 2, some 5, some 8, some 14, some 20, some 70, some 73, some 75, some 76, none]) hx hb hq (fun w hw => mq_iu w (mq_u7 w hw)) hown hK hP 0 (mz_w_at (e := sk_o9) (i := 0) rfl) rfl 7 (by decide) (hq _ (mq_at_in (q := (1, 206)) (by decide +kernel))) (fun _ h9 => h9) rfl dX9_row_24 ?_
    refine va_get (D := D) (ci := 4) (C := RX6) (T := TX6) (N := 2) (fs := mz_fs ad M 73 0 [some 74, none]) hx hb hq (fun w hw => mq_iu w (mq_u4 w hw)) hown hK hP 73 (mz_w_at (e := .inr (4, [some 74, none])) (i := 73) rfl) rfl 0 (by decide) (hq _ (mq_at_in (q := (1, 155)) (by decide +kernel))) (fun _ h9 => h9) rfl dX9_row_27 ?_
    refine lv_iload_n hx hb dX9_row_30 rfl (lv_at hl 1 rfl) ?_
    have hw : (mz_wl cA ad M 0 mq_sk)[74]? = some (ad 74, .inl (cA 2, 16, .inr (.inl (M.2 74)))) := mz_w_at (e := .inl (2, 16, [])) (i := 74) rfl
    refine va_lald hx hb hK hP 74 2 hw hty.2.2.1 (zn_in (by omega) (by decide)) dX9_row_31 ?_
    refine W.widen (k := 1) (n := 6) (by decide) (by decide) ?_
    refine vx_ret (W.lret hx hb hr (fun t ht hW => ⟨⟨_, (), rfl, ⟨hz, ?_⟩, by show va_P D vwCl (mz_wl cA ad M 0 mq_sk) t.heap; rw [ht]; exact hP⟩, hS.F ht⟩) hS.2.2 dX9_row_32)
    rw [zn_cl (by omega), zu_nI (by omega)]
    exact hr9.2.2 j hj
  · have hn : ¬ i < M.1 73 1 := hn
    rw [hr9.2.1] at hn
    exact hn (of_decide_eq_true hz).2
set_option maxHeartbeats 4000000 in
set_option maxRecDepth 100000 in
theorem cR_L {l : Launch} (hl9 : l.stackTraces = false) {D : va_G} {cA ad : Nat → Nat} {tys : List (ClassId × FieldType)} {M : mz_M} {r : Nat × (Nat → Int64)} {i : Int32} (hr9 : zQr r M) (hty : mz_tys cA tys mq_sk) (sz : Nat) :
    Met l yL_row (Cond.codeWith yL_row cL_row 4 (some .int) [(0, 8, 11, 13)] :: mq_Ts) rm_Lrow (qRp cA ad D tys M sz [.ref (ad 0), .int i, .ref (ad 91)])
      (va_Qi (S := mz_M) (fun k M' => (zel r.1 i = true ∧ k = 0 ∧ M' = mz_wrl M 91 (vp_updL (M.2 91) 0 (r.2 (zu i)))) ∨ (¬ zel r.1 i = true ∧ k = 1 ∧ M' = M)) (fun M' t => va_P D vwCl (mz_wl cA ad M' 0 mq_sk) t.heap ∧ va_D (va_A (mz_wl cA ad M 0 mq_sk) sz) (mz_wl cA ad M' 0 mq_sk)) (va_A (mz_wl cA ad M 0 mq_sk) sz)) 1 6 (va_A (mz_wl cA ad M 0 mq_sk) sz) := by
  refine va_MetW (cc := cL_row) (maxL := 4) (ret := some .int) (hh := [(0, 8, 11, 13)]) (by decide) rfl ?_
  intro p e s m args below meth c s₁ B hml hv
  obtain ⟨rfl, hsz, hP, hK, hD0, hZ⟩ := hv
  have hx := B.exec
  have hb := B.bytes
  have hr := B.returns
  have hts := atoms_spec (ws := Cond.codeWith yL_row cL_row 4 (some .int) [(0, 8, 11, 13)] :: mq_Ts) B.pre
  have htab : c.exceptionTable.toList = tableOf [(0, 8, 11, 13)] := vx_table (x := yL_row) B (hts _ List.mem_cons_self)
  have hq : ∀ w ∈ mq_Ts, w.before ([Value.ref (ad 0), .int i, .ref (ad 91)] : List Value).toArray s = true := fun w hw => hts w (List.mem_cons_of_mem _ hw)
  have hown : s.vm.findClass RL = some m.cls := findClass_of_methodNamed B.named
  have hlocks := B.notSynchronized
  subst hsz
  have hD := hD0.self (sz := s.heap.size)
  have hS : va_S (va_A (mz_wl cA ad M 0 mq_sk) s.heap.size) s.heap s.heap [] := va_S.rf
  have hl := lv_entry ([.ref (ad 0), .int i, .ref (ad 91)]) (n := 4) (Nat.le_of_ble_eq_true rfl)
  rw [lg_entry_eq]
  generalize (lg_sl ([.ref (ad 0), .int i, .ref (ad 91)]) ++ List.replicate (4 - (lg_sl ([.ref (ad 0), .int i, .ref (ad 91)])).length) Slot.unset).toArray = ls at hl ⊢
  have hl : lv_has ls 4 [(0, .ref (ad 0)), (1, .int i), (2, .ref (ad 91))] := hl
  refine lv_aload_n hx hb dL_row_0 rfl (lv_at hl 2 rfl) ?_
  refine lv_iconst (v := 0) hx hb dL_row_1 rfl ?_
  refine lv_aload_n hx hb dL_row_2 rfl (lv_at hl 0 rfl) ?_
  refine lv_iload_n hx hb dL_row_3 rfl (lv_at hl 1 rfl) ?_
  have h0 : (mz_wl cA ad M 0 mq_sk)[0]? = some (ad 0, .inr (7, mz_fs ad M 0 0 [some 1, some 2, some 5, some 8, some 14, some 20, some 70, some 73, some 75, some 76, none])) := mz_w_at (e := sk_o9) (i := 0) rfl
  have hrcv := va_recv hK hP (ci := 7) (q := (RX9, TX9, 11)) rfl h0
  have hCB := callB_of (R := (headSpec (Cond.codeWith yL_row cL_row 4 (some .int) [(0, 8, 11, 13)] :: mq_Ts) rm_Lrow).room) (y := yX9_row) (bytes := cX9_row) (maxL := 2) (ret := some .long) (rm := rm_row) (ws := Cond.code yX9_row cX9_row 2 (some .long) :: mq_Ts) (ws' := mq_Ts) (mc := 1) (ms := 6) (own := RL) (index := 7) 1 hts (mq_good (mq_at_in (q := (4, 37)) (by decide +kernel)) (fun w hw => List.mem_cons_of_mem _ hw)) rfl rfl rfl (hq _ (mq_at_in (q := (1, 1)) (by decide +kernel))) (hq _ (mq_at_in (q := (4, 34)) (by decide +kernel))) (by decide +kernel) ⟨(Nat.le_of_ble_eq_true rfl), (Nat.le_of_ble_eq_true rfl)⟩
  have hrn := vx_runV (e := e) (below := below) (meth := meth) (C := RX9) (b := ad 0) (As := [.int i]) (rest := [.int 0, .ref (ad 91)]) (g := F0 m 4 ls [.int i, .ref (ad 0), .int 0, .ref (ad 91)]) (H := s.heap) (locs := []) (cells := 0) (slots := 0) ⟨hx, hb, hml, hown, hts⟩ (cR_X9 hl9 (D := D) (cA := cA) (ad := ad) (i := i) hr9 hty s.heap.size) ⟨hCB, (hq _ (mq_at_in (q := (4, 35)) (by decide +kernel))), (hq _ (mq_at_in (q := (4, 36)) (by decide +kernel)))⟩ ⟨qRp_blind, hrcv, fun U hU hW => ⟨rfl, by rw [hU], by rw [hU]; exact hP, va_K.moved hW.alike hK, hD0, by rw [hU]; exact hZ.warm hW⟩⟩ rfl rfl hl.1 rfl (lv_room (Nat.le_of_ble_eq_true rfl)) dL_row_4 ⟨(Nat.le_of_ble_eq_true rfl), (Nat.le_of_ble_eq_true rfl)⟩
  refine vx_calll hrn hS (fun _ _ h => h) (fun _ h => h) (fun _ _ h => h) (fun E ce q9 u t H1 locs1 ht hvm hn hB hz1 hk1 hS1 hce hcv hcl => ?_) (fun y u t H1 locs1 ht hvm hp hB hz1 hk1 hS1 => ?_)
  · obtain ⟨rfl, hP1⟩ := hB
    rw [ht] at hP1
    refine vx_catch (own := RL) (name := RNS) (E := RNS) (ce := ce) hown [] ⟨0, 8, 11, 13⟩ [] (htab.trans rfl) (fun z hz => nomatch hz) (by decide +kernel) (by decide) (hq _ (mq_at_in (q := (4, 33)) (by decide +kernel))) (va_Nw.use rfl (hZ.2.2 _ (by simp [qB]))) hce hcv hcl ?_
    refine W.eq (g2 := F0 m 11 ls [.ref q9]) rfl ?_
    refine lv_astore_n (i := 3) (nL := 4) (lv' := [(3, .ref q9), (0, .ref (ad 0)), (1, .int i), (2, .ref (ad 91))]) hx hb dL_row_11 rfl hl (by decide) rfl (fun ls hl => ?_)
    refine lv_iconst (v := 1) hx hb dL_row_12 rfl ?_
    exact W.iret hx hb hr (fun t ht hW => ⟨⟨_, M, rfl, Or.inr ⟨hn, rfl, rfl⟩, by rw [ht]; exact hP1, hD⟩, hS1.F ht⟩) hS1.2.2 dL_row_13
  · have hB : va_P D vwCl (mz_wl cA ad M 0 mq_sk) t.heap := hB
    rw [ht] at hB
    have hw : (mz_wl cA ad M 0 mq_sk)[91]? = some (ad 91, .inl (cA 2, 1, .inr (.inl (M.2 91)))) := mz_w_at (e := .inl (2, 1, [])) (i := 91) rfl
    refine va_last hx hb hK hB hD hS1 91 2 hw hty.2.2.1 (i := 0) (zn_in (a := 0) (by decide) (by decide)) dL_row_7 (fun H2 locs2 g1 g2 g3 => ?_)
    have e91 : mz_nth mq_sk 91 = some (.inl (2, 1, [])) := rfl
    rw [mz_rowL e91] at g1 g2
    refine lv_goto (tgt := 14) hx hb dL_row_8 rfl ?_
    refine lv_iconst (v := 0) hx hb dL_row_14 rfl ?_
    exact W.iret hx hb hr (fun t ht hW => ⟨⟨_, _, rfl, Or.inl ⟨hp.1, rfl, by rw [hp.2]; rfl⟩, by rw [ht]; exact g1, g2⟩, g3.F ht⟩) g3.2.2 dL_row_15
theorem q_gL : GoodIn lw_tbl (va_wsS R_law 264 yL_row (Cond.codeWith yL_row cL_row 4 (some .int) [(0, 8, 11, 13)] :: mq_Ts)) := by
  intro w hw
  have hm : w ∈ mq_Ts := by
    unfold va_wsS at hw
    rcases List.mem_append.mp hw with h | h
    · simp only [List.mem_cons, List.not_mem_nil, or_false] at h
      rcases h with rfl | rfl | rfl
      · exact (mq_at_in (q := (4, 30)) (by decide +kernel))
      · exact (mq_at_in (q := (4, 31)) (by decide +kernel))
      · exact (mq_at_in (q := (1, 0)) (by decide +kernel))
    · rcases List.mem_cons.mp h with rfl | h
      · exact mq_at_in (q := (4, 32)) (by decide +kernel)
      · exact h
  exact ⟨mq_in_tbl hm, good_of_word (mq_hg _ hm)⟩
section LQ60
variable {p : Program} {l : Launch} {e : Env} {s : State} {m : MethodId} {below : List Frame} {meth : Method} {c : Code} {Q : State → Prop}
variable {kc ks : Nat} {D : va_G} {tys : List (ClassId × FieldType)} {cA ad : Nat → Nat} {b L : Nat} {xs : Nat → Int32} {i : Int32}
theorem lg_cmp_self (y : Int64) : lg_cmp y y = 0 := by
  unfold lg_cmp
  rw [if_neg (show ¬ y > y from Int64.lt_irrefl), if_pos rfl]
set_option maxHeartbeats 4000000 in
set_option maxRecDepth 100000 in
theorem lq_c60 (X : lq_X p s m c b L xs D tys cA) (hl9 : l.stackTraces = false) (hZ0 : qZ (lq_A s) s s.heap) (h1 : vp_in (i + 1) L) (hc : kc + 1 ≤ 601024) (hs : ks + 16 ≤ 7293034) (kk : lq_H p l e s m below meth c Q D cA ad b (kc + 1) (ks + 16) 2139 i) : lq_H p l e s m below meth c Q D cA ad b kc ks 2084 i := by
  intro H locs ls M σ hB hP hD hS hl
  have XX := X
  obtain ⟨hx, hb, hml, hown, hts, hX, hbl, hK, hty⟩ := XX
  have hq : ∀ w ∈ mq_Ts, w.before #[Value.ref b] s = true := fun w hw => hts w (mq_in_tbl hw)
  refine lv_aload_n hx hb dL_law_2084 rfl (lv_at hl 2 rfl) ?_
  refine lq_ld X dL_law_2085 dL_law_2086 dL_law_2088 dL_law_2089 dL_law_2090 (v := 1) rfl h1 hl hS ?_
  refine lv_aload_n hx hb dL_law_2091 rfl (lv_at hl 4 rfl) ?_
  generalize hx9 : xs (i + 1).toNatClampNeg = x
  have hsub : ∀ q, va_A (mz_wl cA ad M 0 mq_sk) H.size q → lq_A s q := by
    rintro q (⟨k0, e0, h⟩ | h)
    · exact hD.2 k0 _ h
    · exact Nat.le_trans hS.1 h
  have hZ : qZ (va_A (mz_wl cA ad M 0 mq_sk) H.size) s H := (hZ0.kept hS.2.1).narrow hsub
  have hr9 : zQr σ.2.2.2.2 M := hB.1.2.2.2.2.2.2
  have hM := cR_L (l := l) hl9 (D := D) (cA := cA) (ad := ad) (tys := tys) (i := x) hr9 hty H.size
  have hrn := vx_runSW (p := p) (e := e) (R := room_1) (s := s) (m := m) (args := #[Value.ref b]) (below := below) (meth := meth) (c := c) (H := H) (locs := locs) (cells := kc) (slots := ks) (own := R_law) (index := 264) (As := [.ref (ad 0), .int x, .ref (ad 91)]) (rest := []) (g := F0 m 2092 ls [.ref (ad 91), .int x, .ref (ad 0)]) (nL := 8) (cc := code) ⟨hx, hb, hml, hown, hts⟩ hM
    (vx_cwSW 3 hts q_gL rfl rfl rfl (by decide +kernel) ⟨(Nat.le_of_ble_eq_true rfl), (Nat.le_of_ble_eq_true rfl)⟩) ⟨qRp_blind, fun U hU hW => ⟨rfl, by rw [hU], by rw [hU]; exact hP, va_K.moved hW.alike hK, hD.weaken (fun _ _ _ _ => trivial), by rw [hU]; exact hZ.warm hW⟩⟩ rfl rfl hl.1 rfl (lv_room (Nat.le_of_ble_eq_true rfl)) dL_law_2092 ⟨by show kc + 1 ≤ 601024; omega, by show ks + 6 ≤ 7293034; omega⟩
  refine va_calli hrn hS (fun q _ h => hsub q h) hsub (fun k M1 t H1 locs1 ht hvm hor hB1 hz1 hk1 hS1 => ?_)
  obtain ⟨hP1, hD1⟩ := hB1
  rw [ht] at hP1
  have hD1 : va_D (lq_A s) (mz_wl cA ad M1 0 mq_sk) := hD1.weaken (fun _ _ _ h => hsub _ h)
  have hB2 : zBo σ M1 := by
    rcases hor with ⟨-, -, rfl⟩ | ⟨-, -, rfl⟩
    · exact hB.l91
    · exact hB
  refine lv_istore (i := 5) (nL := 8) (lv' := [(5, .int k), (4, .int i), (0, .ref b), (1, .ref (ad 0)), (2, .ref (ad 77)), (3, .ref (ad 91))]) hx hb dL_law_2095 hl (by decide) rfl (fun ls hl => ?_)
  refine lv_aload_n hx hb dL_law_2097 rfl (lv_at hl 4 rfl) ?_
  refine lq_ld X dL_law_2098 dL_law_2099 dL_law_2101 dL_law_2102 dL_law_2103 (v := 1) rfl h1 (lv := [(1, .ref (ad 0))]) (lv_sub hl [1, 2, 3] rfl) hS1 ?_
  rw [hx9]
  obtain ⟨y, M2, r2, hP2, e2, hor2⟩ := c_X10_row2 (M0 := M1) ⟨zL.rf M1, hB2.2⟩ x
  refine lq_call X (a := 251) (b9 := 77) (As := [.int x]) (rest := []) (r1 := (some (.long y), M2)) rfl rfl rfl rfl (Nat.le_of_ble_eq_true rfl) (Nat.le_of_ble_eq_true rfl) (mq_at_in (q := (6, 174)) (by decide +kernel)) ⟨(Nat.le_of_ble_eq_true rfl), (Nat.le_of_ble_eq_true rfl)⟩ ⟨by show kc + 1 ≤ 601024; omega, by show ks + 6 ≤ 7293034; omega⟩ dL_law_2104 r2 hP1 hD1 hS1 hl.1 (fun H locs hP hD hS => ?_)
  refine W.eq (g2 := F0 m 2107 ls [.long y]) rfl ?_
  refine lv_lstore (i := 6) (nL := 8) (lv' := [(6, .long y), (5, .int k), (4, .int i), (0, .ref b), (1, .ref (ad 0)), (2, .ref (ad 77)), (3, .ref (ad 91))]) hx hb dL_law_2107 hl (by decide) rfl (fun ls hl => ?_)
  refine lv_aload_n hx hb dL_law_2109 rfl (lv_at hl 5 rfl) ?_
  have r3 : mq_C mq_X10_thrown [.ref 77] M2 (some (.int (M2.1 77 10)), M2) := t_X10_thrown_0 _ rfl
  refine lq_call X (a := 132) (b9 := 77) (As := []) (rest := []) (r1 := (some (.int (M2.1 77 10)), M2)) rfl rfl rfl rfl (Nat.le_of_ble_eq_true rfl) (Nat.le_of_ble_eq_true rfl) (mq_at_in (q := (4, 190)) (by decide +kernel)) ⟨(Nat.le_of_ble_eq_true rfl), (Nat.le_of_ble_eq_true rfl)⟩ ⟨by show kc + 1 ≤ 601024; omega, by show ks + 6 ≤ 7293034; omega⟩ dL_law_2110 r3 hP hD hS hl.1 (fun H locs hP hD hS => ?_)
  refine W.eq (g2 := F0 m 2113 ls [.int (M2.1 77 10)]) rfl ?_
  refine lv_iload hx hb dL_law_2113 (lv_at hl 1 rfl) ?_
  have hB3 : zBo σ M2 := ⟨hB2.1.L hP2.1, hP2.2⟩
  have fin : W p l e room_1 s m #[Value.ref b] below meth c H locs (kc + 1) (ks + 6) Q (F0 m 2136 ls []) := by
    refine lv_goto (tgt := 2139) hx hb dL_law_2136 rfl ?_
    refine W.widen (k := kc + 1) (n := ks + 16) (Nat.le_refl _) (by omega) ?_
    exact kk H locs ls M2 σ hB3 hP hD hS (lv_sub hl [2, 3, 4, 5, 6] rfl)
  have hkk : M2.1 77 10 = k := by
    rcases hor with ⟨a1, rfl, -⟩ | ⟨a1, rfl, -⟩ <;> rcases hor2 with ⟨b1, -, b3⟩ | ⟨b1, b3⟩
    · exact b3
    · exact absurd a1 b1
    · exact absurd b1 a1
    · exact b3
  refine lv_icmp_eq (tgt := 2120) hx hb dL_law_2115 rfl (fun _ => ?_) (fun q => absurd hkk q)
  refine lv_iload hx hb dL_law_2120 (lv_at hl 1 rfl) ?_
  refine lv_if_ne (tgt := 2136) hx hb dL_law_2122 rfl (fun _ => fin) (fun q => ?_)
  refine lv_aload_n hx hb dL_law_2125 rfl (lv_at hl 6 rfl) ?_
  refine lv_iconst (v := 0) hx hb dL_law_2126 rfl ?_
  have hw : (mz_wl cA ad M2 0 mq_sk)[91]? = some (ad 91, .inl (cA 2, 1, .inr (.inl (M2.2 91)))) := mz_w_at (e := .inl (2, 1, [])) (i := 91) rfl
  refine va_lald hx hb hK hP 91 2 hw hty.2.2.1 (zn_in (a := 0) (by decide) (by decide)) dL_law_2127 ?_
  refine lv_lload hx hb dL_law_2128 (lv_at hl 0 rfl) ?_
  refine W.lcmp hx hb dL_law_2130 ?_
  have hyy : M2.2 91 (0 : Int32).toNatClampNeg = y := by
    rcases hor with ⟨a1, -, a3⟩ | ⟨a1, rfl, -⟩
    · rcases hor2 with ⟨b1, b2, -⟩ | ⟨b1, -⟩
      · rw [e2, a3, zwrl_s, b2]
        rfl
      · exact absurd a1 b1
    · exact absurd q (by decide)
  rw [hyy, lg_cmp_self]
  exact lv_if_eq (tgt := 2136) hx hb dL_law_2131 rfl (fun _ => fin) (fun q => absurd rfl q)
end LQ60
