/-! a table's method called from a constructor: over the class's own cells, or over all -/
section QC
variable {p : Program} {l : Launch} {e : Env} {R : Room} {s : State} {m : MethodId} {args : Array Value} {below : List Frame} {meth : Method} {c : Code} {Q : State → Prop}
variable {cc : ByteArray} {nL pc cells slots : Nat} {ls : Array Slot} {D : va_G} {cA ad : Nat → Nat} {A : Nat → Prop} {H H0 : Heap} {locs : List Loc}
theorem qc_call {SK : List mz_E} {own : String} {Ts : List Cond} {J : mz_I} {a b9 i9 : Nat} {As rest : List Value} {fs : List (Option Nat)} {M : mz_M} {r1 : mz_O} (hty : mz_tys cA (qT cA) SK) (hx : p.tables.exec = Jvm.exec) (hb : c.code = cc) (hml : c.maxLocals = nL) (hown : s.vm.findClass own = some m.cls) (hts : ∀ w ∈ Ts, w.before args s = true) (hsub : ∀ w ∈ mq_Ts, w ∈ Ts) (hK : va_K D vwCl (qT cA) s) (hA : ∀ q, H0.size ≤ q → A q)
    (hJ : mz_nth mq_tab a = some J) (a3 : As.length = mz_np J) (a4 : mz_sta J = false) (a5 : mz_nth SK b9 = some (.inr (mz_ci J, fs))) (a6 : (rest.map fun v => v.category).sum ≤ 8) (a7 : (lg_sl (Value.ref b9 :: As)).length ≤ mz_nL J) (hlink : Cond.methodLink own i9 (mz_y J) ∈ mq_Ts) (hroom : mz_fr J + 1 ≤ R.frames ∧ 8 + (mz_nL J + 11) + mz_lo J ≤ R.locals) (hcs : cells ≤ R.cells ∧ slots ≤ R.slots) (hdg : decode cc pc = .ok (.invokevirtual i9, 3)) (hrun : mz_Call SK mq_tab J (.ref b9 :: As) M r1)
    (h1 : va_P D vwCl (mz_wl cA ad M 0 SK) H) (h2 : va_D A (mz_wl cA ad M 0 SK)) (h3 : va_S A H0 H locs) (hsz : ls.size = nL)
    (kk : ∀ (H1 : Heap) (locs1 : List Loc), va_P D vwCl (mz_wl cA ad r1.2 0 SK) H1 → va_D A (mz_wl cA ad r1.2 0 SK) → va_S A H0 H1 locs1 → W p l e R s m args below meth c H1 locs1 cells slots Q (F0 m (pc + 3) ls ((r1.1.map (mz_cv ad)).toList ++ rest))) :
    W p l e R s m args below meth c H locs cells slots Q (F0 m pc ls (As.reverse.map (mz_cv ad) ++ .ref (ad b9) :: rest)) := by
  have hts2 : ∀ w ∈ mq_Ts, w.before args s = true := fun w hw => hts w (hsub w hw)
  obtain ⟨n9, hrun⟩ := hrun
  obtain ⟨⟨m1, m2, m3, m4, -, m5⟩, -⟩ := mq_ok _ J hJ
  obtain ⟨m6, m7, q9, m8, m9⟩ := m5 a4
  have hM := mz_sim (l := l) (D := D) (ad := ad) mq_ok mq_hg mq_hLK hty mq_cls mq_cpy mq_min n9 _ J (.ref b9 :: As) M r1 H.size hJ hrun a7
  have hw : (mz_wl cA ad M 0 SK)[b9]? = some (ad b9, .inr (mz_ci J, mz_fs ad M b9 0 fs)) := mz_w_at a5
  have hCB := callB_of (R := R) (rm := mz_rm J) (ws := mz_ws mq_Ts J) (ws' := mq_Ts) (mc := 0) (ms := 0) (own := own) (index := i9) (mz_np J) hts (mq_good m2 hsub) rfl rfl rfl (hts2 _ m3) (hts2 _ hlink) m4 hroom
  have hrcv := va_recv hK h1 m8 hw
  rw [m9] at hrcv
  have hrn := va_runV (e := e) (below := below) (meth := meth) (C := (mz_y J).cls) (b := ad b9) (As := As.map (mz_cv ad)) (rest := rest) (g := F0 m pc ls (As.reverse.map (mz_cv ad) ++ .ref (ad b9) :: rest)) (locs := locs) (cells := cells) (slots := slots) ⟨hx, hb, hml, hown, hts⟩ hM ⟨hCB, hts2 _ m6, hts2 _ m7⟩ ⟨mz_blind, hrcv, fun U hU hW => ⟨rfl, by rw [hU], by rw [hU]; exact h1, va_K.moved hW.alike hK, h2.weaken (fun _ _ _ _ => trivial)⟩⟩ rfl (by rw [List.length_map]; exact a3) hsz (by rw [List.map_reverse]) (lv_room a6) hdg hcs
  have hsubA : ∀ q, va_A (mz_wl cA ad M 0 SK) H.size q → A q := by
    rintro q (⟨k0, e0, h⟩ | h)
    · exact h2.2 k0 _ h
    · exact hA q (Nat.le_trans h3.1 h)
  intro T hT X
  obtain ⟨v, st₀, t, T', L, h0, X', hL, e1, e2, ⟨⟨hv, qP, qK, qD⟩, hz, hk⟩, st⟩ := hrn T hT X
  cases hv
  rw [h0] at hz hk
  obtain ⟨t2, a1, b1⟩ := kk T'.heap (locs ++ L) (by rw [e1]; exact qP) (qD.weaken (fun _ _ _ h => hsubA _ h))
    ⟨Nat.le_trans h3.1 (by rw [e1]; exact hz), fun q h1 h2 => by rw [e1, hk q (Nat.lt_of_lt_of_le h1 h3.1) (fun z => h2 (hsubA q z))]; exact h3.2.1 q h1 h2, fun q hq => by
      rcases List.mem_append.mp hq with h | h
      · exact h3.2.2 q h
      · exact hsubA _ (hL q h)⟩ T' rfl X'
  exact ⟨t2, st t2 a1, b1⟩
end QC
