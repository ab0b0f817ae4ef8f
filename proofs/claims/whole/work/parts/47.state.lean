/-! the state that class and reference share, and how the reference holds it -/
/-- a field and four bases: POLY, its degree, the bases -/
abbrev zSt : Type := Nat × Nat × (Nat → Nat → Nat)
/-- now, what is kept, the past (the latest last), THE TEXT, THE ROW -/
abbrev zSg : Type := zSt × Option zSt × (Nat × (Nat → zSt)) × (Nat × (Nat → Nat)) × (Nat × (Nat → Int64))
def zok (a : zSt) : Prop := fgood a.1 a.2.1 ∧ (∃ g, (a.1, a.2.1, g) ∈ zirrs) ∧ ∀ s, s < 4 → zbas a.2.1 (a.2.2 s)
def zW (a : zSt) (c o : Nat) (M : mz_M) : Prop := M.1 c o = nI a.1 ∧ ∀ s, s < 4 → ∀ i, i < a.2.1 → M.1 c (o + 1 + 8 * s + i) = nI (a.2.2 s i)
def zRk (K : Option zSt) (M : mz_M) : Prop := match K with
  | none => M.1 77 3 = 0
  | some a => M.1 77 3 = 1 ∧ zok a ∧ zW a 80 0 M
def zRp (p : Nat × (Nat → zSt)) (M : mz_M) : Prop := p.1 ≤ 8 ∧ M.1 77 5 = nI p.1 ∧ ∀ k, k < p.1 → zok (p.2 k) ∧ zW (p.2 k) 81 (33 * k) M
def zRt (t : Nat × (Nat → Nat)) (M : mz_M) : Prop := t.1 ≤ 100 ∧ M.1 77 7 = nI t.1 ∧ ∀ k, k < t.1 → t.2 k < 256 ∧ M.1 82 k = (nI (t.2 k)).toInt8.toInt32
def zRr (r : Nat × (Nat → Int64)) (M : mz_M) : Prop := r.1 ≤ 16 ∧ M.1 77 9 = nI r.1 ∧ ∀ k, k < r.1 → M.2 83 k = r.2 k
def zRc (a : zSt) (M : mz_M) : Prop := zok a ∧ zW a 78 0 M ∧ M.1 77 11 = nI a.2.1 ∧ M.1 77 12 = nI (2 ^ a.2.1)
def zR (σ : zSg) (M : mz_M) : Prop := zRc σ.1 M ∧ zRk σ.2.1 M ∧ zRp σ.2.2.1 M ∧ zRt σ.2.2.2.1 M ∧ zRr σ.2.2.2.2 M
theorem zW.k {a : zSt} {c o : Nat} {M M' : mz_M} (h : zW a c o M) (hc : M'.1 c = M.1 c) : zW a c o M' := by unfold zW; rw [hc]; exact h
theorem zRc.k {a : zSt} {M M' : mz_M} (h : zRc a M) (h1 : M'.1 78 = M.1 78) (h2 : M'.1 77 11 = M.1 77 11) (h3 : M'.1 77 12 = M.1 77 12) : zRc a M' := ⟨h.1, h.2.1.k h1, h2.trans h.2.2.1, h3.trans h.2.2.2⟩
theorem zRk.k {a : Option zSt} {M M' : mz_M} (h : zRk a M) (h1 : M'.1 80 = M.1 80) (h2 : M'.1 77 3 = M.1 77 3) : zRk a M' := by
  unfold zRk at *
  split at h
  · exact h2.trans h
  · exact ⟨h2.trans h.1, h.2.1, h.2.2.k h1⟩
theorem zRp.k {p : Nat × (Nat → zSt)} {M M' : mz_M} (h : zRp p M) (h1 : M'.1 81 = M.1 81) (h2 : M'.1 77 5 = M.1 77 5) : zRp p M' := ⟨h.1, h2.trans h.2.1, fun k hk => ⟨(h.2.2 k hk).1, (h.2.2 k hk).2.k h1⟩⟩
theorem zRt.k {p : Nat × (Nat → Nat)} {M M' : mz_M} (h : zRt p M) (h1 : M'.1 82 = M.1 82) (h2 : M'.1 77 7 = M.1 77 7) : zRt p M' := ⟨h.1, h2.trans h.2.1, fun k hk => by rw [h1]; exact h.2.2 k hk⟩
theorem zRr.k {p : Nat × (Nat → Int64)} {M M' : mz_M} (h : zRr p M) (h1 : M'.2 83 = M.2 83) (h2 : M'.1 77 9 = M.1 77 9) : zRr p M' := ⟨h.1, h2.trans h.2.1, fun k hk => by rw [h1]; exact h.2.2 k hk⟩
/-- what the class holds stays -/
def zL (M M' : mz_M) : Prop := ∀ c, c < 77 → M'.1 c = M.1 c ∧ M'.2 c = M.2 c
theorem zL.rf (M : mz_M) : zL M M := fun _ _ => ⟨rfl, rfl⟩
theorem zL.tr {M M1 M2 : mz_M} (h1 : zL M M1) (h2 : zL M1 M2) : zL M M2 := fun c hc => ⟨(h2 c hc).1.trans (h1 c hc).1, (h2 c hc).2.trans (h1 c hc).2⟩
theorem zL.wr {M M1 : mz_M} {c : Nat} {f : Nat → Int32} (h : zL M M1) (hc : 77 ≤ c) : zL M (mz_wr M1 c f) := h.tr (fun d hd => ⟨zwr_n (by omega), rfl⟩)
theorem zwrl_s (M : mz_M) (a : Nat) (f : Nat → Int64) : (mz_wrl M a f).2 a = f := by simp [mz_wrl]
theorem zwrl_n {M : mz_M} {a b : Nat} {f : Nat → Int64} (h : ¬ b = a) : (mz_wrl M a f).2 b = M.2 b := by simp [mz_wrl, h]
theorem zwrl_1 (M : mz_M) (a : Nat) (f : Nat → Int64) : (mz_wrl M a f).1 = M.1 := rfl
theorem zwr_2 (M : mz_M) (a : Nat) (f : Nat → Int32) : (mz_wr M a f).2 = M.2 := rfl
theorem zL.wrl {M M1 : mz_M} {c : Nat} {f : Nat → Int64} (h : zL M M1) (hc : 77 ≤ c) : zL M (mz_wrl M1 c f) := h.tr (fun d hd => ⟨rfl, zwrl_n (by omega)⟩)
theorem zL.k {S : List Nat} {M M1 M2 : mz_M} (h : zL M M1) (hk : zK S M1 M2) (hS : ∀ c ∈ S, 77 ≤ c) : zL M M2 := h.tr (fun d hd => ⟨hk.2 d (fun q => by have := hS d q; omega), by rw [hk.1]⟩)
/-- the reference holds a state, and the class holds what it held -/
def zP (M0 : mz_M) (σ : zSg) (M : mz_M) : Prop := zL M0 M ∧ zR σ M
section ZP
variable {M0 M M' : mz_M} {σ : zSg}
theorem zP.F (h : zP M0 σ M) : zF σ.1.1 σ.1.2.1 M := ⟨h.2.1.1.1, h.2.1.2.1.1, h.2.1.2.2.1, h.2.1.2.2.2⟩
theorem zP.g (h : zP M0 σ M) : fgood σ.1.1 σ.1.2.1 := h.2.1.1.1
theorem zP.tb (h : zP M0 σ M) : ∃ g, (σ.1.1, σ.1.2.1, g) ∈ zirrs := h.2.1.1.2.1
theorem zP.c (h : zP M0 σ M) : ∃ g, fcy σ.1.1 σ.1.2.1 g := by
  obtain ⟨g, hg⟩ := h.tb
  exact ⟨g, (zirrs_ok _ hg).2⟩
theorem zP.b (h : zP M0 σ M) {s : Nat} (hs : s < 4) : zbas σ.1.2.1 (σ.1.2.2 s) := h.2.1.1.2.2 s hs
theorem zP.s (h : zP M0 σ M) {s : Nat} (hs : s < 4) : zsl σ.1.2.1 s (σ.1.2.2 s) M := fun i hi => by
  have := h.2.1.2.1.2 s hs i hi
  rw [show 0 + 1 + 8 * s + i = 1 + 8 * s + i by omega] at this
  exact this
theorem zP.k {S : List Nat} (h : zP M0 σ M) (hk : zK S M M') (hS : ∀ c ∈ S, c = 79 ∨ 84 ≤ c) : zP M0 σ M' := by
  have e : ∀ c, ¬ c = 79 → c < 84 → M'.1 c = M.1 c := fun c h1 h2 => hk.2 c (fun q => by have := hS c q; omega)
  have e77 := e 77 (by decide) (by decide)
  refine ⟨h.1.k hk (fun c hc => by have := hS c hc; omega), h.2.1.k (e 78 (by decide) (by decide)) (by rw [e77]) (by rw [e77]), h.2.2.1.k (e 80 (by decide) (by decide)) (by rw [e77]), h.2.2.2.1.k (e 81 (by decide) (by decide)) (by rw [e77]), h.2.2.2.2.1.k (e 82 (by decide) (by decide)) (by rw [e77]), h.2.2.2.2.2.k (by rw [hk.1]) (by rw [e77])⟩
theorem zP.w (h : zP M0 σ M) {k : Nat} {x : Int32} (hk : k ∉ [3, 5, 7, 9, 11, 12]) : zP M0 σ (mz_wr M 77 (upd (M.1 77) k x)) := by
  have e : ∀ j, j ∈ [3, 5, 7, 9, 11, 12] → (mz_wr M 77 (upd (M.1 77) k x)).1 77 j = M.1 77 j := fun j hj => by
    rw [zwr_s, zupd_n (fun q => hk (by rw [← q]; exact hj))]
  refine ⟨h.1.wr (by decide), h.2.1.k (zwr_n (by decide)) (e _ (by decide)) (e _ (by decide)), h.2.2.1.k (zwr_n (by decide)) (e _ (by decide)), h.2.2.2.1.k (zwr_n (by decide)) (e _ (by decide)), h.2.2.2.2.1.k (zwr_n (by decide)) (e _ (by decide)), h.2.2.2.2.2.k rfl (e _ (by decide))⟩
def zrw (σ : zSg) (r : Nat × (Nat → Int64)) : zSg := (σ.1, σ.2.1, σ.2.2.1, σ.2.2.2.1, r)
theorem zP.row0 (h : zP M0 σ M) (f : Nat → Int64) : zP M0 (zrw σ (0, f)) (mz_wr M 77 (upd (M.1 77) 9 0)) := by
  have e : ∀ j, ¬ j = 9 → (mz_wr M 77 (upd (M.1 77) 9 0)).1 77 j = M.1 77 j := fun j hj => by rw [zwr_s, zupd_n hj]
  exact ⟨h.1.wr (by decide), h.2.1.k (zwr_n (by decide)) (e _ (by decide)) (e _ (by decide)), h.2.2.1.k (zwr_n (by decide)) (e _ (by decide)), h.2.2.2.1.k (zwr_n (by decide)) (e _ (by decide)), h.2.2.2.2.1.k (zwr_n (by decide)) (e _ (by decide)), Nat.zero_le _, by rw [zwr_s, zupd_s]; rfl, fun k hk => absurd hk (Nat.not_lt_zero k)⟩
theorem s_X10_tell {n : Nat} {f : Nat → Int64} (h : zP M0 (zrw σ (n, f)) M) (hn : n < 16) {x : Int64} (hx : f n = x) : ∃ M', mq_C mq_X10_tell [.ref 77, .long x] M (none, M') ∧ zP M0 (zrw σ (n + 1, f)) M' ∧ ∀ c, ¬ c = 77 → M'.1 c = M.1 c := by
  have h9 : M.1 77 9 = nI n := h.2.2.2.2.2.2.1
  refine ⟨mz_wr (mz_wrl M 83 (vp_updL (M.2 83) (M.1 77 9).toNatClampNeg x)) 77 (upd (M.1 77) 9 (M.1 77 9 + 1)), t_X10_tell_0 _ _ ⟨by rw [h9]; exact zn_in (by omega) (by decide), fun M1 e1 M3 e3 => by rw [e3, e1]; rfl⟩, ?_, ?_⟩
  · have e : ∀ j, ¬ j = 9 → (mz_wr (mz_wrl M 83 (vp_updL (M.2 83) (M.1 77 9).toNatClampNeg x)) 77 (upd (M.1 77) 9 (M.1 77 9 + 1))).1 77 j = M.1 77 j := fun j hj => by rw [zwr_s, zupd_n hj]
    refine ⟨(h.1.wrl (by decide)).wr (by decide), h.2.1.k (zwr_n (by decide)) (e _ (by decide)) (e _ (by decide)), h.2.2.1.k (zwr_n (by decide)) (e _ (by decide)), h.2.2.2.1.k (zwr_n (by decide)) (e _ (by decide)), h.2.2.2.2.1.k (zwr_n (by decide)) (e _ (by decide)), by show n + 1 ≤ 16; omega, by rw [zwr_s, zupd_s, h9, nI_1]; rfl, fun k hk => ?_⟩
    rw [zwr_2, zwrl_s, h9, zn_cl (by omega)]
    show vp_updL (M.2 83) n x k = f k
    have hk : k < n + 1 := hk
    by_cases q : k = n
    · subst q
      rw [hx]; simp [vp_updL]
    · simp only [vp_updL, q, if_false]
      exact h.2.2.2.2.2.2.2 k (by show k < n; omega)
  · intro c hc
    rw [zwr_n hc]
    rfl
/-! deeds -/
def zph (p : Nat × (Nat → zSt)) (a : zSt) : Nat × (Nat → zSt) := if p.1 < 8 then (p.1 + 1, fun k => if k = p.1 then a else p.2 k) else (8, fun k => if k = 7 then a else p.2 (k + 1))
theorem zidx (h i : Nat) : (33 * nI h) + nI i = nI (33 * h + i) := by
  rw [show (33 : Int32) = nI 33 from rfl, pk_mul, nI_add]
theorem s_X10_does_52 {h : Nat} (hh : h ≤ 7) : ∀ (f i : Nat) (M : mz_M), i + f = 33 → M.1 77 5 = nI h → ∃ M', mq_G mq_X10_does (52, [some (.ref 77), some (.int (nI i))], [], M) (none, M') ∧ zK [77, 81] M M' ∧ (∀ k, ¬ k = 5 → M'.1 77 k = M.1 77 k) ∧ M'.1 77 5 = nI (h + 1) ∧ (∀ j, i ≤ j → j < 33 → M'.1 81 (33 * h + j) = M.1 78 j) ∧ (∀ x, x < 33 * h + i → M'.1 81 x = M.1 81 x)
  | 0, i, M, hi, h5 => by
    refine ⟨mz_wr M 77 (upd (M.1 77) 5 (M.1 77 5 + 1)), t_X10_does_52 _ _ ⟨fun _ M2 e2 => by rw [e2], fun c => absurd ?_ c⟩, zK.wr (by simp), fun k hk => by rw [zwr_s, zupd_n hk], by rw [zwr_s, zupd_s, h5, nI_1], fun j h1 h2 => absurd h1 (by omega), fun x hx => by rw [zwr_n (by decide)]⟩
    show nI 33 ≤ nI i
    rw [zn_le (by decide) (by omega)]
    omega
  | f + 1, i, M, hi, h5 => by
    have hK : zK [77, 81] M (mz_wr M 81 (upd (M.1 81) (33 * h + i) (M.1 78 i))) := zK.wr (by simp)
    obtain ⟨M', g1, g2, g3, g4, g5, g6⟩ := s_X10_does_52 hh f (i + 1) (mz_wr M 81 (upd (M.1 81) (33 * h + i) (M.1 78 i))) (by omega) (by rw [zwr_n (by decide)]; exact h5)
    refine ⟨M', t_X10_does_52 _ _ ⟨fun c => absurd c ?_, fun _ => ⟨zn_in (by omega) (by decide), by rw [h5, zidx]; exact zn_in (by omega) (by decide), fun M3 e3 => ?_⟩⟩, hK.tr g2, fun k hk => by rw [g3 k hk, zwr_n (by decide)], g4, fun j h1 h2 => ?_, fun x hx => ?_⟩
    · show ¬ nI 33 ≤ nI i
      rw [zn_le (by decide) (by omega)]
      omega
    · rw [e3, h5, zidx, zn_cl (by omega), zn_cl (by omega), nI_1]
      exact g1
    · by_cases e : j = i
      · subst e
        rw [g6 _ (by omega), zwr_s, zupd_s]
      · rw [g5 j (by omega) h2, zwr_n (by decide)]
    · rw [g6 x (by omega), zwr_s, zupd_n (by omega)]
theorem s_X10_does_12 : ∀ (f i : Nat) (M : mz_M), i + f = 264 → 33 ≤ i → ∃ M1, zK [77, 81] M M1 ∧ (∀ k, ¬ k = 5 → M1.1 77 k = M.1 77 k) ∧ M1.1 77 5 = M.1 77 5 - 1 ∧ (∀ j, i ≤ j → j < 264 → M1.1 81 (j - 33) = M.1 81 j) ∧ (∀ x, x < i - 33 → M1.1 81 x = M.1 81 x) ∧ ∀ res, mq_G mq_X10_does (52, [some (.ref 77), some (.int 0)], [], M1) res → mq_G mq_X10_does (12, [some (.ref 77), some (.int (nI i))], [], M) res
  | 0, i, M, hi, h33 => by
    refine ⟨mz_wr M 77 (upd (M.1 77) 5 (M.1 77 5 - 1)), zK.wr (by simp), fun k hk => by rw [zwr_s, zupd_n hk], by rw [zwr_s, zupd_s], fun j h1 h2 => absurd h1 (by omega), fun x hx => by rw [zwr_n (by decide)], fun res g => t_X10_does_12 _ _ ⟨fun _ M2 e2 => by rw [e2]; exact g, fun c => absurd ?_ c⟩⟩
    show nI 264 ≤ nI i
    rw [zn_le (by decide) (by omega)]
    omega
  | f + 1, i, M, hi, h33 => by
    have es : nI i - 33 = nI (i - 33) := zn_sub (b := 33) h33
    have hK : zK [77, 81] M (mz_wr M 81 (upd (M.1 81) (i - 33) (M.1 81 i))) := zK.wr (by simp)
    obtain ⟨M1, k1, k2, k3, k4, k5, k6⟩ := s_X10_does_12 f (i + 1) (mz_wr M 81 (upd (M.1 81) (i - 33) (M.1 81 i))) (by omega) (by omega)
    refine ⟨M1, hK.tr k1, fun k hk => by rw [k2 k hk, zwr_n (by decide)], by rw [k3, zwr_n (by decide)], fun j h1 h2 => ?_, fun x hx => ?_, fun res g => t_X10_does_12 _ _ ⟨fun c => absurd c ?_, fun _ => ⟨zn_in (by omega) (by decide), by rw [es]; exact zn_in (by omega) (by decide), fun M3 e3 => ?_⟩⟩⟩
    · by_cases e : j = i
      · subst e
        rw [k5 _ (by omega), zwr_s, zupd_s]
      · rw [k4 j (by omega) h2, zwr_s, zupd_n (by omega)]
    · rw [k5 x (by omega), zwr_s, zupd_n (by omega)]
    · show ¬ nI 264 ≤ nI i
      rw [zn_le (by decide) (by omega)]
      omega
    · rw [es, zn_cl (by omega), zn_cl (by omega)] at e3
      rw [nI_1, e3]
      exact k6 res g
theorem zW.mv {a : zSt} {c o c' o' : Nat} {M M' : mz_M} (h : zW a c o M) (hm : a.2.1 ≤ 8) (e : ∀ j, j < 33 → M'.1 c' (o' + j) = M.1 c (o + j)) : zW a c' o' M' := by
  refine ⟨by have := e 0 (by decide); rw [Nat.add_zero, Nat.add_zero] at this; rw [this]; exact h.1, fun s hs i hi => ?_⟩
  have h1 := e (1 + 8 * s + i) (by omega)
  have h2 := h.2 s hs i hi
  rw [show o' + 1 + 8 * s + i = o' + (1 + 8 * s + i) by omega, h1, show o + (1 + 8 * s + i) = o + 1 + 8 * s + i by omega]
  exact h2
def zdo (σ : zSg) : zSg := (σ.1, σ.2.1, zph σ.2.2.1 σ.1, σ.2.2.2.1, σ.2.2.2.2)
theorem s_X10_does (h : zP M0 σ M) : ∃ M', mq_C mq_X10_does [.ref 77] M (none, M') ∧ zP M0 (zdo σ) M' ∧ zK [77, 81] M M' := by
  have h5 := h.2.2.2.1.2.1
  have h8 := h.2.2.2.1.1
  by_cases hc : σ.2.2.1.1 = 8
  · have fin : ∀ M', mq_C mq_X10_does [.ref 77] M (none, M') → zK [77, 81] M M' → (∀ k, ¬ k = 5 → M'.1 77 k = M.1 77 k) → M'.1 77 5 = nI 8 → (∀ j, 33 ≤ j → j < 264 → M'.1 81 (j - 33) = M.1 81 j) → (∀ j, j < 33 → M'.1 81 (33 * 7 + j) = M.1 78 j) → ∃ M', mq_C mq_X10_does [.ref 77] M (none, M') ∧ zP M0 (zdo σ) M' ∧ zK [77, 81] M M' := by
      intro M' g1 g2 g3 g4 g5 g6
      refine ⟨M', g1, ⟨h.1.k g2 (by decide), h.2.1.k (g2.2 _ (by decide)) (g3 _ (by decide)) (g3 _ (by decide)), h.2.2.1.k (g2.2 _ (by decide)) (g3 _ (by decide)), ?_, h.2.2.2.2.1.k (g2.2 _ (by decide)) (g3 _ (by decide)), h.2.2.2.2.2.k (by rw [g2.1]) (g3 _ (by decide))⟩, g2⟩
      have ez : (zdo σ).2.2.1 = (8, fun k => if k = 7 then σ.1 else σ.2.2.1.2 (k + 1)) := by
        show zph _ _ = _
        unfold zph
        rw [if_neg (by omega)]
      rw [ez]
      refine ⟨Nat.le_refl 8, g4, fun k hk => ?_⟩
      have hk : k < 8 := hk
      show zok (if k = 7 then _ else _) ∧ zW (if k = 7 then _ else _) 81 (33 * k) M'
      by_cases e : k = 7
      · subst e
        rw [if_pos rfl]
        exact ⟨h.2.1.1, h.2.1.2.1.mv h.g.2.1 (fun j hj => by rw [Nat.zero_add]; exact g6 j hj)⟩
      · rw [if_neg e]
        have h9 := h.2.2.2.1.2.2 (k + 1) (by omega)
        refine ⟨h9.1, h9.2.mv h9.1.1.2.1 (fun j hj => ?_)⟩
        have := g5 (33 * (k + 1) + j) (by omega) (by omega)
        rw [show 33 * (k + 1) + j - 33 = 33 * k + j by omega] at this
        exact this
    have h5' : M.1 77 5 = nI 8 := by rw [h5, hc]
    have key : ∃ M', mq_C mq_X10_does [.ref 77] M (none, M') ∧ zK [77, 81] M M' ∧ (∀ k, ¬ k = 5 → M'.1 77 k = M.1 77 k) ∧ M'.1 77 5 = nI 8 ∧ (∀ j, 33 ≤ j → j < 264 → M'.1 81 (j - 33) = M.1 81 j) ∧ (∀ j, j < 33 → M'.1 81 (33 * 7 + j) = M.1 78 j) := by
      obtain ⟨M1, a1, a2, a3, a4, -, a5⟩ := s_X10_does_12 231 33 M rfl (Nat.le_refl _)
      rw [h5', show nI 8 - 1 = nI 7 from rfl] at a3
      obtain ⟨M', b1, b2, b3, b4, b5, b6⟩ := s_X10_does_52 (h := 7) (by decide) 33 0 M1 rfl a3
      exact ⟨M', t_X10_does_0 _ ⟨fun c => absurd h5' c, fun _ => a5 _ b1⟩, a1.tr b2, fun k hk => (b3 k hk).trans (a2 k hk), b4, fun j h1 h2 => (b6 _ (by omega)).trans (a4 j h1 h2), fun j hj => (b5 j (Nat.zero_le _) hj).trans (by rw [a1.2 78 (by decide)])⟩
    obtain ⟨M', g1, g2, g3, g4, g5, g6⟩ := key
    exact fin M' g1 g2 g3 g4 g5 g6
  · obtain ⟨M', g1, g2, g3, g4, g5, g6⟩ := s_X10_does_52 (h := σ.2.2.1.1) (by omega) 33 0 M rfl h5
    refine ⟨M', t_X10_does_0 _ ⟨fun _ => g1, fun c => absurd (fun q => hc ?_) c⟩, ⟨h.1.k g2 (by decide), h.2.1.k (g2.2 _ (by decide)) (g3 _ (by decide)) (g3 _ (by decide)), h.2.2.1.k (g2.2 _ (by decide)) (g3 _ (by decide)), ?_, h.2.2.2.2.1.k (g2.2 _ (by decide)) (g3 _ (by decide)), h.2.2.2.2.2.k (by rw [g2.1]) (g3 _ (by decide))⟩, g2⟩
    · rw [h5] at q
      exact (zn_eq (by omega) (by decide)).mp (show nI _ = nI 8 from q)
    · have ez : (zdo σ).2.2.1 = (σ.2.2.1.1 + 1, fun k => if k = σ.2.2.1.1 then σ.1 else σ.2.2.1.2 k) := by
        show zph _ _ = _
        unfold zph
        rw [if_pos (by omega)]
      rw [ez]
      refine ⟨by show _ + 1 ≤ 8; omega, g4, fun k hk => ?_⟩
      have hk : k < σ.2.2.1.1 + 1 := hk
      show zok (if k = _ then _ else _) ∧ zW (if k = _ then _ else _) 81 (33 * k) M'
      by_cases e : k = σ.2.2.1.1
      · rw [if_pos e]
        subst e
        exact ⟨h.2.1.1, h.2.1.2.1.mv h.g.2.1 (fun j hj => by rw [Nat.zero_add]; exact g5 j (Nat.zero_le _) hj)⟩
      · rw [if_neg e]
        have h9 := h.2.2.2.1.2.2 k (by omega)
        exact ⟨h9.1, h9.2.mv h9.1.1.2.1 (fun j hj => g6 _ (by omega))⟩
end ZP
