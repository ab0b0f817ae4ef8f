/-! calls of the reference: signs, bases read, deeds undone, what is counted -/
theorem yand8 (y : Int32) : (y &&& 255).toInt8.toInt32 = y.toInt8.toInt32 := by
  apply Int32.toBitVec_inj.mp
  rw [Int8.toBitVec_toInt32, Int8.toBitVec_toInt32, Int32.toBitVec_toInt8, Int32.toBitVec_toInt8, Int32.toBitVec_and]
  congr 1
  apply BitVec.eq_of_getLsbD_eq
  intro i hi
  have hm : ∀ i < 8, (255 : Int32).toBitVec.getLsbD i = true := by decide
  rw [BitVec.getLsbD_signExtend, BitVec.getLsbD_signExtend, if_pos (by omega), if_pos (by omega), BitVec.getLsbD_and, hm i hi, Bool.and_true]
/-- byte j of x -/
def yby4 (x : Int32) (j : Nat) : Nat := ((x >>> (nI (8 * j) &&& 31)) &&& 255).toBitVec.toNat
theorem yby4_lt (x : Int32) (j : Nat) : yby4 x j < 256 := by
  unfold yby4
  rw [Int32.toBitVec_and, BitVec.toNat_and]
  exact Nat.lt_of_le_of_lt Nat.and_le_right (by decide)
theorem yby4_eq (x : Int32) (j : Nat) : nI (yby4 x j) = (x >>> (nI (8 * j) &&& 31)) &&& 255 := by
  apply zn_inj
  have := yby4_lt x j
  rw [zn_tn (by omega)]
  rfl
section ZC12
variable {M0 M M' : mz_M} {σ : zSg} {t : Nat × (Nat → Nat)}
def ysf (t : Nat × (Nat → Nat)) (x : Int32) (k : Nat) : Nat := if k < t.1 then t.2 k else yby4 x (3 - (k - t.1))
theorem ysf_lt (h : ytk t) (x : Int32) (k : Nat) : ysf t x k < 256 := by
  unfold ysf
  by_cases e : k < t.1
  · rw [if_pos e]; exact h.2 k e
  · rw [if_neg e]; exact yby4_lt x _
def k_sign (σ : zSg) (x : Int32) : Int32 × zSg := if σ.2.2.2.1.1 + 4 ≤ 100 then (nI (σ.2.2.2.1.1 + 4), ztx σ (σ.2.2.2.1.1 + 4, ysf σ.2.2.2.1 x)) else (-1, σ)
theorem zP.tx {i : Nat} {F : Nat → Nat} (h : zP M0 (ztx σ (i, F)) M) (hi : i < 100) (hF : F i < 256) : zP M0 (ztx σ (i + 1, F)) (mz_wr (mz_wr M 77 (upd (M.1 77) 7 (nI (i + 1)))) 82 (upd ((mz_wr M 77 (upd (M.1 77) 7 (nI (i + 1)))).1 82) i ((nI (F i)).toInt8.toInt32))) := by
  obtain ⟨b0, b1, b2, b3, b4, b5⟩ := h
  generalize hM2 : mz_wr (mz_wr M 77 (upd (M.1 77) 7 (nI (i + 1)))) 82 (upd ((mz_wr M 77 (upd (M.1 77) 7 (nI (i + 1)))).1 82) i ((nI (F i)).toInt8.toInt32)) = M2
  have f7 : ∀ k, ¬ k = 7 → M2.1 77 k = M.1 77 k := fun k hk => by rw [← hM2, zwr_n (by decide), zwr_s, zupd_n hk]
  have fc : ∀ c, ¬ c = 77 → ¬ c = 82 → M2.1 c = M.1 c := fun c h1 h2 => by rw [← hM2, zwr_n h2, zwr_n h1]
  refine ⟨by rw [← hM2]; exact (b0.wr (by decide)).wr (by decide), b1.k (fc _ (by decide) (by decide)) (f7 _ (by decide)) (f7 _ (by decide)), b2.k (fc _ (by decide) (by decide)) (f7 _ (by decide)), b3.k (fc _ (by decide) (by decide)) (f7 _ (by decide)), ⟨by show i + 1 ≤ 100; omega, by rw [← hM2, zwr_n (by decide), zwr_s, zupd_s]; rfl, fun k hk => ?_⟩, b5.k (by rw [← hM2, zwr_2, zwr_2]) (f7 _ (by decide))⟩
  have hk : k < i + 1 := hk
  show F k < 256 ∧ M2.1 82 k = (nI (F k)).toInt8.toInt32
  rw [← hM2, zwr_s]
  by_cases e : k = i
  · rw [e, zupd_s]; exact ⟨hF, rfl⟩
  · rw [zupd_n e, zwr_n (by decide)]
    exact b4.2.2 k (show k < i by omega)
theorem c_X10_sign_20 (hk : ytk t) (ht : t.1 + 4 ≤ 100) (x : Int32) : ∀ (j : Nat) (M : mz_M), j ≤ 4 → zP M0 (ztx σ (t.1 + (4 - j), ysf t x)) M → ∃ M', mq_G mq_X10_sign (20, [some (.ref 77), some (.int x), some (.int (nI j + (-1)))], [], M) (some (.int (nI (t.1 + 4))), M') ∧ zP M0 (ztx σ (t.1 + 4, ysf t x)) M'
  | 0, M, hj, h => ⟨M, t_X10_sign_20 _ _ _ ⟨fun _ => by rw [show M.1 77 7 = nI (t.1 + 4) from h.2.2.2.2.1.2.1], fun c => absurd (by decide +kernel) c⟩, h⟩
  | j + 1, M, hj, h => by
    have h7 : M.1 77 7 = nI (t.1 + (4 - (j + 1))) := h.2.2.2.2.1.2.1
    have h2 := h.tx (by omega) (ysf_lt hk x _)
    rw [show t.1 + (4 - (j + 1)) + 1 = t.1 + (4 - j) by omega] at h2
    obtain ⟨M', k1, k2⟩ := c_X10_sign_20 hk ht x j _ (by omega) h2
    refine ⟨M', ?_, k2⟩
    rw [zn_m1]
    refine t_X10_sign_20 _ _ _ ⟨fun c => absurd c (nI_pos (by omega)), fun _ M2 e2 => ⟨by rw [h7]; exact zn_in (by omega) (by decide), fun M3 e3 => ?_⟩⟩
    have hv : (nI (ysf t x (t.1 + (4 - (j + 1))))).toInt8.toInt32 = vp_nar .byte ((x >>> ((8 * nI j) &&& 31)).toInt8.toInt32) := by
      rw [pk_vb, show (8 : Int32) * nI j = nI (8 * j) by rw [show (8 : Int32) = nI 8 from rfl, pk_mul], show ysf t x (t.1 + (4 - (j + 1))) = yby4 x j by
        unfold ysf
        rw [if_neg (by omega), show 3 - (t.1 + (4 - (j + 1)) - t.1) = j by omega], yby4_eq, yand8]
    rw [h7, nI_1, show t.1 + (4 - (j + 1)) + 1 = t.1 + (4 - j) by omega] at e2
    rw [h7, zn_cl (by omega), ← hv, e2] at e3
    rw [e3]
    exact k1
theorem c_X10_sign (h : zP M0 σ M) (x : Int32) : zA M0 mq_X10_sign [.ref 77, .int x] M (k_sign σ x) := by
  obtain ⟨M1, eM, h1, -⟩ := h.thr
  have hk := h.tk
  have h7 : M1.1 77 7 = nI σ.2.2.2.1.1 := h1.2.2.2.2.1.2.1
  have h100 := hk.1
  unfold zA k_sign
  by_cases e : σ.2.2.2.1.1 + 4 ≤ 100
  · rw [if_pos e]
    have h2 : zP M0 (ztx σ (σ.2.2.2.1.1 + (4 - 4), ysf σ.2.2.2.1 x)) M1 := by
      refine ⟨h1.1, h1.2.1, h1.2.2.1, h1.2.2.2.1, ⟨h100, h7, fun k hk2 => ?_⟩, h1.2.2.2.2.2⟩
      have hk2 : k < σ.2.2.2.1.1 := hk2
      show ysf σ.2.2.2.1 x k < 256 ∧ M1.1 82 k = (nI (ysf σ.2.2.2.1 x k)).toInt8.toInt32
      unfold ysf
      rw [if_pos hk2]
      exact h1.2.2.2.2.1.2.2 k hk2
    obtain ⟨M', k1, k2⟩ := c_X10_sign_20 hk e x 4 M1 (Nat.le_refl 4) h2
    refine ⟨M', t_X10_sign_0 _ _ (fun N n1 => ?_), k2⟩
    obtain rfl := n1.trans eM
    rw [h7, show (4 : Int32) = nI 4 from rfl, show (100 : Int32) = nI 100 from rfl, nI_add, zn_le (by omega) (by decide)]
    exact ⟨fun _ => k1, fun c => absurd e c⟩
  · rw [if_neg e]
    refine ⟨M1, t_X10_sign_0 _ _ (fun N n1 => ?_), h1⟩
    obtain rfl := n1.trans eM
    rw [h7, show (4 : Int32) = nI 4 from rfl, show (100 : Int32) = nI 100 from rfl, nI_add, zn_le (by omega) (by decide)]
    exact ⟨fun c => absurd c e, fun _ => rfl⟩
def k_end (σ : zSg) (x : Int32) : Int32 × zSg := if zbt 0 (nI σ.2.2.2.1.1) x = true then (1, ztx σ (zu x, σ.2.2.2.1.2)) else (0, σ)
theorem c_X10_end (h : zP M0 σ M) (x : Int32) : zA M0 mq_X10_end [.ref 77, .int x] M (k_end σ x) := by
  obtain ⟨M1, eM, h1, -⟩ := h.thr
  have h7 : M1.1 77 7 = nI σ.2.2.2.1.1 := h1.2.2.2.2.1.2.1
  have h100 := h.tk.1
  by_cases e : zbt 0 (nI σ.2.2.2.1.1) x = true
  · simp only [zA, k_end, e, if_true]
    obtain ⟨n, -, hn, rfl⟩ := zbtn (a := 0) (by decide) (show σ.2.2.2.1.1 < 2 ^ 31 by omega) e
    rw [zu_nI (by omega)]
    obtain ⟨b0, b1, b2, b3, b4, b5⟩ := h1
    have f7 : ∀ k, ¬ k = 7 → (mz_wr M1 77 (upd (M1.1 77) 7 (nI n))).1 77 k = M1.1 77 k := fun k hk => by rw [zwr_s, zupd_n hk]
    refine ⟨mz_wr M1 77 (upd (M1.1 77) 7 (nI n)), t_X10_end_0 _ _ (fun N n1 => ?_), b0.wr (by decide), b1.k (zwr_n (by decide)) (f7 _ (by decide)) (f7 _ (by decide)), b2.k (zwr_n (by decide)) (f7 _ (by decide)), b3.k (zwr_n (by decide)) (f7 _ (by decide)), ⟨by show n ≤ 100; omega, by rw [zwr_s, zupd_s]; rfl, fun k hk => ?_⟩, b5.k (by rw [zwr_2]) (f7 _ (by decide))⟩
    · obtain rfl := n1.trans eM
      exact ⟨1, by rw [h7]; exact zin1 _ e, fun _ M4 e4 => by rw [e4], fun c => absurd z10 c⟩
    · have hk : k < n := hk
      rw [zwr_n (by decide)]
      exact b4.2.2 k (by omega)
  · simp only [zA, k_end, e]
    refine ⟨M1, t_X10_end_0 _ _ (fun N n1 => ?_), h1⟩
    obtain rfl := n1.trans eM
    exact ⟨0, by rw [h7]; exact zin0 _ e, fun c => absurd rfl c, fun _ => rfl⟩
def k_poly (σ : zSg) (x : Int32) : Int32 × zSg := if zbt 4 511 x = true then (if zirr (zu x) = true then (nI (zu x).log2, ynew σ (zu x)) else (-2, σ)) else (-1, σ)
theorem c_X10_poly (h : zP M0 σ M) (x : Int32) : zA M0 mq_X10_poly [.ref 77, .int x] M (k_poly σ x) := by
  obtain ⟨M1, eM, h1, -⟩ := h.thr
  by_cases e : zbt 4 511 x = true
  · simp only [zA, k_poly, e, if_true]
    obtain ⟨P, p4, p5, rfl⟩ := zbtn (a := 4) (b := 511) (by decide) (by decide) e
    rw [zu_nI (by omega)]
    have hir := s_X10_isIrreducible M1 (show P < 1024 by omega)
    by_cases e2 : zirr P = true
    · rw [if_pos e2]
      rw [e2] at hir
      obtain ⟨M7, M8, a1, a2, a3, a4⟩ := s_ydeed h1 p4 (by omega) e2
      refine ⟨M8, t_X10_poly_0 _ _ (fun N n1 => ?_), a3⟩
      obtain rfl := n1.trans eM
      exact ⟨1, zin1 _ e, fun _ => ⟨1, hir, fun _ => ⟨M7, a1, M8, a2, by rw [a4]⟩, fun c => absurd z10 c⟩, fun c => absurd z10 c⟩
    · rw [if_neg e2]
      rw [show zirr P = false by simpa using e2] at hir
      refine ⟨M1, t_X10_poly_0 _ _ (fun N n1 => ?_), h1⟩
      obtain rfl := n1.trans eM
      exact ⟨1, zin1 _ e, fun _ => ⟨0, hir, fun c => absurd rfl c, fun _ => rfl⟩, fun c => absurd z10 c⟩
  · simp only [zA, k_poly, e]
    refine ⟨M1, t_X10_poly_0 _ _ (fun N n1 => ?_), h1⟩
    obtain rfl := n1.trans eM
    exact ⟨0, zin0 _ e, fun c => absurd rfl c, fun _ => rfl⟩
/-! deeds undone -/
theorem yfin {a : zSt} {K : Option zSt} {p : Nat × (Nat → zSt)} {tx : Nat × (Nat → Nat)} {r : Nat × (Nat → Int64)} (hz : zok a) (hw : zW a 78 0 M) (h0 : zL M0 M) (hK : zRk K M) (hp : zRp p M) (ht : zRt tx M) (hr : zRr r M) : ∃ M', mq_C mq_X10_lays [.ref 77] M (none, M') ∧ zP M0 (a, K, p, tx, r) M' ∧ M'.1 77 11 = nI a.2.1 ∧ M'.1 77 5 = M.1 77 5 := by
  obtain ⟨M', k1, k2, k3, k4, k5⟩ := s_X10_lays hz.1 M hw.1
  refine ⟨M', k1, ⟨h0.k k2 (by decide), ⟨hz, hw.k (k2.2 78 (by decide)), k4, k5⟩, hK.k (k2.2 80 (by decide)) (k3 3 (by decide) (by decide)), hp.k (k2.2 81 (by decide)) (k3 5 (by decide) (by decide)), ht.k (k2.2 82 (by decide)) (k3 7 (by decide) (by decide)), hr.k (by rw [k2.1]) (k3 9 (by decide) (by decide))⟩, k4, k3 5 (by decide) (by decide)⟩
theorem c_X10_undo_27 {h : Nat} (hh : h ≤ 7) : ∀ (f i : Nat) (M : mz_M), i + f = 33 → M.1 77 5 = nI h → ∃ M1, zK [78] M M1 ∧ (∀ j, i ≤ j → j < 33 → M1.1 78 j = M.1 81 (33 * h + j)) ∧ (∀ j, j < i → M1.1 78 j = M.1 78 j) ∧ ∀ res, (∃ M2 : mz_M, mq_C mq_X10_lays [.ref 77] M1 (none, M2) ∧ res = (some (.int (M2.1 77 5)), M2)) → mq_G mq_X10_undo (27, [some (.ref 77), some (.int (nI i))], [], M) res
  | 0, i, M, hi, h5 => by
    refine ⟨M, zK.rf _ _, fun j h1 h2 => absurd h1 (by omega), fun _ _ => rfl, fun res g => t_X10_undo_27 _ _ ⟨fun _ => g, fun c => absurd ?_ c⟩⟩
    rw [show (33 : Int32) = nI 33 from rfl, zn_le (by decide) (by omega)]
    omega
  | f + 1, i, M, hi, h5 => by
    have hK : zK [78] M (mz_wr M 78 (upd (M.1 78) i (M.1 81 (33 * h + i)))) := zK.wr (by simp)
    obtain ⟨M1, k1, k2, k3, k4⟩ := c_X10_undo_27 hh f (i + 1) (mz_wr M 78 (upd (M.1 78) i (M.1 81 (33 * h + i)))) (by omega) (by rw [zwr_n (by decide)]; exact h5)
    refine ⟨M1, hK.tr k1, fun j h1 h2 => ?_, fun j hj => ?_, fun res g => t_X10_undo_27 _ _ ⟨fun c => ?_, fun _ => ⟨?_, zn_in (by omega) (by decide), fun M3 e3 => ?_⟩⟩⟩
    · by_cases e : j = i
      · subst e
        rw [k3 _ (by omega), zwr_s, zupd_s]
      · rw [k2 j (by omega) h2, zwr_n (by decide)]
    · rw [k3 j (by omega), zwr_s, zupd_n (by omega)]
    · rw [show (33 : Int32) = nI 33 from rfl, zn_le (by decide) (by omega)] at c
      omega
    · rw [h5, zidx]
      exact zn_in (by omega) (by decide)
    · rw [h5, zidx, zn_cl (by omega), zn_cl (by omega)] at e3
      rw [nI_1, e3]
      exact k4 res g
def k_undo (σ : zSg) : Int32 × zSg := if σ.2.2.1.1 = 0 then (-2, σ) else (nI (σ.2.2.1.1 - 1), (σ.2.2.1.2 (σ.2.2.1.1 - 1), σ.2.1, (σ.2.2.1.1 - 1, σ.2.2.1.2), σ.2.2.2.1, σ.2.2.2.2))
theorem c_X10_undo (h : zP M0 σ M) : zA M0 mq_X10_undo [.ref 77] M (k_undo σ) := by
  obtain ⟨M1, eM, h1, -⟩ := h.thr
  have h5 : M1.1 77 5 = nI σ.2.2.1.1 := h1.2.2.2.1.2.1
  have h8 : σ.2.2.1.1 ≤ 8 := h1.2.2.2.1.1
  unfold zA k_undo
  by_cases e : σ.2.2.1.1 = 0
  · rw [if_pos e]
    refine ⟨M1, t_X10_undo_0 _ (fun N n1 => ?_), h1⟩
    obtain rfl := n1.trans eM
    exact ⟨fun c => absurd (by rw [h5, e]; rfl) c, fun _ => rfl⟩
  · rw [if_neg e]
    obtain ⟨M3, e3⟩ : ∃ y, y = mz_wr M1 77 (upd (M1.1 77) 5 (nI (σ.2.2.1.1 - 1))) := ⟨_, rfl⟩
    have f5 : ∀ k, ¬ k = 5 → M3.1 77 k = M1.1 77 k := fun k hk => by rw [e3, zwr_s, zupd_n hk]
    have fc : ∀ c, ¬ c = 77 → M3.1 c = M1.1 c := fun c hc => by rw [e3, zwr_n hc]
    have g5 : M3.1 77 5 = nI (σ.2.2.1.1 - 1) := by rw [e3, zwr_s, zupd_s]
    obtain ⟨b0, b1, b2, b3, b4, b5⟩ := h1
    obtain ⟨M4, k1, k2, k3, k4⟩ := c_X10_undo_27 (show σ.2.2.1.1 - 1 ≤ 7 by omega) 33 0 M3 rfl g5
    obtain ⟨z1, z2⟩ := b3.2.2 (σ.2.2.1.1 - 1) (by omega)
    have hw : zW (σ.2.2.1.2 (σ.2.2.1.1 - 1)) 78 0 M4 := z2.mv z1.1.2.1 (fun j hj => by rw [Nat.zero_add, k2 j (Nat.zero_le j) hj, fc 81 (by decide)])
    have hp : zRp (σ.2.2.1.1 - 1, σ.2.2.1.2) M4 := ⟨by show σ.2.2.1.1 - 1 ≤ 8; omega, by rw [k1.2 77 (by decide)]; exact g5, fun k hk => by
      have hk : k < σ.2.2.1.1 - 1 := hk
      obtain ⟨y1, y2⟩ := b3.2.2 k (by omega)
      exact ⟨y1, y2.k (by rw [k1.2 81 (by decide), fc 81 (by decide)])⟩⟩
    have c7 : M4.1 77 = M3.1 77 := k1.2 77 (by decide)
    obtain ⟨M', l1, l2, l3, l4⟩ := yfin (M0 := M0) (K := σ.2.1) (tx := σ.2.2.2.1) (r := σ.2.2.2.2) z1 hw ((by rw [e3]; exact b0.wr (by decide) : zL M0 M3).k k1 (by decide)) (b2.k (by rw [k1.2 80 (by decide), fc 80 (by decide)]) (by rw [c7]; exact f5 3 (by decide))) hp (b4.k (by rw [k1.2 82 (by decide), fc 82 (by decide)]) (by rw [c7]; exact f5 7 (by decide))) (b5.k (by rw [k1.1, e3, zwr_2]) (by rw [c7]; exact f5 9 (by decide)))
    refine ⟨M', t_X10_undo_0 _ (fun N n1 => ?_), l2⟩
    obtain rfl := n1.trans eM
    refine ⟨fun _ N3 n3 => ?_, fun c => absurd ?_ c⟩
    · rw [h5, zs1 (by omega), ← e3] at n3
      rw [n3]
      exact k4 _ ⟨M', l1, by rw [l4, c7, g5]⟩
    · rw [h5, zn_eq0 (by omega)]
      exact e
theorem c_X10_keeps_7 : ∀ (f i : Nat) (M : mz_M), i + f = 33 → ∃ M1, zK [80] M M1 ∧ (∀ j, i ≤ j → j < 33 → M1.1 80 j = M.1 78 j) ∧ (∀ j, j < i → M1.1 80 j = M.1 80 j) ∧ ∀ res, (∀ M2 : mz_M, M2 = mz_wr M1 77 (upd (M1.1 77) 3 1) → res = (some (.int (M2.1 77 11)), M2)) → mq_G mq_X10_keeps (7, [some (.ref 77), some (.int (nI i))], [], M) res
  | 0, i, M, hi => by
    refine ⟨M, zK.rf _ _, fun j h1 h2 => absurd h1 (by omega), fun _ _ => rfl, fun res g => t_X10_keeps_7 _ _ ⟨fun _ => ⟨Or.inr rfl, g⟩, fun c => absurd ?_ c⟩⟩
    rw [show (33 : Int32) = nI 33 from rfl, zn_le (by decide) (by omega)]
    omega
  | f + 1, i, M, hi => by
    have hK : zK [80] M (mz_wr M 80 (upd (M.1 80) i (M.1 78 i))) := zK.wr (by simp)
    obtain ⟨M1, k1, k2, k3, k4⟩ := c_X10_keeps_7 f (i + 1) (mz_wr M 80 (upd (M.1 80) i (M.1 78 i))) (by omega)
    refine ⟨M1, hK.tr k1, fun j h1 h2 => ?_, fun j hj => ?_, fun res g => t_X10_keeps_7 _ _ ⟨fun c => ?_, fun _ => ⟨zn_in (by omega) (by decide), zn_in (by omega) (by decide), fun M3 e3 => ?_⟩⟩⟩
    · by_cases e : j = i
      · subst e
        rw [k3 _ (by omega), zwr_s, zupd_s]
      · rw [k2 j (by omega) h2, zwr_n (by decide)]
    · rw [k3 j (by omega), zwr_s, zupd_n (by omega)]
    · rw [show (33 : Int32) = nI 33 from rfl, zn_le (by decide) (by omega)] at c
      omega
    · rw [zn_cl (by omega)] at e3
      rw [nI_1, e3]
      exact k4 res g
def k_keeps (σ : zSg) : Int32 × zSg := (nI σ.1.2.1, (σ.1, some σ.1, σ.2.2.1, σ.2.2.2.1, σ.2.2.2.2))
theorem c_X10_keeps (h : zP M0 σ M) : zA M0 mq_X10_keeps [.ref 77] M (k_keeps σ) := by
  obtain ⟨M1, eM, h1, -⟩ := h.thr
  obtain ⟨M2, k1, k2, k3, k4⟩ := c_X10_keeps_7 33 0 M1 rfl
  obtain ⟨b0, b1, b2, b3, b4, b5⟩ := h1
  obtain ⟨M3, e3⟩ : ∃ y, y = mz_wr M2 77 (upd (M2.1 77) 3 1) := ⟨_, rfl⟩
  have f3 : ∀ k, ¬ k = 3 → M3.1 77 k = M1.1 77 k := fun k hk => by rw [e3, zwr_s, zupd_n hk, k1.2 77 (by decide)]
  have fc : ∀ c, ¬ c = 77 → ¬ c = 80 → M3.1 c = M1.1 c := fun c hc h2 => by rw [e3, zwr_n hc, k1.2 c (zns (fun q => h2 q.symm))]
  have hm8 := b1.1.1.2.1
  refine ⟨M3, t_X10_keeps_0 _ (fun N n1 => ?_), by rw [e3]; exact (b0.k k1 (by decide)).wr (by decide), b1.k (fc _ (by decide) (by decide)) (f3 _ (by decide)) (f3 _ (by decide)), ⟨by rw [e3, zwr_s, zupd_s], b1.1, b1.2.1.mv hm8 (fun j hj => by rw [Nat.zero_add, e3, zwr_n (by decide), k2 j (Nat.zero_le j) hj])⟩, b3.k (fc _ (by decide) (by decide)) (f3 _ (by decide)), b4.k (fc _ (by decide) (by decide)) (f3 _ (by decide)), b5.k (by rw [e3, zwr_2, k1.1]) (f3 _ (by decide))⟩
  obtain rfl := n1.trans eM
  refine k4 _ (fun N2 n2 => ?_)
  rw [← e3] at n2
  rw [n2, f3 11 (by decide), b1.2.2.1]
  rfl
theorem c_X10_back_21 : ∀ (f i : Nat) (M : mz_M), i + f = 33 → ∃ M1, zK [78] M M1 ∧ (∀ j, i ≤ j → j < 33 → M1.1 78 j = M.1 80 j) ∧ (∀ j, j < i → M1.1 78 j = M.1 78 j) ∧ ∀ res, (∃ M2 : mz_M, mq_C mq_X10_lays [.ref 77] M1 (none, M2) ∧ res = (some (.int (M2.1 77 11)), M2)) → mq_G mq_X10_back (21, [some (.ref 77), some (.int (nI i))], [], M) res
  | 0, i, M, hi => by
    refine ⟨M, zK.rf _ _, fun j h1 h2 => absurd h1 (by omega), fun _ _ => rfl, fun res g => t_X10_back_21 _ _ ⟨fun _ => g, fun c => absurd ?_ c⟩⟩
    rw [show (33 : Int32) = nI 33 from rfl, zn_le (by decide) (by omega)]
    omega
  | f + 1, i, M, hi => by
    have hK : zK [78] M (mz_wr M 78 (upd (M.1 78) i (M.1 80 i))) := zK.wr (by simp)
    obtain ⟨M1, k1, k2, k3, k4⟩ := c_X10_back_21 f (i + 1) (mz_wr M 78 (upd (M.1 78) i (M.1 80 i))) (by omega)
    refine ⟨M1, hK.tr k1, fun j h1 h2 => ?_, fun j hj => ?_, fun res g => t_X10_back_21 _ _ ⟨fun c => ?_, fun _ => ⟨zn_in (by omega) (by decide), zn_in (by omega) (by decide), fun M3 e3 => ?_⟩⟩⟩
    · by_cases e : j = i
      · subst e
        rw [k3 _ (by omega), zwr_s, zupd_s]
      · rw [k2 j (by omega) h2, zwr_n (by decide)]
    · rw [k3 j (by omega), zwr_s, zupd_n (by omega)]
    · rw [show (33 : Int32) = nI 33 from rfl, zn_le (by decide) (by omega)] at c
      omega
    · rw [zn_cl (by omega)] at e3
      rw [nI_1, e3]
      exact k4 res g
def k_back (σ : zSg) : Int32 × zSg := match σ.2.1 with
  | none => (-2, σ)
  | some a => (nI a.2.1, (a, some a, zph σ.2.2.1 σ.1, σ.2.2.2.1, σ.2.2.2.2))
theorem c_X10_back (h : zP M0 σ M) : zA M0 mq_X10_back [.ref 77] M (k_back σ) := by
  obtain ⟨M1, eM, h1, -⟩ := h.thr
  obtain ⟨st, K, p, tx, r⟩ := σ
  have hK : zRk K M1 := h1.2.2.1
  cases K with
  | none =>
    refine ⟨M1, t_X10_back_0 _ (fun N n1 => ?_), h1⟩
    obtain rfl := n1.trans eM
    exact ⟨fun c => absurd hK c, fun _ => rfl⟩
  | some a =>
    obtain ⟨M3, a1, a2, a3⟩ := s_X10_does h1
    obtain ⟨M4, k1, k2, k3, k4⟩ := c_X10_back_21 33 0 M3 rfl
    obtain ⟨b0, b1, b2, b3, b4, b5⟩ := a2
    have b2 : zRk (some a) M3 := b2
    have hw : zW a 78 0 M4 := b2.2.2.mv b2.2.1.1.2.1 (fun j hj => by rw [Nat.zero_add, k2 j (Nat.zero_le j) hj])
    have c7 : M4.1 77 = M3.1 77 := k1.2 77 (by decide)
    obtain ⟨M', l1, l2, l3, l4⟩ := yfin (M0 := M0) (K := some a) (p := zph p st) (tx := tx) (r := r) b2.2.1 hw (b0.k k1 (by decide)) (zRk.k b2 (k1.2 80 (by decide)) (by rw [c7])) (zRp.k b3 (k1.2 81 (by decide)) (by rw [c7])) (zRt.k b4 (k1.2 82 (by decide)) (by rw [c7])) (zRr.k b5 (by rw [k1.1]) (by rw [c7]))
    refine ⟨M', t_X10_back_0 _ (fun N n1 => ?_), l2⟩
    obtain rfl := n1.trans eM
    exact ⟨fun _ => ⟨M3, a1, k4 _ ⟨M', l1, by rw [l3]; rfl⟩⟩, fun c => absurd (by rw [hK.1]; decide) c⟩
end ZC12
