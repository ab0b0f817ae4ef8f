/-! the law's loop -/
theorem nI_ex (a : Int32) : ∃ n, n < 2 ^ 32 ∧ a = nI n := by
  refine ⟨a.toBitVec.toNat, a.toBitVec.isLt, ?_⟩
  apply Int32.toBitVec_inj.mp
  show a.toBitVec = BitVec.ofNat 32 a.toBitVec.toNat
  rw [BitVec.ofNat_toNat, BitVec.setWidth_eq]
theorem nI_63 (a : Int32) : ∃ n, n < 64 ∧ a &&& 63 = nI n := by
  obtain ⟨n, -, rfl⟩ := nI_ex a
  refine ⟨n &&& 63, Nat.lt_succ_of_le Nat.and_le_right, ?_⟩
  show nI n &&& nI 63 = _
  rw [zn_and]
theorem nI_64 : ∀ n, n < 64 → (nI n).toInt = n := by decide +kernel
theorem lq_more {i L : Nat} (hi : i < 2 ^ 20) (hL : L < 2 ^ 20) : ¬ (nI L - 4 < nI i) ↔ i + 4 ≤ L := by
  by_cases h : 4 ≤ L
  · rw [show (4 : Int32) = nI 4 from rfl, zn_sub h, zn_lt (by omega) (by omega)]
    omega
  · have h0 : ¬ nI i < 0 := nI_pos (by omega)
    refine ⟨fun q => absurd ?_ q, fun q => by omega⟩
    refine Int32.lt_of_lt_of_le (b := 0) ?_ (Int32.not_lt.mp h0)
    rcases (show L = 0 ∨ L = 1 ∨ L = 2 ∨ L = 3 by omega) with rfl | rfl | rfl | rfl <;> decide +kernel
theorem lq_vin {i L j : Nat} (h : i + j < L) (hL : L < 2 ^ 20) : vp_in (nI i + nI j) L := by
  rw [nI_add]
  exact zn_in h (by omega)
section LQL
variable {p : Program} {l : Launch} {e : Env} {s : State} {m : MethodId} {below : List Frame} {meth : Method} {c : Code} {Q : State → Prop}
variable {kc ks : Nat} {D : va_G} {tys : List (ClassId × FieldType)} {cA ad : Nat → Nat} {b L : Nat} {xs : Nat → Int32}
def lq_offs : Array Int := #[257, 282, 307, 320, 345, 382, 407, 444, 469, 506, 531, 556, 593, 630, 655, 680, 717, 754, 779, 792, 841, 854, 867, 892, 917, 930, 955, 968, 981, 1006, 1031, 1080, 1117, 1154, 1203, 1252, 1289, 1326, 1363, 1400, 1449, 1474, 1511, 1536, 1585, 1634, 1659, 1684, 1721, 1758, 1783, 1808, 1857, 1882, 1931, 1956, 1969, 1982, 1995, 2020, 2045]
theorem lq_cases {i : Int32} (X : lq_X p s m c b L xs D tys cA) (h1 : vp_in (i + 1) L) (h2 : vp_in (i + 2) L) (h3 : vp_in (i + 3) L) (hcs : kc ≤ room_1.cells ∧ ks ≤ room_1.slots) (kk : lq_H p l e s m below meth c Q D cA ad b kc ks 2139 i) (h60 : lq_H p l e s m below meth c Q D cA ad b kc ks 2084 i) : ∀ k : Nat, k < 61 → ∃ (off : Int) (tgt : Nat), lq_offs[k]? = some off ∧ (39 : Int) + off = (tgt : Int) ∧ lq_H p l e s m below meth c Q D cA ad b kc ks tgt i
  | 0, _ => ⟨257, 296, rfl, rfl, lq_c0 X h1 hcs kk⟩
  | 1, _ => ⟨282, 321, rfl, rfl, lq_c1 X h1 hcs kk⟩
  | 2, _ => ⟨307, 346, rfl, rfl, lq_c2 X hcs kk⟩
  | 3, _ => ⟨320, 359, rfl, rfl, lq_c3 X h1 hcs kk⟩
  | 4, _ => ⟨345, 384, rfl, rfl, lq_c4 X h1 h2 hcs kk⟩
  | 5, _ => ⟨382, 421, rfl, rfl, lq_c5 X h1 hcs kk⟩
  | 6, _ => ⟨407, 446, rfl, rfl, lq_c6 X h1 h2 hcs kk⟩
  | 7, _ => ⟨444, 483, rfl, rfl, lq_c7 X h1 hcs kk⟩
  | 8, _ => ⟨469, 508, rfl, rfl, lq_c8 X h1 h2 hcs kk⟩
  | 9, _ => ⟨506, 545, rfl, rfl, lq_c9 X h1 hcs kk⟩
  | 10, _ => ⟨531, 570, rfl, rfl, lq_c10 X h1 hcs kk⟩
  | 11, _ => ⟨556, 595, rfl, rfl, lq_c11 X h1 h2 hcs kk⟩
  | 12, _ => ⟨593, 632, rfl, rfl, lq_c12 X h1 h2 hcs kk⟩
  | 13, _ => ⟨630, 669, rfl, rfl, lq_c13 X h1 hcs kk⟩
  | 14, _ => ⟨655, 694, rfl, rfl, lq_c14 X h1 hcs kk⟩
  | 15, _ => ⟨680, 719, rfl, rfl, lq_c15 X h1 h2 hcs kk⟩
  | 16, _ => ⟨717, 756, rfl, rfl, lq_c16 X h1 h2 hcs kk⟩
  | 17, _ => ⟨754, 793, rfl, rfl, lq_c17 X h1 hcs kk⟩
  | 18, _ => ⟨779, 818, rfl, rfl, lq_c18 X hcs kk⟩
  | 19, _ => ⟨792, 831, rfl, rfl, lq_c19 X h1 h2 h3 hcs kk⟩
  | 20, _ => ⟨841, 880, rfl, rfl, lq_c20 X hcs kk⟩
  | 21, _ => ⟨854, 893, rfl, rfl, lq_c21 X hcs kk⟩
  | 22, _ => ⟨867, 906, rfl, rfl, lq_c22 X h1 hcs kk⟩
  | 23, _ => ⟨892, 931, rfl, rfl, lq_c23 X h1 hcs kk⟩
  | 24, _ => ⟨917, 956, rfl, rfl, lq_c24 X hcs kk⟩
  | 25, _ => ⟨930, 969, rfl, rfl, lq_c25 X h1 hcs kk⟩
  | 26, _ => ⟨955, 994, rfl, rfl, lq_c26 X hcs kk⟩
  | 27, _ => ⟨968, 1007, rfl, rfl, lq_c27 X hcs kk⟩
  | 28, _ => ⟨981, 1020, rfl, rfl, lq_c28 X h1 hcs kk⟩
  | 29, _ => ⟨1006, 1045, rfl, rfl, lq_c29 X h1 hcs kk⟩
  | 30, _ => ⟨1031, 1070, rfl, rfl, lq_c30 X h1 h2 h3 hcs kk⟩
  | 31, _ => ⟨1080, 1119, rfl, rfl, lq_c31 X h1 h2 hcs kk⟩
  | 32, _ => ⟨1117, 1156, rfl, rfl, lq_c32 X h1 h2 hcs kk⟩
  | 33, _ => ⟨1154, 1193, rfl, rfl, lq_c33 X h1 h2 h3 hcs kk⟩
  | 34, _ => ⟨1203, 1242, rfl, rfl, lq_c34 X h1 h2 h3 hcs kk⟩
  | 35, _ => ⟨1252, 1291, rfl, rfl, lq_c35 X h1 h2 hcs kk⟩
  | 36, _ => ⟨1289, 1328, rfl, rfl, lq_c36 X h1 h2 hcs kk⟩
  | 37, _ => ⟨1326, 1365, rfl, rfl, lq_c37 X h1 h2 hcs kk⟩
  | 38, _ => ⟨1363, 1402, rfl, rfl, lq_c38 X h1 h2 hcs kk⟩
  | 39, _ => ⟨1400, 1439, rfl, rfl, lq_c39 X h1 h2 h3 hcs kk⟩
  | 40, _ => ⟨1449, 1488, rfl, rfl, lq_c40 X h1 hcs kk⟩
  | 41, _ => ⟨1474, 1513, rfl, rfl, lq_c41 X h1 h2 hcs kk⟩
  | 42, _ => ⟨1511, 1550, rfl, rfl, lq_c42 X h1 hcs kk⟩
  | 43, _ => ⟨1536, 1575, rfl, rfl, lq_c43 X h1 h2 h3 hcs kk⟩
  | 44, _ => ⟨1585, 1624, rfl, rfl, lq_c44 X h1 h2 h3 hcs kk⟩
  | 45, _ => ⟨1634, 1673, rfl, rfl, lq_c45 X h1 hcs kk⟩
  | 46, _ => ⟨1659, 1698, rfl, rfl, lq_c46 X h1 hcs kk⟩
  | 47, _ => ⟨1684, 1723, rfl, rfl, lq_c47 X h1 h2 hcs kk⟩
  | 48, _ => ⟨1721, 1760, rfl, rfl, lq_c48 X h1 h2 hcs kk⟩
  | 49, _ => ⟨1758, 1797, rfl, rfl, lq_c49 X h1 hcs kk⟩
  | 50, _ => ⟨1783, 1822, rfl, rfl, lq_c50 X h1 hcs kk⟩
  | 51, _ => ⟨1808, 1847, rfl, rfl, lq_c51 X h1 h2 h3 hcs kk⟩
  | 52, _ => ⟨1857, 1896, rfl, rfl, lq_c52 X h1 hcs kk⟩
  | 53, _ => ⟨1882, 1921, rfl, rfl, lq_c53 X h1 h2 h3 hcs kk⟩
  | 54, _ => ⟨1931, 1970, rfl, rfl, lq_c54 X h1 hcs kk⟩
  | 55, _ => ⟨1956, 1995, rfl, rfl, lq_c55 X hcs kk⟩
  | 56, _ => ⟨1969, 2008, rfl, rfl, lq_c56 X hcs kk⟩
  | 57, _ => ⟨1982, 2021, rfl, rfl, lq_c57 X hcs kk⟩
  | 58, _ => ⟨1995, 2034, rfl, rfl, lq_c58 X h1 hcs kk⟩
  | 59, _ => ⟨2020, 2059, rfl, rfl, lq_c59 X h1 hcs kk⟩
  | 60, _ => ⟨2045, 2084, rfl, rfl, h60⟩
  | n + 61, h => by omega
theorem lq_head {t : Nat} (X : lq_X p s m c b L xs D tys cA) (hL : L ≤ 2048) (hcs : kc ≤ room_1.cells ∧ ks ≤ room_1.slots) (ht : 4 * t ≤ 4096)
    (kend : ∀ (H : Heap) (locs : List Loc) (ls : Array Slot), va_S (lq_A s) s.heap H locs → W p l e room_1 s m #[Value.ref b] below meth c H locs kc ks Q (F0 m 2145 ls []))
    (kk : 4 * t + 4 ≤ L → lq_H p l e s m below meth c Q D cA ad b kc ks 2139 (nI (4 * t)))
    (k60 : 4 * t + 4 ≤ L → lq_H p l e s m below meth c Q D cA ad b kc ks 2084 (nI (4 * t))) : lq_H p l e s m below meth c Q D cA ad b kc ks 23 (nI (4 * t)) := by
  intro H locs ls M σ hB hP hD hS hl
  have XX := X
  obtain ⟨hx, hb, hml, hown, hts, hX, hbl, hK, hty⟩ := X
  have hbA : ¬ lq_A s b := Nat.not_le.mpr hbl
  refine lv_iload hx hb dL_law_23 (lv_at hl 0 rfl) ?_
  refine lv_aload_n hx hb dL_law_25 rfl (lv_at hl 1 rfl) ?_
  refine va_slen hx hb hX hbl hbA hS dL_law_26 ?_
  refine lv_iconst (v := 4) hx hb dL_law_27 rfl ?_
  refine lv_isub hx hb dL_law_28 ?_
  refine lv_icmp_gt (tgt := 2145) hx hb dL_law_29 rfl (fun _ => kend H locs ls hS) (fun hgo => ?_)
  have hgo : ¬ (nI L - 4 < nI (4 * t)) := hgo
  rw [lq_more (by omega) (by omega)] at hgo
  have v0 : vp_in (nI (4 * t)) L := zn_in (by omega) (by omega)
  refine lv_aload_n hx hb dL_law_32 rfl (lv_at hl 1 rfl) ?_
  refine lv_iload hx hb dL_law_33 (lv_at hl 0 rfl) ?_
  refine va_sld hx hb hX hbl hbA hS v0 dL_law_35 ?_
  refine lv_bipush (v := 63) hx hb dL_law_36 rfl ?_
  refine lv_iand hx hb dL_law_38 ?_
  obtain ⟨n, hn, e9⟩ := nI_63 (xs (nI (4 * t)).toNatClampNeg)
  rw [e9]
  have ei := nI_64 n hn
  by_cases h61 : n < 61
  · obtain ⟨off, tgt, o1, o2, o3⟩ := lq_cases XX (lq_vin (j := 1) (by omega) (by omega)) (lq_vin (j := 2) (by omega) (by omega)) (lq_vin (j := 3) (by omega) (by omega)) hcs (kk hgo) (k60 hgo) n h61
    refine lv_tableIn (off := off) (tgt := tgt) hx hb dL_law_39 (by rw [ei]; omega) (by rw [ei]; omega) (by rw [ei]; show lq_offs[((n : Int) - 0).toNat]? = some off; rw [show ((n : Int) - 0).toNat = n by omega]; exact o1) o2 ?_
    exact o3 H locs ls M σ hB hP hD hS hl
  · refine lv_tableOut (tgt := 2139) hx hb dL_law_39 (Or.inr (by rw [ei]; omega)) rfl ?_
    exact kk hgo H locs ls M σ hB hP hD hS hl
/-- one block after another; each may make one object of six fields -/
theorem lq_loop (X : lq_X p s m c b L xs D tys cA) (hL : L ≤ 2048)
    (kend : ∀ (H : Heap) (locs : List Loc) (ls : Array Slot) (kc ks : Nat), kc ≤ 601024 → ks ≤ 7293034 → va_S (lq_A s) s.heap H locs → W p l e room_1 s m #[Value.ref b] below meth c H locs kc ks Q (F0 m 2145 ls []))
    (h60 : ∀ (i : Int32) (kc ks : Nat), vp_in (i + 1) L → kc + 1 ≤ 601024 → ks + 16 ≤ 7293034 → lq_H p l e s m below meth c Q D cA ad b (kc + 1) (ks + 16) 2139 i → lq_H p l e s m below meth c Q D cA ad b kc ks 2084 i) :
    ∀ (f t kc ks : Nat), L < 4 * t + 4 * f + 4 → 4 * t ≤ 4096 → kc + f + 1 ≤ 601024 → ks + 16 * f + 16 ≤ 7293034 → lq_H p l e s m below meth c Q D cA ad b kc ks 23 (nI (4 * t))
  | 0, t, kc, ks, hf, ht, hc, hs => lq_head X hL ⟨by show kc ≤ 601024; omega, by show ks ≤ 7293034; omega⟩ ht (fun H locs ls hS => kend H locs ls kc ks (by omega) (by omega) hS) (fun h => by omega) (fun h => by omega)
  | f + 1, t, kc, ks, hf, ht, hc, hs => by
    have ih := lq_loop X hL kend h60 f (t + 1) (kc + 1) (ks + 16) (by omega)
    have next : 4 * t + 4 ≤ L → lq_H p l e s m below meth c Q D cA ad b (kc + 1) (ks + 16) 2139 (nI (4 * t)) := fun h4 => by
      intro H locs ls M σ hB hP hD hS hl
      refine lv_iinc (v := nI (4 * (t + 1))) (k := 0) (nL := 8) (lv' := [(4, .int (nI (4 * (t + 1)))), (0, .ref b), (1, .ref (ad 0)), (2, .ref (ad 77)), (3, .ref (ad 91))]) X.1 X.2.1 dL_law_2139 hl rfl (by show nI (4 * t) + nI 4 = _; rw [nI_add]; rfl) (by decide) rfl (fun ls hl => ?_)
      exact lv_goto (tgt := 23) X.1 X.2.1 dL_law_2142 rfl (ih (by omega) (by omega) (by omega) H locs ls M σ hB hP hD hS hl)
    refine lq_head X hL ⟨by show kc ≤ 601024; omega, by show ks ≤ 7293034; omega⟩ ht (fun H locs ls hS => kend H locs ls kc ks (by omega) (by omega) hS) (fun h4 => ?_) (fun h4 => h60 _ kc ks (lq_vin (j := 1) (by omega) (by omega)) (by omega) (by omega) (next h4))
    intro H locs ls M σ hB hP hD hS hl
    exact W.widen (k := kc + 1) (n := ks + 16) (by omega) (by omega) (next h4 H locs ls M σ hB hP hD hS hl)
end LQL
