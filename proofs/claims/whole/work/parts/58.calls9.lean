/-! calls of the reference: same, dual, weakly, traces, tower -/
section ZC9
variable {M0 M M' : mz_M} {σ : zSg}
/-- how many of a row's first n are a -/
def zeq1 (a b : Nat) : Nat := if a = b then 1 else 0
def zcom (v w : Nat → Nat) (m i : Nat) : Nat := zs (fun j => zeq1 (v i) (w j)) m
def zplc (v w : Nat → Nat) (i : Nat) : Nat := zeq1 (v i) (w i)
theorem zeq1_le (a b : Nat) : zeq1 a b ≤ 1 := by unfold zeq1; split <;> decide
theorem zcom_le (v w : Nat → Nat) (m i : Nat) : zcom v w m i ≤ m := by
  have := zs_le (f := fun j => zeq1 (v i) (w j)) (b := 1) (fun j => zeq1_le _ _) m
  unfold zcom; omega
theorem c_X10_same_41 {s t i : Nat} (h : zP M0 σ M) (hs : s < 4) (ht : t < 4) (hi : i < σ.1.2.1) (c p : Nat) {res : mz_O} (g : ∀ o : Option Value, mq_G mq_X10_same (29, [some (.ref 77), some (.int (nI s)), some (.int (nI t)), some (.int (nI (c + zcom (σ.1.2.2 s) (σ.1.2.2 t) σ.1.2.1 i))), some (.int (nI (p + zplc (σ.1.2.2 s) (σ.1.2.2 t) i))), some (.int (nI (i + 1))), o], [], M) res) : ∀ (f j : Nat), j + f = σ.1.2.1 → mq_G mq_X10_same (41, [some (.ref 77), some (.int (nI s)), some (.int (nI t)), some (.int (nI (c + zs (fun j => zeq1 (σ.1.2.2 s i) (σ.1.2.2 t j)) j))), some (.int (nI p)), some (.int (nI i)), some (.int (nI j))], [], M) res
  | 0, j, hj => by
    have h8 := h.g.2.1
    have hq := h.q
    obtain rfl : j = σ.1.2.1 := by omega
    have b1 := s_X10_baseAt M hs (show i < 8 by omega)
    have b2 := s_X10_baseAt M ht (show i < 8 by omega)
    rw [h.s hs i hi] at b1
    rw [h.s ht i hi] at b2
    have v1 := (h.b hs).2 i hi
    have v2 := (h.b ht).2 i hi
    refine t_X10_same_41 _ _ _ _ _ _ _ ⟨fun _ => ⟨_, b1, _, b2, ?_⟩, fun c => absurd (by rw [h.F.2.2.1]; exact Int32.le_refl _) c⟩
    rw [zn_eq (by omega) (by omega)]
    refine ⟨fun q => ?_, fun q => ?_⟩
    · have := g (some (.int (nI σ.1.2.1)))
      rw [show zplc (σ.1.2.2 s) (σ.1.2.2 t) i = 0 from if_neg q, Nat.add_zero] at this
      rw [Int32.add_zero, nI_1]
      exact this
    · have := g (some (.int (nI σ.1.2.1)))
      rw [show zplc (σ.1.2.2 s) (σ.1.2.2 t) i = 1 from if_pos (Classical.not_not.mp q)] at this
      rw [nI_1, nI_1]
      exact this
  | f + 1, j, hj => by
    have h8 := h.g.2.1
    have hq := h.q
    have b1 := s_X10_baseAt M hs (show i < 8 by omega)
    have b2 := s_X10_baseAt M ht (show j < 8 by omega)
    rw [h.s hs i hi] at b1
    rw [h.s ht j (by omega)] at b2
    have v1 := (h.b hs).2 i hi
    have v2 := (h.b ht).2 j (by omega)
    have ih := c_X10_same_41 h hs ht hi c p g f (j + 1) (by omega)
    rw [show zs (fun j => zeq1 (σ.1.2.2 s i) (σ.1.2.2 t j)) (j + 1) = zs (fun j => zeq1 (σ.1.2.2 s i) (σ.1.2.2 t j)) j + zeq1 (σ.1.2.2 s i) (σ.1.2.2 t j) from rfl] at ih
    refine t_X10_same_41 _ _ _ _ _ _ _ ⟨fun c => ?_, fun _ => ⟨_, b1, _, b2, ?_⟩⟩
    · rw [h.F.2.2.1, zn_le (by omega) (by omega)] at c
      omega
    rw [zn_eq (by omega) (by omega)]
    refine ⟨fun q => ?_, fun q => ?_⟩
    · rw [show zeq1 (σ.1.2.2 s i) (σ.1.2.2 t j) = 0 from if_neg q, Nat.add_zero] at ih
      rw [Int32.add_zero, nI_1]
      exact ih
    · rw [show zeq1 (σ.1.2.2 s i) (σ.1.2.2 t j) = 1 from if_pos (Classical.not_not.mp q), ← Nat.add_assoc] at ih
      rw [nI_1, nI_1]
      exact ih
def zsam (v w : Nat → Nat) (m : Nat) : Nat := zs (zcom v w m) m
def zsap (v w : Nat → Nat) (m : Nat) : Nat := zs (zplc v w) m
theorem c_X10_same_29 {s t : Nat} (h : zP M0 σ M) (hs : s < 4) (ht : t < 4) : ∃ M', zP M0 (zrw σ (zr2 (nI (zsam (σ.1.2.2 s) (σ.1.2.2 t) σ.1.2.1)) (nI (zsap (σ.1.2.2 s) (σ.1.2.2 t) σ.1.2.1)))) M' ∧ ∀ (f i : Nat) (o : Option Value), i + f = σ.1.2.1 → mq_G mq_X10_same (29, [some (.ref 77), some (.int (nI s)), some (.int (nI t)), some (.int (nI (zs (zcom (σ.1.2.2 s) (σ.1.2.2 t) σ.1.2.1) i))), some (.int (nI (zs (zplc (σ.1.2.2 s) (σ.1.2.2 t)) i))), some (.int (nI i)), o], [], M) (some (.int (zB (Nat.beq (zsam (σ.1.2.2 s) (σ.1.2.2 t) σ.1.2.1) σ.1.2.1))), M') := by
  have h8 := h.g.2.1
  obtain ⟨M3, M4, M5, e3, g1, g2, g3, -⟩ := s_tell2 h (nI (zsam (σ.1.2.2 s) (σ.1.2.2 t) σ.1.2.1)) (nI (zsap (σ.1.2.2 s) (σ.1.2.2 t) σ.1.2.1))
  refine ⟨M5, g3, fun f => ?_⟩
  induction f with
  | zero =>
    intro i o hi
    obtain rfl : i = σ.1.2.1 := by omega
    refine t_X10_same_29 _ _ _ _ _ _ _ ⟨fun _ M2 e2 => ?_, fun c => absurd (by rw [h.F.2.2.1]; exact Int32.le_refl _) c⟩
    obtain rfl := e2.trans e3
    have hle := zs_le (zcom_le (σ.1.2.2 s) (σ.1.2.2 t) σ.1.2.1) σ.1.2.1
    have hmm : σ.1.2.1 * σ.1.2.1 ≤ 8 * 8 := Nat.mul_le_mul h8 h8
    refine ⟨M4, g1, M5, g2, ?_⟩
    rw [show M5.1 77 11 = nI σ.1.2.1 from g3.F.2.2.1, zn_eq (by omega) (by omega)]
    refine ⟨fun q => ?_, fun q => ?_⟩
    · rw [show Nat.beq (zsam (σ.1.2.2 s) (σ.1.2.2 t) σ.1.2.1) σ.1.2.1 = false by
        cases r : Nat.beq (zsam (σ.1.2.2 s) (σ.1.2.2 t) σ.1.2.1) σ.1.2.1 with
        | false => rfl
        | true => exact absurd (Nat.eq_of_beq_eq_true r) q]
      rfl
    · rw [show Nat.beq (zsam (σ.1.2.2 s) (σ.1.2.2 t) σ.1.2.1) σ.1.2.1 = true by
        unfold zsam
        rw [Classical.not_not.mp q]
        exact Nat.beq_refl _]
      rfl
  | succ f ih =>
    intro i o hi
    refine t_X10_same_29 _ _ _ _ _ _ _ ⟨fun c => ?_, fun _ => ?_⟩
    · rw [h.F.2.2.1, zn_le (by omega) (by omega)] at c
      omega
    · exact c_X10_same_41 h hs ht (by omega) _ _ (fun o => ih (i + 1) o (by omega)) σ.1.2.1 0 (by omega)
def k_same (σ : zSg) (s t : Int32) : Int32 × zSg := if zel 4 s = true then (if zel 4 t = true then ((zB (Nat.beq (zsam (σ.1.2.2 (zu s)) (σ.1.2.2 (zu t)) σ.1.2.1) σ.1.2.1), zrw σ (zr2 (nI (zsam (σ.1.2.2 (zu s)) (σ.1.2.2 (zu t)) σ.1.2.1)) (nI (zsap (σ.1.2.2 (zu s)) (σ.1.2.2 (zu t)) σ.1.2.1))))) else (-1, σ)) else (-1, σ)
theorem c_X10_same (h : zP M0 σ M) (s t : Int32) : zA M0 mq_X10_same [.ref 77, .int s, .int t] M (k_same σ s t) := by
  obtain ⟨M1, eM, h1, -⟩ := h.thr
  have hq := h.q
  have h8 := h.g.2.1
  have h2 := h.g.1
  have hg := h.g
  by_cases g0 : zel 4 s = true
  · by_cases g1 : zel 4 t = true
    · simp only [zA, k_same, g0, g1, if_true]
      obtain ⟨s, hs, rfl⟩ := zsln g0
      obtain ⟨t, ht, rfl⟩ := zsln g1
      rw [zu_nI (by omega), zu_nI (by omega)]
      obtain ⟨M', k2, k1⟩ := c_X10_same_29 h1 hs ht
      refine ⟨M', t_X10_same_0 _ _ _ (fun M2 e2 => ?_), k2⟩
      obtain rfl := e2.trans eM
      exact ⟨1, zsl1 _ g0, fun c => absurd c z10, fun _ => ⟨1, zsl1 _ g1, fun _ => k1 σ.1.2.1 0 none (by omega), fun c => absurd z10 c⟩⟩
    · simp only [zA, k_same, g0, g1, if_true]
      refine ⟨M1, t_X10_same_0 _ _ _ (fun M2 e2 => ?_), h1⟩
      obtain rfl := e2.trans eM
      exact ⟨1, zsl1 _ g0, fun c => absurd c z10, fun _ => ⟨0, zsl0 _ g1, fun c => absurd rfl c, fun _ => rfl⟩⟩
  · simp only [zA, k_same, g0, if_true]
    refine ⟨M1, t_X10_same_0 _ _ _ (fun M2 e2 => ?_), h1⟩
    obtain rfl := e2.trans eM
    exact ⟨0, zsl0 _ g0, fun _ => rfl, fun c => absurd rfl c⟩
theorem c_X10_dual_33 {t g : Nat} {w : Nat → Nat} (hw : zbas σ.1.2.1 w) (ht : t < 4) (o1 : Option Value) : ∀ (f i : Nat) (M : mz_M), i + f = σ.1.2.1 → zP M0 (zrw σ (i, fun k => (nI (w k)).toInt64)) M → zrow M 84 i w → zrow M 89 σ.1.2.1 w → ∃ M', mq_G mq_X10_dual (33, [some (.ref 77), o1, some (.int (nI t)), some (.int (nI i))], [], M) (some (.int (nI (zs (ztb σ.1.1 σ.1.2.1 w 0) σ.1.2.1))), M') ∧ zP M0 (zhold (zrw σ (σ.1.2.1, fun k => (nI (w k)).toInt64)) t w) M'
  | 0, i, M, hi, h, hr, h9 => by
    have h8 : σ.1.2.1 ≤ 8 := h.g.2.1
    obtain rfl : i = σ.1.2.1 := by omega
    obtain ⟨M2, s1, s2, s3⟩ := s_X10_someIsBase hw h.F hr
    obtain ⟨M', k1, k2⟩ := s_X10_holds (h.k s2 (by decide)) ht s3
    refine ⟨M', t_X10_dual_33 _ _ _ _ ⟨fun _ => ⟨M2, s1, _, M', k1, rfl⟩, fun c => absurd ?_ c⟩, k2⟩
    rw [show M.1 77 11 = nI σ.1.2.1 from h.F.2.2.1]
    exact Int32.le_refl _
  | f + 1, i, M, hi, h, hr, h9 => by
    have h8 : σ.1.2.1 ≤ 8 := h.g.2.1
    have hk : zK [84] M (mz_wr M 84 (upd (M.1 84) i (nI (w i)))) := zK.wr (by simp)
    obtain ⟨M8, g1, g2, g3⟩ := s_X10_tell (h.k hk (by decide)) (by omega) (x := (nI (w i)).toInt64) rfl
    obtain ⟨M', k1, k2⟩ := c_X10_dual_33 (g := g) hw ht o1 f (i + 1) M8 (by omega) g2 (fun j hj => by rw [g3 84 (by decide)]; exact hr.put j hj) (fun j hj => by rw [g3 89 (by decide), zwr_n (by decide)]; exact h9 j hj)
    refine ⟨M', t_X10_dual_33 _ _ _ _ ⟨fun c => ?_, fun _ => ⟨zn_in (by omega) (by decide), zn_in (by omega) (by decide), fun M4 e4 => ⟨zn_in (by omega) (by decide), M8, ?_, ?_⟩⟩⟩, k2⟩
    · rw [show M.1 77 11 = nI σ.1.2.1 from h.F.2.2.1, zn_le (by omega) (by omega)] at c
      omega
    · rw [zn_cl (by omega), h9 i (by omega)] at e4
      subst e4
      rw [zn_cl (by omega), zwr_n (by decide), h9 i (by omega)]
      exact g1
    · rw [nI_1]
      exact k1
noncomputable def k_dual (σ : zSg) (s t : Int32) : Int32 × zSg := if zel 4 s = true then (if zel 4 t = true then ((nI (zs (ztb σ.1.1 σ.1.2.1 (zdl σ.1.1 σ.1.2.1 (σ.1.2.2 (zu s))) 0) σ.1.2.1), zhold (zrw σ (σ.1.2.1, fun k => (nI ((zdl σ.1.1 σ.1.2.1 (σ.1.2.2 (zu s))) k)).toInt64)) (zu t) (zdl σ.1.1 σ.1.2.1 (σ.1.2.2 (zu s))))) else (-1, σ)) else (-1, σ)
theorem c_X10_dual (h : zP M0 σ M) (s t : Int32) : zA M0 mq_X10_dual [.ref 77, .int s, .int t] M (k_dual σ s t) := by
  obtain ⟨M1, eM, h1, -⟩ := h.thr
  have hq := h.q
  have h8 := h.g.2.1
  have h2 := h.g.1
  have hg := h.g
  by_cases g0 : zel 4 s = true
  · by_cases g1 : zel 4 t = true
    · simp only [zA, k_dual, g0, g1, if_true]
      obtain ⟨s, hs, rfl⟩ := zsln g0
      obtain ⟨t, ht, rfl⟩ := zsln g1
      rw [zu_nI (by omega), zu_nI (by omega)]
      have hb := h1.b hs
      obtain ⟨g, hz⟩ := h1.tb
      obtain ⟨M6, d1, d2, d3⟩ := s_X10_takesDual hs h1.F (h1.s hs) hb.2
      have h6 := h1.k d2 (by decide)
      obtain ⟨M', k1, k2⟩ := c_X10_dual_33 (σ := σ) (M0 := M0) (g := g) (zbas_dual hz hb) ht (some (.int (nI s))) σ.1.2.1 0 _ (by omega) (h6.row0 _) (fun j hj => absurd hj (Nat.not_lt_zero j)) (fun j hj => by rw [zwr_n (by decide)]; exact d3 j hj)
      refine ⟨M', t_X10_dual_0 _ _ _ (fun M2 e2 => ?_), k2⟩
      obtain rfl := e2.trans eM
      exact ⟨1, zsl1 _ g0, fun c => absurd c z10, fun _ => ⟨1, zsl1 _ g1, fun _ => ⟨M6, d1, fun M7 e7 => by rw [e7]; exact k1⟩, fun c => absurd z10 c⟩⟩
    · simp only [zA, k_dual, g0, g1, if_true]
      refine ⟨M1, t_X10_dual_0 _ _ _ (fun M2 e2 => ?_), h1⟩
      obtain rfl := e2.trans eM
      exact ⟨1, zsl1 _ g0, fun c => absurd c z10, fun _ => ⟨0, zsl0 _ g1, fun c => absurd rfl c, fun _ => rfl⟩⟩
  · simp only [zA, k_dual, g0, if_true]
    refine ⟨M1, t_X10_dual_0 _ _ _ (fun M2 e2 => ?_), h1⟩
    obtain rfl := e2.trans eM
    exact ⟨0, zsl0 _ g0, fun _ => rfl, fun c => absurd rfl c⟩
def zwo (P m : Nat) (v w : Nat → Nat) (c j : Nat) : Option Nat := zpl m v (fm P m c (w j)) m 0
def zwa (P m : Nat) (v w : Nat → Nat) (c : Nat) : Nat → Bool
  | 0 => true
  | n + 1 => zwa P m v w c n && (zwo P m v w c n).isSome
theorem zpl_lt {m : Nat} {v : Nat → Nat} {a : Nat} : ∀ {f i x : Nat}, zpl m v a f i = some x → i ≤ x ∧ x < i + f
  | 0, i, x, h => by cases h
  | f + 1, i, x, h => by
    unfold zpl at h
    split at h
    · cases h; exact ⟨Nat.le_refl _, by omega⟩
    · obtain ⟨h1, h2⟩ := zpl_lt h
      exact ⟨by omega, by omega⟩
theorem c_X10_weakly_95 {s c : Nat} {w : Nat → Nat} (hw : ∀ i, i < σ.1.2.1 → w i < 2 ^ σ.1.2.1) (hs : s < 4) (hc : c < 2 ^ σ.1.2.1) : ∀ (f i : Nat) (M : mz_M), i + f = σ.1.2.1 → zP M0 (zrw σ (i, fun k => (zNo (zwo σ.1.1 σ.1.2.1 (σ.1.2.2 s) w c k)).toInt64)) M → zrow M 89 σ.1.2.1 w → ∃ M', (∀ o : Option Value, mq_G mq_X10_weakly (95, [some (.ref 77), some (.int (nI s)), some (.int (nI c)), o, some (.int (nI i))], [], M) (some (.int (nI c)), M')) ∧ zP M0 (zrw σ (σ.1.2.1, fun k => (zNo (zwo σ.1.1 σ.1.2.1 (σ.1.2.2 s) w c k)).toInt64)) M'
  | 0, i, M, hi, h, h9 => by
    have h8 : σ.1.2.1 ≤ 8 := h.g.2.1
    obtain rfl : i = σ.1.2.1 := by omega
    refine ⟨M, fun o => t_X10_weakly_95 _ _ _ _ _ ⟨fun _ => rfl, fun c => absurd ?_ c⟩, h⟩
    rw [show M.1 77 11 = nI σ.1.2.1 from h.F.2.2.1]
    exact Int32.le_refl _
  | f + 1, i, M, hi, h, h9 => by
    have h8 : σ.1.2.1 ≤ 8 := h.g.2.1
    have hg : fgood σ.1.1 σ.1.2.1 := h.g
    have hF : zF σ.1.1 σ.1.2.1 M := h.F
    have hb : zbas σ.1.2.1 (σ.1.2.2 s) := h.b hs
    have hsl : zsl σ.1.2.1 s (σ.1.2.2 s) M := h.s hs
    have hp := s_X10_placeOf hs hF hsl hb.2 (fm_lt hg (b := w i) hc)
    obtain ⟨M5, g1, g2, g3⟩ := s_X10_tell h (by omega) (x := (zNo (zwo σ.1.1 σ.1.2.1 (σ.1.2.2 s) w c i)).toInt64) rfl
    obtain ⟨M', k1, k2⟩ := c_X10_weakly_95 hw hs hc f (i + 1) M5 (by omega) g2 (fun j hj => by rw [g3 89 (by decide)]; exact h9 j hj)
    refine ⟨M', fun o => t_X10_weakly_95 _ _ _ _ _ ⟨fun c => ?_, fun _ => ⟨zn_in (by omega) (by decide), nI (fm σ.1.1 σ.1.2.1 c (w i)), ?_, _, hp, M5, g1, ?_⟩⟩, k2⟩
    · rw [hF.2.2.1, zn_le (by omega) (by omega)] at c
      omega
    · rw [zn_cl (by omega), h9 i (by omega)]
      exact s_X10_times M hg hF.2.1 hc (hw i (by omega))
    · rw [nI_1]
      exact k1 _
theorem c_X10_weakly_34 {s c : Nat} {w : Nat → Nat} (hw : ∀ i, i < σ.1.2.1 → w i < 2 ^ σ.1.2.1) (hs : s < 4) (hc : c < 2 ^ σ.1.2.1) (h : zP M0 σ M) (h9 : zrow M 89 σ.1.2.1 w) {res : mz_O}
    (g1 : zwa σ.1.1 σ.1.2.1 (σ.1.2.2 s) w c σ.1.2.1 = true → ∀ o : Option Value, mq_G mq_X10_weakly (95, [some (.ref 77), some (.int (nI s)), some (.int (nI c)), o, some (.int 0)], [], mz_wr M 77 (upd (M.1 77) 9 0)) res)
    (g2 : zwa σ.1.1 σ.1.2.1 (σ.1.2.2 s) w c σ.1.2.1 = false → ∀ o3 o4 : Option Value, mq_G mq_X10_weakly (21, [some (.ref 77), some (.int (nI s)), some (.int (nI (c + 1))), o3, o4], [], M) res) :
    ∀ (f i : Nat), i + f = σ.1.2.1 → mq_G mq_X10_weakly (34, [some (.ref 77), some (.int (nI s)), some (.int (nI c)), some (.int (zB (zwa σ.1.1 σ.1.2.1 (σ.1.2.2 s) w c i))), some (.int (nI i))], [], M) res
  | 0, i, hi => by
    have h8 := h.g.2.1
    obtain rfl : i = σ.1.2.1 := by omega
    refine t_X10_weakly_34 _ _ _ _ _ ⟨fun _ => ⟨fun q M3 e3 => ?_, fun q => ?_⟩, fun c => absurd (by rw [h.F.2.2.1]; exact Int32.le_refl _) c⟩
    · rw [e3]
      exact g1 (by
        cases r : zwa σ.1.1 σ.1.2.1 (σ.1.2.2 s) w c σ.1.2.1 with
        | true => rfl
        | false => rw [r] at q; exact absurd rfl q) _
    · rw [nI_1]
      exact g2 (by
        cases r : zwa σ.1.1 σ.1.2.1 (σ.1.2.2 s) w c σ.1.2.1 with
        | true => rw [r] at q; exact absurd z10 q
        | false => rfl) _ _
  | f + 1, i, hi => by
    have h8 := h.g.2.1
    have hb := h.b hs
    have ih := c_X10_weakly_34 hw hs hc h h9 g1 g2 f (i + 1) (by omega)
    rw [show zwa σ.1.1 σ.1.2.1 (σ.1.2.2 s) w c (i + 1) = (zwa σ.1.1 σ.1.2.1 (σ.1.2.2 s) w c i && (zwo σ.1.1 σ.1.2.1 (σ.1.2.2 s) w c i).isSome) from rfl] at ih
    have hp := s_X10_placeOf hs h.F (h.s hs) hb.2 (fm_lt h.g (b := w i) hc)
    refine t_X10_weakly_34 _ _ _ _ _ ⟨fun c => ?_, fun _ => ⟨fun q => ?_, fun q => ⟨zn_in (by omega) (by decide), nI (fm σ.1.1 σ.1.2.1 c (w i)), ?_, _, hp, ?_⟩⟩⟩
    · rw [h.F.2.2.1, zn_le (by omega) (by omega)] at c
      omega
    · have r : zwa σ.1.1 σ.1.2.1 (σ.1.2.2 s) w c i = false := by
        cases r : zwa σ.1.1 σ.1.2.1 (σ.1.2.2 s) w c i with
        | false => rfl
        | true => rw [r] at q; exact absurd q z10
      rw [r, Bool.false_and] at ih
      rw [nI_1]
      exact ih
    · rw [zn_cl (by omega), h9 i (by omega)]
      exact s_X10_times M h.g h.F.2.1 hc (hw i (by omega))
    · have r : zwa σ.1.1 σ.1.2.1 (σ.1.2.2 s) w c i = true := by
        cases r : zwa σ.1.1 σ.1.2.1 (σ.1.2.2 s) w c i with
        | true => rfl
        | false => rw [r] at q; exact absurd rfl q
      rw [r, Bool.true_and] at ih
      rw [zNo_m1 (fun x hx => by have := zpl_lt hx; omega), nI_1]
      refine ⟨fun e => ?_, fun e => ?_⟩
      · rw [show (zwo σ.1.1 σ.1.2.1 (σ.1.2.2 s) w c i).isSome = false by unfold zwo; rw [e]; rfl] at ih
        exact ih
      · rw [show (zwo σ.1.1 σ.1.2.1 (σ.1.2.2 s) w c i).isSome = true by
          cases r2 : zwo σ.1.1 σ.1.2.1 (σ.1.2.2 s) w c i with
          | none => exact absurd r2 e
          | some x => rfl] at ih
        exact ih
def zwk (P m : Nat) (v w : Nat → Nat) (f a : Nat) : Option Nat := zfst (fun c => zwa P m v w c m) f a
def k_weakly1 (σ : zSg) (s : Nat) (w : Nat → Nat) (f a : Nat) : Int32 × zSg := match zwk σ.1.1 σ.1.2.1 (σ.1.2.2 s) w f a with
  | none => (-2, σ)
  | some c => (nI c, zrw σ (σ.1.2.1, fun k => (zNo (zwo σ.1.1 σ.1.2.1 (σ.1.2.2 s) w c k)).toInt64))
theorem c_X10_weakly_21 {s : Nat} {w : Nat → Nat} (hw : ∀ i, i < σ.1.2.1 → w i < 2 ^ σ.1.2.1) (hs : s < 4) (h : zP M0 σ M) (h9 : zrow M 89 σ.1.2.1 w) : ∀ (f a : Nat), a + f = 2 ^ σ.1.2.1 → ∃ M', (∀ o3 o4 : Option Value, mq_G mq_X10_weakly (21, [some (.ref 77), some (.int (nI s)), some (.int (nI a)), o3, o4], [], M) (some (.int (k_weakly1 σ s w f a).1), M')) ∧ zP M0 (k_weakly1 σ s w f a).2 M'
  | 0, a, ha => by
    have hq := h.q
    refine ⟨M, fun o3 o4 => t_X10_weakly_21 _ _ _ _ _ ⟨fun _ => rfl, fun c => absurd ?_ c⟩, h⟩
    rw [h.F.2.2.2, zn_le (by omega) (by omega)]
    omega
  | f + 1, a, ha => by
    have hq := h.q
    have hge : ¬ (M.1 77 12 ≤ nI a) := by
      rw [h.F.2.2.2, zn_le (by omega) (by omega)]
      omega
    by_cases e : zwa σ.1.1 σ.1.2.1 (σ.1.2.2 s) w a σ.1.2.1 = true
    · have ek : k_weakly1 σ s w (f + 1) a = (nI a, zrw σ (σ.1.2.1, fun k => (zNo (zwo σ.1.1 σ.1.2.1 (σ.1.2.2 s) w a k)).toInt64)) := by
        unfold k_weakly1 zwk
        rw [zfst_t (p := fun c => zwa σ.1.1 σ.1.2.1 (σ.1.2.2 s) w c σ.1.2.1) e]
      rw [ek]
      have hh := h.row0 (fun k => (zNo (zwo σ.1.1 σ.1.2.1 (σ.1.2.2 s) w a k)).toInt64)
      have h99 : zrow (mz_wr M 77 (upd (M.1 77) 9 0)) 89 σ.1.2.1 w := fun j hj => by rw [zwr_n (by decide)]; exact h9 j hj
      obtain ⟨M', k1, k2⟩ := c_X10_weakly_95 (σ := σ) (M0 := M0) hw hs (show a < 2 ^ σ.1.2.1 by omega) σ.1.2.1 0 _ (by omega) hh h99
      exact ⟨M', fun o3 o4 => t_X10_weakly_21 _ _ _ _ _ ⟨fun c => absurd c hge, fun _ => c_X10_weakly_34 hw hs (by omega) h h9 (fun _ o => k1 o) (fun q => by rw [e] at q; cases q) σ.1.2.1 0 (by omega)⟩, k2⟩
    · have ek : k_weakly1 σ s w (f + 1) a = k_weakly1 σ s w f (a + 1) := by
        unfold k_weakly1 zwk
        rw [zfst_f (p := fun c => zwa σ.1.1 σ.1.2.1 (σ.1.2.2 s) w c σ.1.2.1) e]
      rw [ek]
      obtain ⟨M', k1, k2⟩ := c_X10_weakly_21 hw hs h h9 f (a + 1) (by omega)
      exact ⟨M', fun o3 o4 => t_X10_weakly_21 _ _ _ _ _ ⟨fun c => absurd c hge, fun _ => c_X10_weakly_34 hw hs (by omega) h h9 (fun q => absurd q e) (fun _ o3 o4 => k1 o3 o4) σ.1.2.1 0 (by omega)⟩, k2⟩
def k_weakly (σ : zSg) (s : Int32) : Int32 × zSg := if zel 4 s = true then (k_weakly1 σ (zu s) (zdl σ.1.1 σ.1.2.1 (σ.1.2.2 (zu s))) (2 ^ σ.1.2.1 - 1) 1) else (-1, σ)
theorem c_X10_weakly (h : zP M0 σ M) (s : Int32) : zA M0 mq_X10_weakly [.ref 77, .int s] M (k_weakly σ s) := by
  obtain ⟨M1, eM, h1, -⟩ := h.thr
  have hq := h.q
  have h8 := h.g.2.1
  have h2 := h.g.1
  have hg := h.g
  by_cases g0 : zel 4 s = true
  · simp only [zA, k_weakly, g0, if_true]
    obtain ⟨s, hs, rfl⟩ := zsln g0
    rw [zu_nI (by omega)]
    have hb := h1.b hs
    obtain ⟨g, hz⟩ := h1.tb
    obtain ⟨M6, d1, d2, d3⟩ := s_X10_takesDual hs h1.F (h1.s hs) hb.2
    have h6 := h1.k d2 (by decide)
    have hq1 := f1_lt hg
    obtain ⟨M', k1, k2⟩ := c_X10_weakly_21 (zbas_dual hz hb).2 hs h6 d3 (2 ^ σ.1.2.1 - 1) 1 (by omega)
    refine ⟨M', t_X10_weakly_0 _ _ (fun M2 e2 => ?_), k2⟩
    obtain rfl := e2.trans eM
    exact ⟨1, zsl1 _ g0, fun _ => ⟨M6, d1, k1 none none⟩, fun c => absurd z10 c⟩
  · simp only [zA, k_weakly, g0, if_true]
    refine ⟨M1, t_X10_weakly_0 _ _ (fun M2 e2 => ?_), h1⟩
    obtain rfl := e2.trans eM
    exact ⟨0, zsl0 _ g0, fun c => absurd rfl c, fun _ => rfl⟩
def ztm (P m : Nat) (v : Nat → Nat) (i : Nat) : Nat → Nat
  | 0 => 0
  | n + 1 => ztm P m v i n ||| zT P m (fm P m (v i) (v n)) * 2 ^ n
def zow (P m : Nat) (v : Nat → Nat) : Nat → Bool
  | 0 => true
  | n + 1 => zow P m v n && Nat.beq (ztm P m v n m) (2 ^ n)
theorem ztm_lt {P m g : Nat} (hz : (P, m, g) ∈ zirrs) {v : Nat → Nat} (hv : ∀ i, i < m → v i < 2 ^ m) {i : Nat} (hi : i < m) : ∀ n, n ≤ m → ztm P m v i n < 2 ^ n
  | 0, _ => Nat.zero_lt_one
  | n + 1, hn => by
    obtain ⟨hg, hc⟩ := zirrs_ok _ hz
    have h1 := ztm_lt hz hv hi n (by omega)
    have h2 : zT P m (fm P m (v i) (v n)) ≤ 1 := by
      rcases zT_01 hg hc (fm_lt hg (b := v n) (hv i hi)) with h | h <;> rw [h] <;> decide
    have h3 : zT P m (fm P m (v i) (v n)) * 2 ^ n ≤ 1 * 2 ^ n := Nat.mul_le_mul_right _ h2
    refine Nat.or_lt_two_pow (Nat.lt_of_lt_of_le h1 (Nat.pow_le_pow_right (by decide) (by omega))) ?_
    rw [Nat.pow_succ]
    have := Nat.two_pow_pos n
    omega
theorem c_X10_traces_37 {s i g : Nat} (h : zP M0 σ M) (hz : (σ.1.1, σ.1.2.1, g) ∈ zirrs) (hs : s < 4) (hi : i < σ.1.2.1) (b : Bool) {res : mz_O} (g : mq_G mq_X10_traces (37, [some (.ref 77), some (.int (nI s)), some (.int (zB b)), some (.int (nI i)), some (.int (nI (ztm σ.1.1 σ.1.2.1 (σ.1.2.2 s) i σ.1.2.1))), some (.int (nI σ.1.2.1))], [], M) res) : ∀ (f j : Nat), j + f = σ.1.2.1 → mq_G mq_X10_traces (37, [some (.ref 77), some (.int (nI s)), some (.int (zB b)), some (.int (nI i)), some (.int (nI (ztm σ.1.1 σ.1.2.1 (σ.1.2.2 s) i j))), some (.int (nI j))], [], M) res
  | 0, j, hj => by
    obtain rfl : j = σ.1.2.1 := by omega
    exact g
  | f + 1, j, hj => by
    have h8 := h.g.2.1
    obtain ⟨hg, hc⟩ := zirrs_ok _ hz
    have hb := h.b hs
    have b1 := s_X10_baseAt M hs (show i < 8 by omega)
    have b2 := s_X10_baseAt M hs (show j < 8 by omega)
    rw [h.s hs i hi] at b1
    rw [h.s hs j (by omega)] at b2
    have hl := fm_lt hg (b := σ.1.2.2 s j) (hb.2 i hi)
    have ih := c_X10_traces_37 h hz hs hi b g f (j + 1) (by omega)
    have ht : zT σ.1.1 σ.1.2.1 (fm σ.1.1 σ.1.2.1 (σ.1.2.2 s i) (σ.1.2.2 s j)) ≤ 1 := by
      rcases zT_01 hg hc hl with h | h <;> rw [h] <;> decide
    have hp : zT σ.1.1 σ.1.2.1 (fm σ.1.1 σ.1.2.1 (σ.1.2.2 s i) (σ.1.2.2 s j)) * 2 ^ j ≤ 1 * 2 ^ j := Nat.mul_le_mul_right _ ht
    have hj8 : 2 ^ j ≤ 2 ^ 8 := Nat.pow_le_pow_right (by decide) (by omega)
    refine t_X10_traces_37 _ _ _ _ _ _ ⟨fun c => ?_, fun _ => ⟨_, b1, _, b2, _, s_X10_times M hg h.F.2.1 (hb.2 i hi) (hb.2 j (by omega)), nI (zT σ.1.1 σ.1.2.1 (fm σ.1.1 σ.1.2.1 (σ.1.2.2 s i) (σ.1.2.2 s j))), s_X10_traceTo h.F hl (d := 1) (by decide) (by decide), ?_⟩⟩
    · rw [h.F.2.2.1, zn_le (by omega) (by omega)] at c
      omega
    · rw [zn_shl (by omega) (by omega), zn_or, nI_1]
      exact ih
def ztf (P m : Nat) (v : Nat → Nat) (i : Nat) : Int64 := (nI (ztm P m v i m)).toInt64
theorem c_X10_traces_23 {s g : Nat} (hz : (σ.1.1, σ.1.2.1, g) ∈ zirrs) (hs : s < 4) : ∀ (f i : Nat) (M : mz_M), i + f = σ.1.2.1 → zP M0 (zrw σ (i, ztf σ.1.1 σ.1.2.1 (σ.1.2.2 s))) M → ∃ M', (∀ o4 o5 : Option Value, mq_G mq_X10_traces (23, [some (.ref 77), some (.int (nI s)), some (.int (zB (zow σ.1.1 σ.1.2.1 (σ.1.2.2 s) i))), some (.int (nI i)), o4, o5], [], M) (some (.int (zB (zow σ.1.1 σ.1.2.1 (σ.1.2.2 s) σ.1.2.1))), M')) ∧ zP M0 (zrw σ (σ.1.2.1, ztf σ.1.1 σ.1.2.1 (σ.1.2.2 s))) M'
  | 0, i, M, hi, h => by
    have h8 : σ.1.2.1 ≤ 8 := h.g.2.1
    obtain rfl : i = σ.1.2.1 := by omega
    refine ⟨M, fun o4 o5 => t_X10_traces_23 _ _ _ _ _ _ ⟨fun _ => ⟨fun q => by rw [q], fun q => by rw [(zB_01 _).resolve_left q]⟩, fun c => absurd ?_ c⟩, h⟩
    rw [show M.1 77 11 = nI σ.1.2.1 from h.F.2.2.1]
    exact Int32.le_refl _
  | f + 1, i, M, hi, h => by
    have h8 : σ.1.2.1 ≤ 8 := h.g.2.1
    have hm11 : M.1 77 11 = nI σ.1.2.1 := h.F.2.2.1
    obtain ⟨hg, hc⟩ := zirrs_ok _ hz
    have hb : zbas σ.1.2.1 (σ.1.2.2 s) := h.b hs
    have hlt := ztm_lt hz hb.2 (show i < σ.1.2.1 by omega) σ.1.2.1 (Nat.le_refl _)
    have hq := zq256 h8
    obtain ⟨M3, g1, g2, -⟩ := s_X10_tell h (by omega) (x := ztf σ.1.1 σ.1.2.1 (σ.1.2.2 s) i) rfl
    obtain ⟨M', k1, k2⟩ := c_X10_traces_23 hz hs f (i + 1) M3 (by omega) g2
    rw [show zow σ.1.1 σ.1.2.1 (σ.1.2.2 s) (i + 1) = (zow σ.1.1 σ.1.2.1 (σ.1.2.2 s) i && Nat.beq (ztm σ.1.1 σ.1.2.1 (σ.1.2.2 s) i σ.1.2.1) (2 ^ i)) from rfl] at k1
    have hj8 : 2 ^ i ≤ 2 ^ 8 := Nat.pow_le_pow_right (by decide) (by omega)
    refine ⟨M', fun o4 o5 => t_X10_traces_23 _ _ _ _ _ _ ⟨fun c => ?_, fun _ => c_X10_traces_37 (σ := zrw σ (i, ztf σ.1.1 σ.1.2.1 (σ.1.2.2 s))) h hz hs (show i < σ.1.2.1 by omega) _ (t_X10_traces_37 _ _ _ _ _ _ ⟨fun _ => ⟨fun q => ⟨M3, g1, ?_⟩, fun q => ⟨fun q2 => ⟨M3, g1, ?_⟩, fun q2 => ⟨M3, g1, ?_⟩⟩⟩, fun c => absurd (by rw [hm11]; exact Int32.le_refl _) c⟩) σ.1.2.1 0 (Nat.zero_add _)⟩, k2⟩
    · rw [hm11, zn_le (by omega) (by omega)] at c
      omega
    · have r : zow σ.1.1 σ.1.2.1 (σ.1.2.2 s) i = false := by
        cases r : zow σ.1.1 σ.1.2.1 (σ.1.2.2 s) i with
        | false => rfl
        | true => rw [show zow σ.1.1 σ.1.2.1 (σ.1.2.2 s) i = true from r] at q; exact absurd q z10
      rw [r, Bool.false_and] at k1
      rw [nI_1]
      exact k1 _ _
    · have q2 : ¬ nI (ztm σ.1.1 σ.1.2.1 (σ.1.2.2 s) i σ.1.2.1) = (1 : Int32) <<< (nI i &&& 31) := q2
      rw [zone_shl (by omega), zn_eq (by omega) (by omega)] at q2
      rw [show Nat.beq (ztm σ.1.1 σ.1.2.1 (σ.1.2.2 s) i σ.1.2.1) (2 ^ i) = false by
        cases r : Nat.beq (ztm σ.1.1 σ.1.2.1 (σ.1.2.2 s) i σ.1.2.1) (2 ^ i) with
        | false => rfl
        | true => exact absurd (Nat.eq_of_beq_eq_true r) q2, Bool.and_false] at k1
      rw [nI_1]
      exact k1 _ _
    · have q2 : ¬ ¬ nI (ztm σ.1.1 σ.1.2.1 (σ.1.2.2 s) i σ.1.2.1) = (1 : Int32) <<< (nI i &&& 31) := q2
      rw [zone_shl (by omega), zn_eq (by omega) (by omega)] at q2
      have r : zow σ.1.1 σ.1.2.1 (σ.1.2.2 s) i = true := by
        cases r : zow σ.1.1 σ.1.2.1 (σ.1.2.2 s) i with
        | true => rfl
        | false => rw [show zow σ.1.1 σ.1.2.1 (σ.1.2.2 s) i = false from r] at q; exact absurd rfl q
      rw [r, Classical.not_not.mp q2, Bool.true_and, show Nat.beq (2 ^ i) (2 ^ i) = true from Nat.beq_refl _] at k1
      rw [nI_1]
      exact k1 _ _
def k_traces (σ : zSg) (s : Int32) : Int32 × zSg := if zel 4 s = true then ((zB (zow σ.1.1 σ.1.2.1 (σ.1.2.2 (zu s)) σ.1.2.1), zrw σ (σ.1.2.1, ztf σ.1.1 σ.1.2.1 (σ.1.2.2 (zu s))))) else (-1, σ)
theorem c_X10_traces (h : zP M0 σ M) (s : Int32) : zA M0 mq_X10_traces [.ref 77, .int s] M (k_traces σ s) := by
  obtain ⟨M1, eM, h1, -⟩ := h.thr
  have hq := h.q
  have h8 := h.g.2.1
  have h2 := h.g.1
  have hg := h.g
  by_cases g0 : zel 4 s = true
  · simp only [zA, k_traces, g0, if_true]
    obtain ⟨s, hs, rfl⟩ := zsln g0
    rw [zu_nI (by omega)]
    obtain ⟨g, hz⟩ := h1.tb
    obtain ⟨M', k1, k2⟩ := c_X10_traces_23 (σ := σ) (M0 := M0) hz hs σ.1.2.1 0 _ (by omega) (h1.row0 _)
    refine ⟨M', t_X10_traces_0 _ _ (fun M2 e2 => ?_), k2⟩
    obtain rfl := e2.trans eM
    exact ⟨1, zsl1 _ g0, fun _ => fun M4 e4 => by rw [e4]; exact k1 none none, fun c => absurd z10 c⟩
  · simp only [zA, k_traces, g0, if_true]
    refine ⟨M1, t_X10_traces_0 _ _ (fun M2 e2 => ?_), h1⟩
    obtain rfl := e2.trans eM
    exact ⟨0, zsl0 _ g0, fun c => absurd rfl c, fun _ => rfl⟩
noncomputable def zto (P m a d n : Nat) : Nat := fm P m ((zsub P m d).getD (n % d) 0) (fpw P m a (n / d))
theorem zto_lt {P m a d n : Nat} (h : fgood P m) (hd : 0 < d) (hs : (zsub P m d).length = d) : zto P m a d n < 2 ^ m := fm_lt h ((zsub_ok P m d).1.2 _ (by rw [hs]; exact Nat.mod_lt _ hd))
theorem c_X10_tower_55 {P m a d s : Nat} (ha : a < 2 ^ m) (hd : 0 < d) (hdm : d ≤ m) (hs : (zsub P m d).length = d) (k : Nat) (hk : k * d + d ≤ m) : ∀ (f i : Nat) (M : mz_M), i + f = d → zF P m M → zrow M 86 d (fun i => (zsub P m d).getD i 0) → zrow M 84 (k * d + i) (zto P m a d) →
    ∃ (M' : mz_M), zK [84] M M' ∧ zrow M' 84 (k * d + d) (zto P m a d) ∧ ∀ res, (∀ o : Option Value, mq_G mq_X10_tower (41, [some (.ref 77), some (.int (nI s)), some (.int (nI d)), some (.int (nI a)), some (.int (nI (k * d + d))), some (.int (nI (k + 1))), o], [], M') res) → mq_G mq_X10_tower (55, [some (.ref 77), some (.int (nI s)), some (.int (nI d)), some (.int (nI a)), some (.int (nI (k * d + i))), some (.int (nI k)), some (.int (nI i))], [], M) res
  | 0, i, M, hi, hF, h6, h4 => by
    obtain rfl : i = d := by omega
    have h8 := hF.1.2.1
    refine ⟨M, zK.rf _ _, h4, fun res g => t_X10_tower_55 _ _ _ _ _ _ _ ⟨fun _ => ?_, fun c => absurd ((zn_le (by omega) (by omega)).mpr (Nat.le_refl i)) c⟩⟩
    rw [nI_1]; exact g _
  | f + 1, i, M, hi, hF, h6, h4 => by
    have h8 := hF.1.2.1
    have e1 : (k * d + i) % d = i := by rw [Nat.add_comm, Nat.add_mul_mod_self_right, Nat.mod_eq_of_lt (by omega)]
    have e3 : (k * d + i) / d = k := by rw [Nat.add_comm, Nat.add_mul_div_right _ _ hd, Nat.div_eq_of_lt (by omega), Nat.zero_add]
    have e2 : zto P m a d (k * d + i) = fm P m ((zsub P m d).getD i 0) (fpw P m a k) := by
      unfold zto
      rw [e1, e3]
    have hkk : k ≤ k * d := Nat.le_mul_of_pos_right k hd
    have hK : zK [84] M (mz_wr M 84 (upd (M.1 84) (k * d + i) (nI (zto P m a d (k * d + i))))) := zK.wr (by simp)
    obtain ⟨M', g1, g2, g3⟩ := c_X10_tower_55 (s := s) ha hd hdm hs k hk f (i + 1) _ (by omega) (hF.k hK (by decide) (by decide)) (h6.k hK (by decide)) h4.put
    refine ⟨M', hK.tr g1, g2, fun res g => t_X10_tower_55 _ _ _ _ _ _ _ ⟨fun c => ?_, fun _ => ⟨zn_in (by omega) (by decide), _, s_X10_powered hF ha (by omega), nI (zto P m a d (k * d + i)), ?_, zn_in (by omega) (by decide), fun M5 e5 => ?_⟩⟩⟩
    · rw [zn_le (by omega) (by omega)] at c
      omega
    · rw [zn_cl (by omega), h6 i (by omega), e2]
      exact s_X10_times M hF.1 hF.2.1 ((zsub_ok P m d).1.2 _ (by omega)) (fpw_lt hF.1 ha k)
    · rw [e5, zn_cl (by omega), nI_1, nI_1]
      exact g3 res g
noncomputable def ztok (P m a d : Nat) : Bool := @decide (ind (zto P m a d) m) (Classical.propDecidable _)
theorem ztok_iff {P m a d : Nat} : ztok P m a d = true ↔ ind (zto P m a d) m := by
  unfold ztok
  exact @decide_eq_true_iff _ (Classical.propDecidable _)
noncomputable def k_tower1 (σ : zSg) (s d a : Nat) : Int32 × zSg := if ztok σ.1.1 σ.1.2.1 a d = true then (nI (zs (ztb σ.1.1 σ.1.2.1 (zto σ.1.1 σ.1.2.1 a d) 0) σ.1.2.1), zhold σ s (zto σ.1.1 σ.1.2.1 a d)) else (-2, σ)
theorem c_X10_tower_41 {a d s : Nat} (ha : a < 2 ^ σ.1.2.1) (hd : 0 < d) (hdm : d ≤ σ.1.2.1) (hmd : σ.1.2.1 % d = 0) (hs : s < 4) (hsl : (zsub σ.1.1 σ.1.2.1 d).length = d) : ∀ (f k : Nat) (M : mz_M), k + f = σ.1.2.1 / d → zP M0 σ M → zrow M 86 d (fun i => (zsub σ.1.1 σ.1.2.1 d).getD i 0) → zrow M 84 (k * d) (zto σ.1.1 σ.1.2.1 a d) →
    ∃ M', (∀ o : Option Value, mq_G mq_X10_tower (41, [some (.ref 77), some (.int (nI s)), some (.int (nI d)), some (.int (nI a)), some (.int (nI (k * d))), some (.int (nI k)), o], [], M) (some (.int (k_tower1 σ s d a).1), M')) ∧ zP M0 (k_tower1 σ s d a).2 M'
  | 0, k, M, hk, h, h6, h4 => by
    obtain rfl : k = σ.1.2.1 / d := by omega
    have h8 := h.g.2.1
    have hdiv : σ.1.2.1 / d * d = σ.1.2.1 := Nat.div_mul_cancel (Nat.dvd_of_mod_eq_zero hmd)
    rw [hdiv] at h4 ⊢
    have hle : σ.1.2.1 / d ≤ σ.1.2.1 := Nat.div_le_self _ _
    have hdd : M.1 77 11 / nI d = nI (σ.1.2.1 / d) := by rw [h.F.2.2.1, pk_div (by omega) hd (by omega)]
    have hd0 : ¬ nI d = 0 := fun q => by rw [zn_eq0 (by omega)] at q; omega
    obtain ⟨M2, r1, r2⟩ := s_X10_rank h8 M (v := zto σ.1.1 σ.1.2.1 a d) (fun j hj => ⟨h4 j hj, z256 h8 (zto_lt h.g hd hsl)⟩)
    have h2 := h.k r2 (by decide)
    have hr := rk_le (zto σ.1.1 σ.1.2.1 a d) σ.1.2.1
    unfold k_tower1
    by_cases e : ztok σ.1.1 σ.1.2.1 a d = true
    · rw [if_pos e]
      have hi := ztok_iff.mp e
      obtain ⟨M5, s1, s2, s3⟩ := s_X10_someIsBase (v := zto σ.1.1 σ.1.2.1 a d) ⟨hi, fun i _ => zto_lt h.g hd hsl⟩ h2.F (h4.k r2 (by decide))
      obtain ⟨M', k1, k2⟩ := s_X10_holds (h2.k s2 (by decide)) hs s3
      refine ⟨M', fun o => t_X10_tower_41 _ _ _ _ _ _ _ ⟨hd0, fun _ => ⟨_, M2, by rw [h.F.2.2.1]; exact r1, fun _ => ⟨M5, s1, _, M', k1, rfl⟩, fun c => absurd ?_ c⟩, fun c => absurd (by rw [hdd]; exact Int32.le_refl _) c⟩, k2⟩
      rw [h2.F.2.2.1, rk_ind.mpr hi]
      exact Int32.le_refl _
    · rw [if_neg e]
      have hi : ¬ ind (zto σ.1.1 σ.1.2.1 a d) σ.1.2.1 := fun q => e (ztok_iff.mpr q)
      have hne : rk (zto σ.1.1 σ.1.2.1 a d) σ.1.2.1 ≠ σ.1.2.1 := fun q => hi (rk_ind.mp q)
      refine ⟨M2, fun o => t_X10_tower_41 _ _ _ _ _ _ _ ⟨hd0, fun _ => ⟨_, M2, by rw [h.F.2.2.1]; exact r1, fun c => ?_, fun _ => rfl⟩, fun c => absurd (by rw [hdd]; exact Int32.le_refl _) c⟩, h2⟩
      rw [h2.F.2.2.1, zn_le (by omega) (by omega)] at c
      omega
  | f + 1, k, M, hk, h, h6, h4 => by
    have h8 := h.g.2.1
    have hdiv : σ.1.2.1 / d * d = σ.1.2.1 := Nat.div_mul_cancel (Nat.dvd_of_mod_eq_zero hmd)
    have hle : σ.1.2.1 / d ≤ σ.1.2.1 := Nat.div_le_self _ _
    have hdd : M.1 77 11 / nI d = nI (σ.1.2.1 / d) := by rw [h.F.2.2.1, pk_div (by omega) hd (by omega)]
    have hd0 : ¬ nI d = 0 := fun q => by rw [zn_eq0 (by omega)] at q; omega
    have hkd : k * d + d ≤ σ.1.2.1 := by
      have : (k + 1) * d ≤ σ.1.2.1 / d * d := Nat.mul_le_mul_right d (by omega)
      rw [hdiv, Nat.succ_mul] at this
      exact this
    obtain ⟨M1, g1, g2, g3⟩ := c_X10_tower_55 (s := s) ha hd hdm hsl k hkd d 0 M (by omega) h.F h6 h4
    have h1 := h.k g1 (by decide)
    obtain ⟨M', k1, k2⟩ := c_X10_tower_41 ha hd hdm hmd hs hsl f (k + 1) M1 (by omega) h1 (h6.k g1 (by decide)) (by rw [Nat.succ_mul]; exact g2)
    rw [Nat.succ_mul] at k1
    refine ⟨M', fun o => t_X10_tower_41 _ _ _ _ _ _ _ ⟨hd0, fun c => ?_, fun _ => g3 _ k1⟩, k2⟩
    rw [hdd, zn_le (by omega) (by omega)] at c
    omega
noncomputable def k_tower (σ : zSg) (s x y : Int32) : Int32 × zSg := if zel 4 s = true then (if zpt σ.1.2.1 x = true then (if zel (2 ^ σ.1.2.1) y = true then (k_tower1 σ (zu s) (zu x) (zu y)) else (-1, σ)) else (-1, σ)) else (-1, σ)
theorem c_X10_tower (h : zP M0 σ M) (s x y : Int32) : zA M0 mq_X10_tower [.ref 77, .int s, .int x, .int y] M (k_tower σ s x y) := by
  obtain ⟨M1, eM, h1, -⟩ := h.thr
  have hq := h.q
  have h8 := h.g.2.1
  have h2 := h.g.1
  have hg := h.g
  by_cases g0 : zel 4 s = true
  · by_cases g1 : zpt σ.1.2.1 x = true
    · by_cases g2 : zel (2 ^ σ.1.2.1) y = true
      · simp only [zA, k_tower, g0, g1, g2, if_true]
        obtain ⟨s, hs, rfl⟩ := zsln g0
        obtain ⟨d, hd0, hdm, hd8, hmd, rfl⟩ := h1.ptn g1
        obtain ⟨a, ha, rfl⟩ := h1.en g2
        rw [zu_nI (by omega), zu_nI (by omega), zu_nI (by omega)]
        obtain ⟨g, hc⟩ := h1.c
        have hsl := zsub_len hg hc hd0 hdm hmd
        obtain ⟨M8, q1, q2, q3⟩ := s_X10_takesSubbase (P := σ.1.1) hd8 h1.F
        rw [hsl] at q3
        obtain ⟨M', k1, k2⟩ := c_X10_tower_41 (σ := σ) (M0 := M0) ha hd0 hdm hmd hs hsl (σ.1.2.1 / d) 0 M8 (by omega) (h1.k q2 (by decide)) q3 (fun j hj => absurd hj (by omega))
        rw [Nat.zero_mul] at k1
        refine ⟨M', t_X10_tower_0 _ _ _ _ (fun M2 e2 => ?_), k2⟩
        obtain rfl := e2.trans eM
        exact ⟨1, zsl1 _ g0, fun c => absurd c z10, fun _ => ⟨1, h1.pt1 g1, fun c => absurd c z10, fun _ => ⟨1, h1.el1 g2, fun _ => ⟨M8, q1, k1 none⟩, fun c => absurd z10 c⟩⟩⟩
      · simp only [zA, k_tower, g0, g1, g2, if_true]
        refine ⟨M1, t_X10_tower_0 _ _ _ _ (fun M2 e2 => ?_), h1⟩
        obtain rfl := e2.trans eM
        exact ⟨1, zsl1 _ g0, fun c => absurd c z10, fun _ => ⟨1, h1.pt1 g1, fun c => absurd c z10, fun _ => ⟨0, h1.el0 g2, fun c => absurd rfl c, fun _ => rfl⟩⟩⟩
    · simp only [zA, k_tower, g0, g1, if_true]
      refine ⟨M1, t_X10_tower_0 _ _ _ _ (fun M2 e2 => ?_), h1⟩
      obtain rfl := e2.trans eM
      exact ⟨1, zsl1 _ g0, fun c => absurd c z10, fun _ => ⟨0, h1.pt0 g1, fun _ => rfl, fun c => absurd rfl c⟩⟩
  · simp only [zA, k_tower, g0, if_true]
    refine ⟨M1, t_X10_tower_0 _ _ _ _ (fun M2 e2 => ?_), h1⟩
    obtain rfl := e2.trans eM
    exact ⟨0, zsl0 _ g0, fun _ => rfl, fun c => absurd rfl c⟩
end ZC9
