/-! calls of the reference: bases, the rest -/
section ZC8
variable {M0 M M' : mz_M} {σ : zSg}
noncomputable def k_makes1 (σ : zSg) (s a w : Nat) : Int32 × zSg := if w = 0 then (if zpok σ.1.1 σ.1.2.1 a = true then (nI (zs (ztb σ.1.1 σ.1.2.1 (fpw σ.1.1 σ.1.2.1 a) 0) σ.1.2.1), zhold σ s (fpw σ.1.1 σ.1.2.1 a)) else (-2, σ)) else (if znor σ.1.1 σ.1.2.1 a = true then (nI (zs (ztb σ.1.1 σ.1.2.1 (cj σ.1.1 σ.1.2.1 a) 0) σ.1.2.1), zhold σ s (cj σ.1.1 σ.1.2.1 a)) else (-2, σ))
theorem c_X10_makes1 {s a w : Nat} (h : zP M0 σ M) (hs : s < 4) (ha : a < 2 ^ σ.1.2.1) (hw : w ≤ 1) : ∃ M', zP M0 (k_makes1 σ s a w).2 M' ∧ ((¬ nI w = 0 →
            (∃ (r9 : Int32) (M9 : mz_M), (mq_C mq_X10_isNormal [.ref 77, .int (nI a)] M (some (.int r9), M9)) ∧
            ((¬ r9 = 0 →
              (∃ (M11 : mz_M), (mq_C mq_X10_someIsBase [.ref 77] M9 (none, M11)) ∧
              (∃ (r12 : Int32) (M12 : mz_M), (mq_C mq_X10_holds [.ref 77, .int (nI s)] M11 (some (.int r12), M12)) ∧
              ((some (Value.int (k_makes1 σ s a w).1), M') : mz_O) = (some (.int r12), M12)))) ∧
            (¬ (¬ r9 = 0) →
              ((some (Value.int (k_makes1 σ s a w).1), M') : mz_O) = (some (.int (-2)), M9))))) ∧
          (¬ (¬ nI w = 0) →
            (∃ (r13 : Int32) (M13 : mz_M), (mq_C mq_X10_takesPowers [.ref 77, .int (nI a)] M (some (.int r13), M13)) ∧
            ((r13 = 0 →
              ((some (Value.int (k_makes1 σ s a w).1), M') : mz_O) = (some (.int (-2)), M13)) ∧
            (¬ (r13 = 0) →
              (∃ (M15 : mz_M), (mq_C mq_X10_someIsBase [.ref 77] M13 (none, M15)) ∧
              (∃ (r16 : Int32) (M16 : mz_M), (mq_C mq_X10_holds [.ref 77, .int (nI s)] M15 (some (.int r16), M16)) ∧
              ((some (Value.int (k_makes1 σ s a w).1), M') : mz_O) = (some (.int r16), M16))))))) ) := by
  unfold k_makes1
  by_cases hw0 : w = 0
  · subst hw0
    simp only [if_true]
    obtain ⟨M1, n1, n2, n3⟩ := s_X10_takesPowers h.F ha
    have h1 := h.k n2 (by decide)
    rw [show @decide (ind (fpw σ.1.1 σ.1.2.1 a) σ.1.2.1) (Classical.propDecidable _) = zpok σ.1.1 σ.1.2.1 a from rfl] at n1
    by_cases e : zpok σ.1.1 σ.1.2.1 a = true
    · rw [if_pos e]
      rw [e] at n1
      obtain ⟨M2, s1, s2, s3⟩ := s_X10_someIsBase ⟨zpok_iff.mp e, fun i _ => fpw_lt h.g ha i⟩ h1.F n3
      obtain ⟨M', k1, k2⟩ := s_X10_holds (h1.k s2 (by decide)) hs s3
      exact ⟨M', k2, fun c => absurd rfl c, fun _ => ⟨1, M1, n1, fun c => absurd c z10, fun _ => ⟨M2, s1, _, M', k1, rfl⟩⟩⟩
    · rw [if_neg e]
      rw [show zpok σ.1.1 σ.1.2.1 a = false by simpa using e] at n1
      exact ⟨M1, h1, fun c => absurd rfl c, fun _ => ⟨0, M1, n1, fun _ => rfl, fun c => absurd rfl c⟩⟩
  · have hw1 : w = 1 := by omega
    subst hw1
    rw [if_neg (by decide)]
    obtain ⟨M1, n1, n2, n3⟩ := s_X10_isNormal h.F ha
    have h1 := h.k n2 (by decide)
    by_cases e : znor σ.1.1 σ.1.2.1 a = true
    · rw [if_pos e]
      rw [e] at n1
      obtain ⟨M2, s1, s2, s3⟩ := s_X10_someIsBase ⟨znor_iff.mp e, fun i _ => cj_lt h.g ha i⟩ h1.F n3
      obtain ⟨M', k1, k2⟩ := s_X10_holds (h1.k s2 (by decide)) hs s3
      exact ⟨M', k2, fun _ => ⟨1, M1, n1, fun _ => ⟨M2, s1, _, M', k1, rfl⟩, fun c => absurd z10 c⟩, fun c => absurd z10 c⟩
    · rw [if_neg e]
      rw [show znor σ.1.1 σ.1.2.1 a = false by simpa using e] at n1
      exact ⟨M1, h1, fun _ => ⟨0, M1, n1, fun c => absurd rfl c, fun _ => rfl⟩, fun c => absurd z10 c⟩
noncomputable def k_makes (σ : zSg) (s x w : Int32) : Int32 × zSg := if zel 4 s = true then (if zel (2 ^ σ.1.2.1) x = true then (if zbt 0 1 w = true then (k_makes1 σ (zu s) (zu x) (zu w)) else (-1, σ)) else (-1, σ)) else (-1, σ)
theorem c_X10_makes (h : zP M0 σ M) (s x w : Int32) : zA M0 mq_X10_makes [.ref 77, .int s, .int x, .int w] M (k_makes σ s x w) := by
  obtain ⟨M1, eM, h1, -⟩ := h.thr
  have hq := h.q
  have h8 := h.g.2.1
  have h2 := h.g.1
  have hg := h.g
  by_cases g0 : zel 4 s = true
  · by_cases g1 : zel (2 ^ σ.1.2.1) x = true
    · by_cases g2 : zbt 0 1 w = true
      · simp only [zA, k_makes, g0, g1, g2, if_true]
        obtain ⟨s, hs, rfl⟩ := zsln g0
        obtain ⟨a, ha, rfl⟩ := h1.en g1
        obtain ⟨w, hw0, hw, rfl⟩ := zbtn (a := 0) (b := 1) (by decide) (by decide) g2
        rw [zu_nI (by omega), zu_nI (by omega), zu_nI (by omega)]
        obtain ⟨M', k2, k1⟩ := c_X10_makes1 h1 hs ha hw
        refine ⟨M', t_X10_makes_0 _ _ _ _ (fun M2 e2 => ?_), k2⟩
        obtain rfl := e2.trans eM
        exact ⟨1, zsl1 _ g0, fun c => absurd c z10, fun _ => ⟨1, h1.el1 g1, fun c => absurd c z10, fun _ => ⟨1, zin1 _ g2, fun _ => k1, fun c => absurd z10 c⟩⟩⟩
      · simp only [zA, k_makes, g0, g1, g2, if_true]
        refine ⟨M1, t_X10_makes_0 _ _ _ _ (fun M2 e2 => ?_), h1⟩
        obtain rfl := e2.trans eM
        exact ⟨1, zsl1 _ g0, fun c => absurd c z10, fun _ => ⟨1, h1.el1 g1, fun c => absurd c z10, fun _ => ⟨0, zin0 _ g2, fun c => absurd rfl c, fun _ => rfl⟩⟩⟩
    · simp only [zA, k_makes, g0, g1, if_true]
      refine ⟨M1, t_X10_makes_0 _ _ _ _ (fun M2 e2 => ?_), h1⟩
      obtain rfl := e2.trans eM
      exact ⟨1, zsl1 _ g0, fun c => absurd c z10, fun _ => ⟨0, h1.el0 g1, fun _ => rfl, fun c => absurd rfl c⟩⟩
  · simp only [zA, k_makes, g0, if_true]
    refine ⟨M1, t_X10_makes_0 _ _ _ _ (fun M2 e2 => ?_), h1⟩
    obtain rfl := e2.trans eM
    exact ⟨0, zsl0 _ g0, fun _ => rfl, fun c => absurd rfl c⟩
def zunl (v w : Nat → Nat) : Nat → Bool
  | 0 => false
  | n + 1 => zunl v w n || !(Nat.beq (v n) (w n))
theorem c_X10_copies_26 {s t : Nat} (h : zP M0 σ M) (hs : s < 4) (ht : t < 4) : ∃ M', zP M0 (zhold σ t (σ.1.2.2 s)) M' ∧ ∀ (f i : Nat), i + f = σ.1.2.1 → mq_G mq_X10_copies (26, [some (.ref 77), some (.int (nI s)), some (.int (nI t)), some (.int (zB (zunl (σ.1.2.2 s) (σ.1.2.2 t) i))), some (.int (nI i))], [], M) (some (.int (zB (zunl (σ.1.2.2 s) (σ.1.2.2 t) σ.1.2.1))), M') := by
  have h8 := h.g.2.1
  obtain ⟨M2, l1, l2, l3⟩ := s_X10_looksAt (h.b hs) hs h.F (h.s hs)
  obtain ⟨M', k1, k2⟩ := s_X10_holds (h.k l2 (by decide)) ht l3
  have hcx := zcx_le (P := σ.1.1) (σ.1.2.2 s) h8
  refine ⟨M', k2, fun f => ?_⟩
  induction f with
  | zero =>
    intro i hi
    obtain rfl : i = σ.1.2.1 := by omega
    refine t_X10_copies_26 _ _ _ _ _ ⟨fun _ => ⟨M2, l1, _, M', k1, fun c => ?_, fun c => ⟨fun c2 => absurd c2 (Int32.not_lt.mpr (zn_ge0 (by omega))), fun _ => ?_⟩⟩, fun c => absurd (by rw [h.F.2.2.1]; exact Int32.le_refl _) c⟩
    · rw [c]
    · rw [show zB (zunl (σ.1.2.2 s) (σ.1.2.2 t) σ.1.2.1) = 1 from (zB_01 _).resolve_left c]
  | succ f ih =>
    intro i hi
    have ih := ih (i + 1) (by omega)
    have b1 := s_X10_baseAt M hs (show i < 8 by omega)
    have b2 := s_X10_baseAt M ht (show i < 8 by omega)
    rw [h.s hs i (by omega)] at b1
    rw [h.s ht i (by omega)] at b2
    have v1 := (h.b hs).2 i (by omega)
    have v2 := (h.b ht).2 i (by omega)
    have hq := h.q
    rw [show zunl (σ.1.2.2 s) (σ.1.2.2 t) (i + 1) = (zunl (σ.1.2.2 s) (σ.1.2.2 t) i || !(Nat.beq (σ.1.2.2 s i) (σ.1.2.2 t i))) from rfl] at ih
    refine t_X10_copies_26 _ _ _ _ _ ⟨fun c => ?_, fun _ => ⟨fun c => ?_, fun c => ⟨_, b1, _, b2, fun e => ?_, fun e => ?_⟩⟩⟩
    · rw [h.F.2.2.1, zn_le (by omega) (by omega)] at c
      omega
    · cases e : zunl (σ.1.2.2 s) (σ.1.2.2 t) i with
      | false => rw [e] at c; exact absurd rfl c
      | true =>
        rw [e, Bool.true_or] at ih
        rw [nI_1]
        exact ih
    · rw [zn_eq (by omega) (by omega)] at e
      cases e2 : zunl (σ.1.2.2 s) (σ.1.2.2 t) i with
      | true => rw [e2] at c; exact absurd z10 c
      | false =>
        rw [e2, e, Bool.false_or, show Nat.beq (σ.1.2.2 t i) (σ.1.2.2 t i) = true from Nat.beq_refl _] at ih
        rw [nI_1]
        exact ih
    · rw [zn_eq (by omega) (by omega)] at e
      cases e2 : zunl (σ.1.2.2 s) (σ.1.2.2 t) i with
      | true => rw [e2] at c; exact absurd z10 c
      | false =>
        rw [e2, Bool.false_or, show Nat.beq (σ.1.2.2 s i) (σ.1.2.2 t i) = false by
          cases q : Nat.beq (σ.1.2.2 s i) (σ.1.2.2 t i) with
          | false => rfl
          | true => exact absurd (Nat.eq_of_beq_eq_true q) e] at ih
        rw [nI_1]
        exact ih
def k_copies (σ : zSg) (s t : Int32) : Int32 × zSg := if zel 4 s = true then (if zel 4 t = true then ((zB (zunl (σ.1.2.2 (zu s)) (σ.1.2.2 (zu t)) σ.1.2.1), zhold σ (zu t) (σ.1.2.2 (zu s)))) else (-1, σ)) else (-1, σ)
theorem c_X10_copies (h : zP M0 σ M) (s t : Int32) : zA M0 mq_X10_copies [.ref 77, .int s, .int t] M (k_copies σ s t) := by
  obtain ⟨M1, eM, h1, -⟩ := h.thr
  have hq := h.q
  have h8 := h.g.2.1
  have h2 := h.g.1
  have hg := h.g
  by_cases g0 : zel 4 s = true
  · by_cases g1 : zel 4 t = true
    · simp only [zA, k_copies, g0, g1, if_true]
      obtain ⟨s, hs, rfl⟩ := zsln g0
      obtain ⟨t, ht, rfl⟩ := zsln g1
      rw [zu_nI (by omega), zu_nI (by omega)]
      obtain ⟨M', k2, k1⟩ := c_X10_copies_26 h1 hs ht
      refine ⟨M', t_X10_copies_0 _ _ _ (fun M2 e2 => ?_), k2⟩
      obtain rfl := e2.trans eM
      exact ⟨1, zsl1 _ g0, fun c => absurd c z10, fun _ => ⟨1, zsl1 _ g1, fun _ => k1 σ.1.2.1 0 (by omega), fun c => absurd z10 c⟩⟩
    · simp only [zA, k_copies, g0, g1, if_true]
      refine ⟨M1, t_X10_copies_0 _ _ _ (fun M2 e2 => ?_), h1⟩
      obtain rfl := e2.trans eM
      exact ⟨1, zsl1 _ g0, fun c => absurd c z10, fun _ => ⟨0, zsl0 _ g1, fun c => absurd rfl c, fun _ => rfl⟩⟩
  · simp only [zA, k_copies, g0, if_true]
    refine ⟨M1, t_X10_copies_0 _ _ _ (fun M2 e2 => ?_), h1⟩
    obtain rfl := e2.trans eM
    exact ⟨0, zsl0 _ g0, fun _ => rfl, fun c => absurd rfl c⟩
def zr3 (x y z : Int32) : Nat × (Nat → Int64) := (3, fun k => if k = 0 then x.toInt64 else if k = 1 then y.toInt64 else z.toInt64)
noncomputable def k_complexity (σ : zSg) (s : Int32) : Int32 × zSg := if zel 4 s = true then ((nI (zs (ztb σ.1.1 σ.1.2.1 (σ.1.2.2 (zu s)) 0) σ.1.2.1), zrw σ (zr3 (nI (zwt σ.1.1 σ.1.2.1 (σ.1.2.2 (zu s)))) (zB (znb σ.1.1 σ.1.2.1 (σ.1.2.2 (zu s)) && Nat.beq (zs (ztb σ.1.1 σ.1.2.1 (σ.1.2.2 (zu s)) 0) σ.1.2.1) (2 * σ.1.2.1 - 1))) (if znb σ.1.1 σ.1.2.1 (σ.1.2.2 (zu s)) = true then nI ((σ.1.2.2 (zu s)) 0) else -1)))) else (-1, σ)
theorem c_X10_complexity (h : zP M0 σ M) (s : Int32) : zA M0 mq_X10_complexity [.ref 77, .int s] M (k_complexity σ s) := by
  obtain ⟨M1, eM, h1, -⟩ := h.thr
  have hq := h.q
  have h8 := h.g.2.1
  have h2 := h.g.1
  have hg := h.g
  by_cases g0 : zel 4 s = true
  · simp only [zA, k_complexity, g0, if_true]
    obtain ⟨s, hs, rfl⟩ := zsln g0
    rw [zu_nI (by omega)]
    obtain ⟨M6, l1, l2, l3⟩ := s_X10_looksAt (h1.b hs) hs h1.F (h1.s hs)
    have h6 := h1.k l2 (by decide)
    have hb := h1.b hs
    have kc := s_X10_complexityNow h6.F l3
    obtain ⟨M7, q1, q2⟩ := s_X10_isNormalBase h6.F hb l3.2.1
    have h7 := h6.k q2 (by decide)
    have L7 : zlk σ.1.2.1 (σ.1.2.2 s) M7 := l3.k q2 (by decide) (by decide)
    have hcx := zcx_le (P := σ.1.1) (σ.1.2.2 s) h8
    have t1 := h7.row0 (zr3 (nI (zwt σ.1.1 σ.1.2.1 (σ.1.2.2 s))) (zB (znb σ.1.1 σ.1.2.1 (σ.1.2.2 s) && Nat.beq (zs (ztb σ.1.1 σ.1.2.1 (σ.1.2.2 s) 0) σ.1.2.1) (2 * σ.1.2.1 - 1))) (if znb σ.1.1 σ.1.2.1 (σ.1.2.2 s) = true then nI ((σ.1.2.2 s) 0) else -1)).2
    have kw := s_X10_weightNow (P := σ.1.1) (m := σ.1.2.1) (v := σ.1.2.2 s) t1.F ⟨L7.1, fun j hj => by rw [zwr_n (by decide)]; exact L7.2.1 j hj, fun j hj => by rw [zwr_n (by decide)]; exact L7.2.2 j hj⟩
    obtain ⟨M8, p1, p2, p3⟩ := s_X10_tell t1 (by decide) (x := (nI (zwt σ.1.1 σ.1.2.1 (σ.1.2.2 s))).toInt64) rfl
    obtain ⟨M9, r1, r2, r3⟩ := s_X10_tell p2 (by decide) (x := (zB (znb σ.1.1 σ.1.2.1 (σ.1.2.2 s) && Nat.beq (zs (ztb σ.1.1 σ.1.2.1 (σ.1.2.2 s) 0) σ.1.2.1) (2 * σ.1.2.1 - 1))).toInt64) rfl
    obtain ⟨M', u1, k2, u3⟩ := s_X10_tell r2 (by decide) (x := (if znb σ.1.1 σ.1.2.1 (σ.1.2.2 s) = true then nI (σ.1.2.2 s 0) else -1).toInt64) rfl
    have z87 : M9.1 87 0 = nI (σ.1.2.2 s 0) := by rw [r3 87 (by decide), p3 87 (by decide), zwr_n (by decide)]; exact L7.2.1 0 (by omega)
    have e11 : M8.1 77 11 = nI σ.1.2.1 := p2.F.2.2.1
    have e2m : (2 : Int32) * nI σ.1.2.1 - 1 = nI (2 * σ.1.2.1 - 1) := by rw [show (2 : Int32) = nI 2 from rfl, pk_mul]; exact zn_sub (b := 1) (by omega)
    refine ⟨M', t_X10_complexity_0 _ _ (fun M2 e2 => ?_), k2⟩
    obtain rfl := e2.trans eM
    refine ⟨1, zsl1 _ g0, fun _ => ⟨M6, l1, _, kc, _, M7, q1, fun M10 e10 => ?_⟩, fun c => absurd z10 c⟩
    subst e10
    refine ⟨_, kw, M8, p1, fun c => ?_, fun c => ⟨fun c2 => ?_, fun c2 => ?_⟩⟩
    · have e : znb σ.1.1 σ.1.2.1 (σ.1.2.2 s) = false := by
        cases q : znb σ.1.1 σ.1.2.1 (σ.1.2.2 s) with
        | false => rfl
        | true => rw [q] at c; exact absurd c z10
      rw [e] at r1 u1 ⊢
      exact t_X10_complexity_64 _ _ _ _ (t_X10_complexity_65 _ _ _ _ _ ⟨M9, r1, fun _ => t_X10_complexity_86 _ _ _ _ _ _ ⟨M', u1, rfl⟩, fun c => absurd rfl c⟩)
    · have e : znb σ.1.1 σ.1.2.1 (σ.1.2.2 s) = true := by
        cases q : znb σ.1.1 σ.1.2.1 (σ.1.2.2 s) with
        | false => rw [q] at c; exact absurd rfl c
        | true => rfl
      rw [e11, e2m, zn_eq (by omega) (by omega)] at c2
      rw [e, show Nat.beq (zs (ztb σ.1.1 σ.1.2.1 (σ.1.2.2 s) 0) σ.1.2.1) (2 * σ.1.2.1 - 1) = false by
        cases q : Nat.beq (zs (ztb σ.1.1 σ.1.2.1 (σ.1.2.2 s) 0) σ.1.2.1) (2 * σ.1.2.1 - 1) with
        | false => rfl
        | true => exact absurd (Nat.eq_of_beq_eq_true q) c2] at r1
      rw [e] at u1 ⊢
      refine t_X10_complexity_64 _ _ _ _ (t_X10_complexity_65 _ _ _ _ _ ⟨M9, r1, fun c => absurd c z10, fun _ => ⟨zn_in (a := 0) (by decide) (by decide), t_X10_complexity_86 _ _ _ _ _ _ ⟨M', ?_, rfl⟩⟩⟩)
      show mq_C mq_X10_tell [.ref 77, .long ((M9.1 87 0).toInt64)] M9 _
      rw [z87]
      exact u1
    · have e : znb σ.1.1 σ.1.2.1 (σ.1.2.2 s) = true := by
        cases q : znb σ.1.1 σ.1.2.1 (σ.1.2.2 s) with
        | false => rw [q] at c; exact absurd rfl c
        | true => rfl
      rw [e11, e2m, zn_eq (by omega) (by omega)] at c2
      rw [e, Classical.not_not.mp c2, show Nat.beq (2 * σ.1.2.1 - 1) (2 * σ.1.2.1 - 1) = true from Nat.beq_refl _] at r1
      rw [e] at u1 ⊢
      refine t_X10_complexity_65 _ _ _ _ _ ⟨M9, r1, fun c => absurd c z10, fun _ => ⟨zn_in (a := 0) (by decide) (by decide), t_X10_complexity_86 _ _ _ _ _ _ ⟨M', ?_, rfl⟩⟩⟩
      show mq_C mq_X10_tell [.ref 77, .long ((M9.1 87 0).toInt64)] M9 _
      rw [z87]
      exact u1
  · simp only [zA, k_complexity, g0, if_true]
    refine ⟨M1, t_X10_complexity_0 _ _ (fun M2 e2 => ?_), h1⟩
    obtain rfl := e2.trans eM
    exact ⟨0, zsl0 _ g0, fun c => absurd rfl c, fun _ => rfl⟩
noncomputable def zsd (P m : Nat) (v : Nat → Nat) (a : Nat) : Bool := Nat.beq (zpop 10 (crd v m a)) (zpop 10 (crd v m (fm P m a a)))
noncomputable def zsdn (P m : Nat) (v : Nat → Nat) (a : Nat) : Bool := !(zsd P m v a)
theorem c_X10_steady_31 {v : Nat → Nat} (h : zP M0 σ M) (hL : zlk σ.1.2.1 v M) : ∃ M', zP M0 (zrw σ (zr1 (zNo (zfst (zsdn σ.1.1 σ.1.2.1 v) (2 ^ σ.1.2.1) 0)))) M' ∧ ∀ (a f : Nat) (o : Option Value), a + f = 2 ^ σ.1.2.1 → mq_G mq_X10_steady (31, [some (.ref 77), o, some (.int (nI (zcnt (zsd σ.1.1 σ.1.2.1 v) f a))), some (.int (zNo (zfst (zsdn σ.1.1 σ.1.2.1 v) f a))), some (.int (nI a + (-1)))], [], M) (some (.int (nI (zcnt (zsd σ.1.1 σ.1.2.1 v) (2 ^ σ.1.2.1) 0))), M') := by
  have hq := h.q
  have hg := h.g
  obtain ⟨M3, M4, e3, g1, g2, -, -⟩ := s_tell1 h (zNo (zfst (zsdn σ.1.1 σ.1.2.1 v) (2 ^ σ.1.2.1) 0))
  refine ⟨M4, g2, fun a => ?_⟩
  induction a with
  | zero =>
    intro f o hf
    obtain rfl : f = 2 ^ σ.1.2.1 := by omega
    refine t_X10_steady_31 _ _ _ _ _ ⟨fun _ M2 e2 => ?_, fun c => absurd (by decide) c⟩
    obtain rfl := e2.trans e3
    exact ⟨M4, g1, rfl⟩
  | succ a ih =>
    intro f o hf
    have ha : a < 2 ^ σ.1.2.1 := by omega
    have hl := fm_lt hg (b := a) ha
    have c1 := crd_lt (v := v) (m := σ.1.2.1) (e := a)
    have c2 := crd_lt (v := v) (m := σ.1.2.1) (e := fm σ.1.1 σ.1.2.1 a a)
    have p1 := zpop_le 10 (crd v σ.1.2.1 a)
    have p2 := zpop_le 10 (crd v σ.1.2.1 (fm σ.1.1 σ.1.2.1 a a))
    refine t_X10_steady_31 _ _ _ _ _ ?_
    rw [zn_m1]
    refine ⟨fun c => absurd c (Int32.not_lt.mpr (zn_ge0 (by omega))), fun _ => ⟨zn_in (by omega) (by decide), nI (zpop 10 (crd v σ.1.2.1 a)), ?_, nI (fm σ.1.1 σ.1.2.1 a a), s_X10_times M hg h.F.2.1 ha ha, zn_in (by omega) (by decide), nI (zpop 10 (crd v σ.1.2.1 (fm σ.1.1 σ.1.2.1 a a))), ?_, fun c => ?_, fun c => ?_⟩⟩
    · rw [zn_cl (by omega), hL.2.2 a ha]
      exact s_X10_bits M (by omega)
    · rw [zn_cl (by omega), hL.2.2 _ hl]
      exact s_X10_bits M (by omega)
    · rw [zn_eq (by omega) (by omega)] at c
      have e : ¬ zsd σ.1.1 σ.1.2.1 v a = true := fun q => c (Nat.eq_of_beq_eq_true q)
      have e2 : zsdn σ.1.1 σ.1.2.1 v a = true := by unfold zsdn; simp [e]
      have ih := ih (f + 1) o (by omega)
      rw [zcnt_f e, zfst_t e2] at ih
      exact ih
    · rw [zn_eq (by omega) (by omega)] at c
      have e : zsd σ.1.1 σ.1.2.1 v a = true := by unfold zsd; rw [Classical.not_not.mp c]; exact Nat.beq_refl _
      have e2 : ¬ zsdn σ.1.1 σ.1.2.1 v a = true := by unfold zsdn; simp [e]
      have ih := ih (f + 1) (mz_nw o) (by omega)
      rw [zcnt_t e, zfst_f e2] at ih
      rw [nI_1]
      exact ih
noncomputable def k_steady (σ : zSg) (s : Int32) : Int32 × zSg := if zel 4 s = true then ((nI (zcnt (zsd σ.1.1 σ.1.2.1 (σ.1.2.2 (zu s))) (2 ^ σ.1.2.1) 0), zrw σ (zr1 (zNo (zfst (zsdn σ.1.1 σ.1.2.1 (σ.1.2.2 (zu s))) (2 ^ σ.1.2.1) 0))))) else (-1, σ)
theorem c_X10_steady (h : zP M0 σ M) (s : Int32) : zA M0 mq_X10_steady [.ref 77, .int s] M (k_steady σ s) := by
  obtain ⟨M1, eM, h1, -⟩ := h.thr
  have hq := h.q
  have h8 := h.g.2.1
  have h2 := h.g.1
  have hg := h.g
  by_cases g0 : zel 4 s = true
  · simp only [zA, k_steady, g0, if_true]
    obtain ⟨s, hs, rfl⟩ := zsln g0
    rw [zu_nI (by omega)]
    obtain ⟨M6, l1, l2, l3⟩ := s_X10_looksAt (h1.b hs) hs h1.F (h1.s hs)
    have h6 := h1.k l2 (by decide)
    have hb := h1.b hs
    obtain ⟨M', k2, k1⟩ := c_X10_steady_31 h6 l3
    have hq0 := Nat.two_pow_pos σ.1.2.1
    have k1 := k1 (2 ^ σ.1.2.1) 0 (some (.int (nI s))) rfl
    refine ⟨M', t_X10_steady_0 _ _ (fun M2 e2 => ?_), k2⟩
    obtain rfl := e2.trans eM
    refine ⟨1, zsl1 _ g0, fun _ => ⟨M6, l1, ?_⟩, fun c => absurd z10 c⟩
    rw [h6.F.2.2.2, zm1 hq0]
    exact k1
  · simp only [zA, k_steady, g0, if_true]
    refine ⟨M1, t_X10_steady_0 _ _ (fun M2 e2 => ?_), h1⟩
    obtain rfl := e2.trans eM
    exact ⟨0, zsl0 _ g0, fun c => absurd rfl c, fun _ => rfl⟩
def zbe1 (c a : Nat) (t : Option Nat × Nat) : Option Nat × Nat := match t.1 with
  | none => (some a, c)
  | some x => if c < t.2 then (some a, c) else (some x, t.2)
def zbe (c : Nat → Nat) : Nat → Nat → Option Nat × Nat → Option Nat × Nat
  | 0, _, t => t
  | f + 1, a, t => zbe c f (a + 1) (zbe1 (c a) a t)
theorem zbe1_ok {c a : Nat} {t : Option Nat × Nat} (hc : c < 1000) (ha : a < 2 ^ 31) (h1 : t.2 < 1000) (h2 : ∀ x, t.1 = some x → x < 2 ^ 31) : (zbe1 c a t).2 < 1000 ∧ ∀ x, (zbe1 c a t).1 = some x → x < 2 ^ 31 := by
  obtain ⟨o, n⟩ := t
  cases o with
  | none => exact ⟨hc, fun x e => by cases e; exact ha⟩
  | some y =>
    simp only [zbe1]
    by_cases q1 : c < n
    · rw [if_pos q1]
      exact ⟨hc, fun x e => by cases e; exact ha⟩
    · rw [if_neg q1]
      exact ⟨h1, h2⟩
noncomputable def zsc (P m : Nat) (v : Nat → Nat) (a : Nat) : Nat := zs (ztb P m (fun k => fm P m a (v k)) 0) m
theorem c_X10_bestScale_33 {s a : Nat} (hs : s < 4) (h0 : 0 < a) (ha : a < 2 ^ σ.1.2.1) (t : Option Nat × Nat) (ht1 : t.2 < 1000) (ht2 : ∀ x, t.1 = some x → x < 2 ^ 31) : ∀ (f i : Nat) (M : mz_M), i + f = σ.1.2.1 → zP M0 σ M → zrow M 84 i (fun k => fm σ.1.1 σ.1.2.1 a (σ.1.2.2 s k)) → ∃ M2, zP M0 σ M2 ∧ ∀ res, (∀ o5 : Option Value, mq_G mq_X10_bestScale (21, [some (.ref 77), some (.int (nI s)), some (.int (zNo (zbe1 (zsc σ.1.1 σ.1.2.1 (σ.1.2.2 s) a) a t).1)), some (.int (nI (zbe1 (zsc σ.1.1 σ.1.2.1 (σ.1.2.2 s) a) a t).2)), some (.int (nI (a + 1))), o5], [], M2) res) → mq_G mq_X10_bestScale (33, [some (.ref 77), some (.int (nI s)), some (.int (zNo t.1)), some (.int (nI t.2)), some (.int (nI a)), some (.int (nI i))], [], M) res
  | 0, i, M, hi, h, hr => by
    obtain ⟨g, hc⟩ := h.c
    have h8 := h.g.2.1
    obtain rfl : i = σ.1.2.1 := by omega
    obtain ⟨M2, s1, s2, s3⟩ := s_X10_someIsBase (zbas_scale h.g hc (h.b hs) h0 ha) h.F hr
    have hp2 := h.k s2 (by decide)
    have hcx := zcx_le (P := σ.1.1) (fun k => fm σ.1.1 σ.1.2.1 a (σ.1.2.2 s k)) h8
    have hcl : zsc σ.1.1 σ.1.2.1 (σ.1.2.2 s) a < 1000 := by show zs _ _ < _; omega
    refine ⟨M2, hp2, fun res g => t_X10_bestScale_33 _ _ _ _ _ _ ⟨fun _ => ⟨M2, s1, nI (zsc σ.1.1 σ.1.2.1 (σ.1.2.2 s) a), s_X10_complexityNow hp2.F s3, ?_⟩, fun c => absurd (by rw [h.F.2.2.1]; exact Int32.le_refl _) c⟩⟩
    rw [zNo_m1 ht2, nI_1]
    obtain ⟨o, n⟩ := t
    refine ⟨fun c => ?_, fun c => ?_⟩
    · have c : o = none := c
      subst c
      exact g _
    · cases o with
      | none => exact absurd rfl c
      | some y =>
        have ht1 : n < 1000 := ht1
        show (_ < nI n → _) ∧ (¬ _ < nI n → _)
        rw [zn_lt (by omega) (by omega)]
        have kk : ∀ t', zbe1 (zsc σ.1.1 σ.1.2.1 (σ.1.2.2 s) a) a (some y, n) = t' → mq_G mq_X10_bestScale (21, [some (.ref 77), some (.int (nI s)), some (.int (zNo t'.1)), some (.int (nI t'.2)), some (.int (nI (a + 1))), some (.int (nI (zsc σ.1.1 σ.1.2.1 (σ.1.2.2 s) a)))], [], M2) res := fun t' e => by rw [← e]; exact g _
        refine ⟨fun c2 => kk (some a, zsc σ.1.1 σ.1.2.1 (σ.1.2.2 s) a) (by simp only [zbe1]; rw [if_pos c2]), fun c2 => kk (some y, n) (by simp only [zbe1]; rw [if_neg c2])⟩
  | f + 1, i, M, hi, h, hr => by
    have h8 := h.g.2.1
    have hb := h.b hs
    have hk : zK [84] M (mz_wr M 84 (upd (M.1 84) i (nI (fm σ.1.1 σ.1.2.1 a (σ.1.2.2 s i))))) := zK.wr (by simp)
    obtain ⟨M2, k1, k2⟩ := c_X10_bestScale_33 hs h0 ha t ht1 ht2 f (i + 1) _ (by omega) (h.k hk (by decide)) hr.put
    refine ⟨M2, k1, fun res g => t_X10_bestScale_33 _ _ _ _ _ _ ⟨fun c => ?_, fun _ => ⟨_, s_X10_baseAt M hs (by omega), nI (fm σ.1.1 σ.1.2.1 a (σ.1.2.2 s i)), ?_, zn_in (by omega) (by decide), fun M6 e6 => ?_⟩⟩⟩
    · rw [h.F.2.2.1, zn_le (by omega) (by omega)] at c
      omega
    · rw [h.s hs i (by omega)]
      exact s_X10_times M h.g h.F.2.1 ha (hb.2 i (by omega))
    · rw [e6, zn_cl (by omega), nI_1]
      exact k2 res g
theorem c_X10_bestScale_21 {s : Nat} (hs : s < 4) : ∀ (f a : Nat) (t : Option Nat × Nat) (M : mz_M), zP M0 σ M → a + f = 2 ^ σ.1.2.1 → 0 < a → t.2 < 1000 → (∀ x, t.1 = some x → x < 2 ^ 31) → ∃ M', (∀ o5 : Option Value, mq_G mq_X10_bestScale (21, [some (.ref 77), some (.int (nI s)), some (.int (zNo t.1)), some (.int (nI t.2)), some (.int (nI a)), o5], [], M) (some (.int (zNo (zbe (zsc σ.1.1 σ.1.2.1 (σ.1.2.2 s)) f a t).1)), M')) ∧ zP M0 (zrw σ (zr1 (nI (zbe (zsc σ.1.1 σ.1.2.1 (σ.1.2.2 s)) f a t).2))) M'
  | 0, a, t, M, h, hf, h0, h1, h2 => by
    obtain ⟨M3, M4, e3, g1, g2, -, -⟩ := s_tell1 h (nI t.2)
    have hq := h.q
    refine ⟨M4, fun o5 => t_X10_bestScale_21 _ _ _ _ _ _ ⟨fun _ M2 e2 => ?_, fun c => absurd ?_ c⟩, g2⟩
    · obtain rfl := e2.trans e3
      exact ⟨M4, g1, rfl⟩
    · rw [h.F.2.2.2, zn_le (by omega) (by omega)]
      omega
  | f + 1, a, t, M, h, hf, h0, h1, h2 => by
    have hq := h.q
    have h8 := h.g.2.1
    obtain ⟨M2, k1, k2⟩ := c_X10_bestScale_33 (σ := σ) (M0 := M0) hs h0 (show a < 2 ^ σ.1.2.1 by omega) t h1 h2 σ.1.2.1 0 M (by omega) h (fun j hj => absurd hj (Nat.not_lt_zero j))
    have hcx := zcx_le (P := σ.1.1) (fun k => fm σ.1.1 σ.1.2.1 a (σ.1.2.2 s k)) h8
    have hcl : zsc σ.1.1 σ.1.2.1 (σ.1.2.2 s) a < 1000 := by show zs _ _ < _; omega
    obtain ⟨b1, b2⟩ := zbe1_ok (c := zsc σ.1.1 σ.1.2.1 (σ.1.2.2 s) a) (a := a) hcl (by omega) h1 h2
    obtain ⟨M', g1, g2⟩ := c_X10_bestScale_21 hs f (a + 1) _ M2 k1 (by omega) (by omega) b1 b2
    refine ⟨M', fun o5 => t_X10_bestScale_21 _ _ _ _ _ _ ⟨fun c => ?_, fun _ => k2 _ g1⟩, g2⟩
    rw [h.F.2.2.2, zn_le (by omega) (by omega)] at c
    omega
noncomputable def k_bestScale (σ : zSg) (s : Int32) : Int32 × zSg := if zel 4 s = true then ((zNo (zbe (zsc σ.1.1 σ.1.2.1 (σ.1.2.2 (zu s))) (2 ^ σ.1.2.1 - 1) 1 (none, 0)).1, zrw σ (zr1 (nI (zbe (zsc σ.1.1 σ.1.2.1 (σ.1.2.2 (zu s))) (2 ^ σ.1.2.1 - 1) 1 (none, 0)).2)))) else (-1, σ)
theorem c_X10_bestScale (h : zP M0 σ M) (s : Int32) : zA M0 mq_X10_bestScale [.ref 77, .int s] M (k_bestScale σ s) := by
  obtain ⟨M1, eM, h1, -⟩ := h.thr
  have hq := h.q
  have h8 := h.g.2.1
  have h2 := h.g.1
  have hg := h.g
  by_cases g0 : zel 4 s = true
  · simp only [zA, k_bestScale, g0, if_true]
    obtain ⟨s, hs, rfl⟩ := zsln g0
    rw [zu_nI (by omega)]
    have hq1 := f1_lt hg
    obtain ⟨M', k1, k2⟩ := c_X10_bestScale_21 (σ := σ) (M0 := M0) hs (2 ^ σ.1.2.1 - 1) 1 (none, 0) M1 h1 (by omega) (by decide) (by decide) (fun x e => by cases e)
    refine ⟨M', t_X10_bestScale_0 _ _ (fun M2 e2 => ?_), k2⟩
    obtain rfl := e2.trans eM
    exact ⟨1, zsl1 _ g0, fun _ => k1 none, fun c => absurd z10 c⟩
  · simp only [zA, k_bestScale, g0, if_true]
    refine ⟨M1, t_X10_bestScale_0 _ _ (fun M2 e2 => ?_), h1⟩
    obtain rfl := e2.trans eM
    exact ⟨0, zsl0 _ g0, fun c => absurd rfl c, fun _ => rfl⟩
end ZC8
