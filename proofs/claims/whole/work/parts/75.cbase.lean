/-! the class: a base read, deeds undone, what is written and counted -/
section CB
variable {M0 M M' : mz_M} {σ : zSg}
theorem s_X8_isDigit (M : mz_M) (x : Int32) : mq_C mq_X8_isDigit [.int x] M (some (.int (zB (zbt 48 57 x))), M) := by
  refine t_X8_isDigit_0 _ _ ⟨fun c => ?_, fun c => ⟨fun d => ?_, fun d => ?_⟩⟩
  · rw [show zbt 48 57 x = false from decide_eq_false (fun q => absurd q.1 (Int32.not_le.mpr c))]; rfl
  · rw [show zbt 48 57 x = false from decide_eq_false (fun q => absurd q.2 (Int32.not_le.mpr d))]; rfl
  · rw [show zbt 48 57 x = true from decide_eq_true ⟨Int32.not_lt.mp c, Int32.not_lt.mp d⟩]; rfl
theorem s_X8_numberRead_20 : ∀ (f p v d : Nat) (M : mz_M), ycr M0 σ p M → v < 10 ^ d → d + f = 3 → ∃ M', mq_G mq_X8_numberRead (20, [some (.ref 70), some (.int (nI v)), some (.int (nI d))], [], M) (some (.int (nI (ynm σ.2.2.2.1 f p v d).1)), M') ∧ ycr M0 σ (ynm σ.2.2.2.1 f p v d).2.1 M' ∧ zK [70] M M'
  | 0, p, v, d, M, h, hv, hd => by
    obtain rfl : d = 3 := by omega
    exact ⟨M, t_X8_numberRead_20 _ _ _ ⟨fun _ => rfl, fun c => absurd (by decide) c⟩, h, zK.rf _ _⟩
  | f + 1, p, v, d, M, h, hv, hd => by
    have h1000 : 10 ^ d ≤ 10 ^ 3 := Nat.pow_le_pow_right (by decide) (by omega)
    have hk := h.1.tk
    have h100 := hk.1
    have hp := h.2.2
    have s1 : mq_C mq_X8_signAt [.ref 70, .int (M.1 70 3)] M (some (.int (yI (ysg σ.2.2.2.1 p))), M) := by rw [h.2.1]; exact s_X8_signAt h.1 (by omega)
    have i57 : zbt 48 57 (yI (ysg σ.2.2.2.1 p)) = true ↔ 48 ≤ ysg σ.2.2.2.1 p ∧ ysg σ.2.2.2.1 p ≤ 57 := yI_in (a := 48) (b := 57) (ysg_ok hk p) (by decide) (by decide)
    have hdg := s_X8_isDigit M (yI (ysg σ.2.2.2.1 p))
    have c3 : ¬ (3 : Int32) ≤ nI d := by
      rw [show (3 : Int32) = nI 3 from rfl, zn_le (by decide) (by omega)]
      omega
    by_cases e : (d = 0 ∨ 0 < v) ∧ 48 ≤ ysg σ.2.2.2.1 p ∧ ysg σ.2.2.2.1 p ≤ 57
    · have hz : ynm σ.2.2.2.1 (f + 1) p v d = ynm σ.2.2.2.1 f (p + 1) (10 * v + ysg σ.2.2.2.1 p - 48) (d + 1) := if_pos e
      have hl : p < σ.2.2.2.1.1 := ysg_lt rfl (by omega)
      rw [i57.mpr e.2] at hdg
      obtain ⟨M', k1, k2, k3⟩ := s_X8_numberRead_20 f (p + 1) (10 * v + ysg σ.2.2.2.1 p - 48) (d + 1) _ (h.1.pos (p := p + 1) (by omega)) (by rw [Nat.pow_succ]; omega) (by omega)
      rw [hz]
      have hval : ((10 * nI v) + yI (ysg σ.2.2.2.1 p)) - 48 = nI (10 * v + ysg σ.2.2.2.1 p - 48) := by
        rw [show yI (ysg σ.2.2.2.1 p) = nI (ysg σ.2.2.2.1 p) by unfold yI; rw [if_neg (by omega)], show (10 : Int32) = nI 10 from rfl, pk_mul, nI_add, show (48 : Int32) = nI 48 from rfl, zn_sub (by omega)]
      have go : ∀ N : mz_M, N = mz_wr M 70 (upd (M.1 70) 3 ((M.1 70 3) + 1)) → mq_G mq_X8_numberRead (20, [some (.ref 70), some (.int (((10 * nI v) + yI (ysg σ.2.2.2.1 p)) - 48)), some (.int (nI d + 1))], [], N) (some (.int (nI (ynm σ.2.2.2.1 f (p + 1) (10 * v + ysg σ.2.2.2.1 p - 48) (d + 1)).1)), M') := by
        intro N n
        rw [h.2.1, nI_1] at n
        rw [n, hval, nI_1]
        exact k1
      refine ⟨M', t_X8_numberRead_20 _ _ _ ⟨fun c => absurd c c3, fun _ => ⟨_, s1, 1, hdg, fun c => absurd c z10, fun _ => ⟨fun _ => ⟨_, s1, go⟩, fun c => ⟨fun c2 => ?_, fun _ => ⟨_, s1, go⟩⟩⟩⟩⟩, k2, (zK.wr (by simp)).tr k3⟩
      rw [zn_eq0 (by omega)] at c
      rw [zn_le0 (by omega)] at c2
      omega
    · have hz : ynm σ.2.2.2.1 (f + 1) p v d = (v, p, d) := if_neg e
      rw [hz]
      by_cases e2 : 48 ≤ ysg σ.2.2.2.1 p ∧ ysg σ.2.2.2.1 p ≤ 57
      · rw [i57.mpr e2] at hdg
        refine ⟨M, t_X8_numberRead_20 _ _ _ ⟨fun c => absurd c c3, fun _ => ⟨_, s1, 1, hdg, fun _ => rfl, fun _ => ⟨fun c => absurd ⟨Or.inl ?_, e2⟩ e, fun c => ⟨fun _ => rfl, fun c2 => absurd ⟨Or.inr ?_, e2⟩ e⟩⟩⟩⟩, h, zK.rf _ _⟩
        · exact (zn_eq0 (by omega)).mp c
        · rw [zn_le0 (by omega)] at c2
          omega
      · rw [show zbt 48 57 (yI (ysg σ.2.2.2.1 p)) = false by
          cases q : zbt 48 57 (yI (ysg σ.2.2.2.1 p)) with
          | false => rfl
          | true => exact absurd (i57.mp q) e2] at hdg
        exact ⟨M, t_X8_numberRead_20 _ _ _ ⟨fun c => absurd c c3, fun _ => ⟨_, s1, 0, hdg, fun _ => rfl, fun c => absurd rfl c⟩⟩, h, zK.rf _ _⟩
theorem s_X8_numberRead {p : Nat} (h : ycr M0 σ p M) : ∃ M', mq_C mq_X8_numberRead [.ref 70] M (some (.int (if (ynm σ.2.2.2.1 3 p 0 0).2.2 = 0 then -1 else nI (ynm σ.2.2.2.1 3 p 0 0).1)), M') ∧ ycr M0 σ (ynm σ.2.2.2.1 3 p 0 0).2.1 M' ∧ zK [70] M M' := by
  have hk := h.1.tk
  have h100 := hk.1
  have hp := h.2.2
  have s1 : mq_C mq_X8_signAt [.ref 70, .int (M.1 70 3)] M (some (.int (yI (ysg σ.2.2.2.1 p))), M) := by rw [h.2.1]; exact s_X8_signAt h.1 (by omega)
  have i57 : zbt 48 57 (yI (ysg σ.2.2.2.1 p)) = true ↔ 48 ≤ ysg σ.2.2.2.1 p ∧ ysg σ.2.2.2.1 p ≤ 57 := yI_in (a := 48) (b := 57) (ysg_ok hk p) (by decide) (by decide)
  have hdg := s_X8_isDigit M (yI (ysg σ.2.2.2.1 p))
  by_cases e2 : 48 ≤ ysg σ.2.2.2.1 p ∧ ysg σ.2.2.2.1 p ≤ 57
  · rw [i57.mpr e2] at hdg
    have hz : ynm σ.2.2.2.1 3 p 0 0 = ynm σ.2.2.2.1 2 (p + 1) (10 * 0 + ysg σ.2.2.2.1 p - 48) (0 + 1) := if_pos ⟨Or.inl rfl, e2⟩
    have hl : p < σ.2.2.2.1.1 := ysg_lt rfl (by omega)
    obtain ⟨-, -, n3, -, -⟩ := ynm_ok (t := σ.2.2.2.1) 2 (p + 1) (10 * 0 + ysg σ.2.2.2.1 p - 48) (0 + 1) (by omega) (by omega) rfl
    obtain ⟨M', k1, k2, k3⟩ := s_X8_numberRead_20 3 p 0 0 M h (by decide) rfl
    rw [if_neg (by rw [hz]; omega)]
    exact ⟨M', t_X8_numberRead_0 _ ⟨_, s1, 1, hdg, fun _ => k1, fun c => absurd z10 c⟩, k2, k3⟩
  · rw [show zbt 48 57 (yI (ysg σ.2.2.2.1 p)) = false by
      cases q : zbt 48 57 (yI (ysg σ.2.2.2.1 p)) with
      | false => rfl
      | true => exact absurd (i57.mp q) e2] at hdg
    have hz : ynm σ.2.2.2.1 3 p 0 0 = (0, p, 0) := if_neg (fun q => e2 q.2)
    rw [hz]
    exact ⟨M, t_X8_numberRead_0 _ ⟨_, s1, 0, hdg, fun c => absurd rfl c, fun _ => rfl⟩, h, zK.rf _ _⟩
theorem s_X8_elementsRead_8 : ∀ (f i p : Nat) (e : Nat → Nat) (M : mz_M), i + f = σ.1.2.1 → ycr M0 σ p M → zrow M 75 i e → (∀ k, k < i → e k < 2 ^ σ.1.2.1) →
    ∃ M', (∀ o5 : Option Value, mq_G mq_X8_elementsRead (8, [some (.ref 70), some (.ref 75), some (.int (nI σ.1.2.1)), some (.int (nI (2 ^ σ.1.2.1))), some (.int (nI i)), o5], [], M) (some (.int (match (yre σ.2.2.2.1 σ.1.2.1 f i p e).1 with
      | some _ => 0
      | none => (-21) - nI (yre σ.2.2.2.1 σ.1.2.1 f i p e).2)), M')) ∧ zC M0 σ M' ∧ (∀ e', (yre σ.2.2.2.1 σ.1.2.1 f i p e).1 = some e' → zrow M' 75 σ.1.2.1 e' ∧ ∀ k, k < σ.1.2.1 → e' k < 2 ^ σ.1.2.1) ∧ ((yre σ.2.2.2.1 σ.1.2.1 f i p e).1 = none → (yre σ.2.2.2.1 σ.1.2.1 f i p e).2 ≤ σ.2.2.2.1.1)
  | 0, i, p, e, M, hi, h, hr, he => by
    have h8 := h.1.g.2.1
    have h100 := h.1.tk.1
    have hp := h.2.2
    obtain rfl : i = σ.1.2.1 := by omega
    have epos : M.1 70 3 = M.1 70 2 ↔ p = σ.2.2.2.1.1 := by rw [h.2.1, h.len, zn_eq (by omega) (by omega)]
    have cle : nI σ.1.2.1 ≤ nI σ.1.2.1 := Int32.le_refl _
    unfold yre
    by_cases ep : p = σ.2.2.2.1.1
    · rw [if_pos ep]
      refine ⟨M, fun o5 => t_X8_elementsRead_8 _ _ _ _ _ _ ⟨fun _ => ⟨fun c => absurd (epos.mpr ep) c, fun _ => rfl⟩, fun c => absurd cle c⟩, h.1, fun e' z => ?_, fun z => (by cases z)⟩
      cases z
      exact ⟨hr, he⟩
    · rw [if_neg ep]
      exact ⟨M, fun o5 => t_X8_elementsRead_8 _ _ _ _ _ _ ⟨fun _ => ⟨fun _ => by rw [h.2.1], fun c => absurd (fun z => ep (epos.mp z)) c⟩, fun c => absurd cle c⟩, h.1, fun e' z => (by cases z), fun _ => hp⟩
  | f + 1, i, p, e, M, hi, h, hr, he => by
    have h8 := h.1.g.2.1
    have hq := h.1.q
    have hk := h.1.tk
    have h100 := hk.1
    have hp := h.2.2
    have cle : ¬ nI σ.1.2.1 ≤ nI i := by
      rw [zn_le (by omega) (by omega)]
      omega
    have i0 : nI i ≤ 0 ↔ i = 0 := zn_le0 (by omega)
    have s1 : mq_C mq_X8_signAt [.ref 70, .int (M.1 70 3)] M (some (.int (yI (ysg σ.2.2.2.1 p))), M) := by rw [h.2.1]; exact s_X8_signAt h.1 (by omega)
    have r44 : yI (ysg σ.2.2.2.1 p) = 44 ↔ ysg σ.2.2.2.1 p = 44 := yI_eq (c := 44) (ysg_ok hk p) (by decide)
    have hy : yre σ.2.2.2.1 σ.1.2.1 (f + 1) i p e = if 0 < i ∧ ysg σ.2.2.2.1 p ≠ 44 then (none, p) else (if (ynm σ.2.2.2.1 3 (if 0 < i then p + 1 else p) 0 0).2.2 = 0 then (none, (ynm σ.2.2.2.1 3 (if 0 < i then p + 1 else p) 0 0).2.1) else if (ynm σ.2.2.2.1 3 (if 0 < i then p + 1 else p) 0 0).1 < 2 ^ σ.1.2.1 then yre σ.2.2.2.1 σ.1.2.1 f (i + 1) (ynm σ.2.2.2.1 3 (if 0 < i then p + 1 else p) 0 0).2.1 (fun k => if k = i then (ynm σ.2.2.2.1 3 (if 0 < i then p + 1 else p) 0 0).1 else e k) else (none, (ynm σ.2.2.2.1 3 (if 0 < i then p + 1 else p) 0 0).2.1 - 1)) := rfl
    by_cases e1 : 0 < i ∧ ysg σ.2.2.2.1 p ≠ 44
    · rw [hy, if_pos e1]
      refine ⟨M, fun o5 => t_X8_elementsRead_8 _ _ _ _ _ _ ⟨fun c => absurd c cle, fun _ => ⟨fun c => ?_, fun _ => ⟨_, s1, fun c => absurd (r44.mp c) e1.2, fun _ => by rw [h.2.1]⟩⟩⟩, h.1, fun e' z => (by cases z), fun _ => hp⟩
      rw [i0] at c
      omega
    · rw [hy, if_neg e1]
      have atn : ∃ N, ycr M0 σ (if 0 < i then p + 1 else p) N ∧ zK [70] M N ∧ ∀ {res : mz_O} (o5 : Option Value), (∃ (r13 : Int32) (M13 : mz_M), (mq_C mq_X8_numberRead [.ref 70] N (some (.int r13), M13)) ∧ ((¬ r13 = (-1) → ((r13 < nI (2 ^ σ.1.2.1) → (mz_nth mq_sk 75 = some (.inl (0, 8, []))) ∧ (vp_in (nI i) 8) ∧ (∀ M16 : mz_M, M16 = mz_wr M13 75 (upd (M13.1 75) (nI i).toNatClampNeg r13) → mq_G mq_X8_elementsRead (8, [some (.ref 70), some (.ref 75), some (.int (nI σ.1.2.1)), some (.int (nI (2 ^ σ.1.2.1))), some (.int (nI i + 1)), some (.int r13)], [], M16) res)) ∧ (¬ (r13 < nI (2 ^ σ.1.2.1)) → res = (some (.int ((-21) - ((M13.1 70 3) - 1))), M13)))) ∧ (¬ (¬ r13 = (-1)) → res = (some (.int ((-21) - (M13.1 70 3))), M13)))) → mq_G mq_X8_elementsRead (8, [some (.ref 70), some (.ref 75), some (.int (nI σ.1.2.1)), some (.int (nI (2 ^ σ.1.2.1))), some (.int (nI i)), o5], [], M) res := by
        by_cases ei : 0 < i
        · have hs44 : ysg σ.2.2.2.1 p = 44 := Classical.byContradiction (fun z => e1 ⟨ei, z⟩)
          have hl := ysg_lt hs44 (by decide)
          rw [if_pos ei]
          refine ⟨_, h.1.pos (p := p + 1) (by omega), zK.wr (by simp), fun o5 g => t_X8_elementsRead_8 _ _ _ _ _ _ ⟨fun c => absurd c cle, fun _ => ⟨fun c => ?_, fun _ => ⟨_, s1, fun _ N n => ?_, fun c => absurd (r44.mpr hs44) c⟩⟩⟩⟩
          · rw [i0] at c; omega
          · rw [h.2.1, nI_1] at n
            rw [n]
            exact g
        · rw [if_neg ei]
          exact ⟨M, h, zK.rf _ _, fun o5 g => t_X8_elementsRead_8 _ _ _ _ _ _ ⟨fun c => absurd c cle, fun _ => ⟨fun _ => g, fun c => absurd (i0.mpr (by omega)) c⟩⟩⟩
      obtain ⟨N, hN, hNk, gN⟩ := atn
      generalize (if 0 < i then p + 1 else p) = p1 at hN ⊢
      have hN1 := hN.2.2
      obtain ⟨n1, n2, n3, n4, n5⟩ := ynm_ok (t := σ.2.2.2.1) 3 p1 0 0 hN1 (by decide) rfl
      obtain ⟨M1, k1, k2, k3⟩ := s_X8_numberRead hN
      have e3 := k2.2.1
      by_cases d0 : (ynm σ.2.2.2.1 3 p1 0 0).2.2 = 0
      · rw [if_pos d0]
        rw [if_pos d0] at k1
        exact ⟨M1, fun o5 => gN o5 ⟨_, M1, k1, fun c => absurd rfl c, fun _ => by rw [e3]⟩, k2.1, fun e' z => (by cases z), fun _ => n2⟩
      · rw [if_neg d0]
        rw [if_neg d0] at k1
        by_cases dl : (ynm σ.2.2.2.1 3 p1 0 0).1 < 2 ^ σ.1.2.1
        · rw [if_pos dl]
          obtain ⟨M2, e2⟩ : ∃ y, y = mz_wr M1 75 (upd (M1.1 75) i (nI (ynm σ.2.2.2.1 3 p1 0 0).1)) := ⟨_, rfl⟩
          have hk2 : zK [75] M1 M2 := by rw [e2]; exact zK.wr (by simp)
          have hr2 : zrow M2 75 (i + 1) (fun k => if k = i then (ynm σ.2.2.2.1 3 p1 0 0).1 else e k) := by
            intro j hj
            show M2.1 75 j = nI (if j = i then (ynm σ.2.2.2.1 3 p1 0 0).1 else e j)
            rw [e2, zwr_s]
            by_cases ej : j = i
            · rw [ej, zupd_s, if_pos rfl]
            · rw [zupd_n ej, k3.2 75 (by decide), hNk.2 75 (by decide), if_neg ej]
              exact hr j (by omega)
          obtain ⟨M', g1, g2⟩ := s_X8_elementsRead_8 f (i + 1) _ (fun k => if k = i then (ynm σ.2.2.2.1 3 p1 0 0).1 else e k) M2 (by omega) (k2.k hk2 (by simp)) hr2 (fun k hk => by
            by_cases ej : k = i
            · rw [if_pos ej]; exact dl
            · rw [if_neg ej]; exact he k (by omega))
          refine ⟨M', fun o5 => gN o5 ⟨_, M1, k1, fun _ => ⟨fun _ => ⟨zar75, zn_in (by omega) (by decide), fun N2 m2 => ?_⟩, fun c => absurd ?_ c⟩, fun c => absurd (ym1 (by omega)) c⟩, g2⟩
          · rw [zn_cl (by omega), ← e2] at m2
            rw [m2, nI_1]
            exact g1 _
          · rw [zn_lt (by omega) (by omega)]
            exact dl
        · rw [if_neg dl]
          refine ⟨M1, fun o5 => gN o5 ⟨_, M1, k1, fun _ => ⟨fun c => absurd ?_ dl, fun _ => by rw [e3, zs1 (by omega)]⟩, fun c => absurd (ym1 (by omega)) c⟩, k2.1, fun e' z => (by cases z), fun _ => by show _ - 1 ≤ σ.2.2.2.1.1; omega⟩
          rw [zn_lt (by omega) (by omega)] at c
          exact c
theorem c_X9_base_88 {e : Nat → Nat} (h : zC M0 σ M) (hr : zrow M 75 σ.1.2.1 e) (he : ∀ k, k < σ.1.2.1 → e k < 2 ^ σ.1.2.1) (o1 : Option Value) : ∀ (f i : Nat) (o2 : Option Value), i + f = σ.1.2.1 → mq_G mq_X9_base (88, [some (.ref 0), o1, o2, some (.int (nI (zs (fun k => zpop 10 (e k)) i))), some (.int (nI i))], [], M) (some (.int (nI (zs (fun k => zpop 10 (e k)) σ.1.2.1))), M)
  | 0, i, o2, hi => by
    have h8 := h.g.2.1
    obtain rfl : i = σ.1.2.1 := by omega
    refine t_X9_base_88 _ _ _ _ _ ⟨fun _ => rfl, fun c => absurd ?_ c⟩
    rw [h.m1]
    exact Int32.le_refl _
  | f + 1, i, o2, hi => by
    have h8 := h.g.2.1
    refine t_X9_base_88 _ _ _ _ _ ⟨fun c => ?_, fun _ => ⟨zn_in (by omega) (by decide), nI (zpop 10 (e i)), ?_, ?_⟩⟩
    · rw [h.m1, zn_le (by omega) (by omega)] at c
      omega
    · rw [zn_cl (by omega), hr i (by omega)]
      exact s_bitCount M (z256 h8 (he i (by omega)))
    · rw [nI_add, nI_1]
      exact c_X9_base_88 h hr he o1 f (i + 1) _ (by omega)
theorem c_X9_base (h : zC M0 σ M) (x : Int32) : zE M0 mq_X9_base [.ref 0, .int x] M (k_base σ x) := by
  have h8 := h.g.2.1
  have h100 := h.tk.1
  obtain ⟨M1, g1, g2, g3, g4⟩ := s_X8_elementsRead_8 σ.1.2.1 0 0 (fun _ => 0) _ (Nat.zero_add _) (h.pos (p := 0) (Nat.zero_le _)) (fun j hj => absurd hj (Nat.not_lt_zero j)) (fun j hj => absurd hj (Nat.not_lt_zero j))
  obtain ⟨M2, f1, f2, f3⟩ := s_cemptyT g2
  have rd : mq_C mq_X8_elementsRead [.ref 70, .ref 75, .int (M.1 2 1), .int (M.1 2 2)] M (some (.int (match (yre σ.2.2.2.1 σ.1.2.1 σ.1.2.1 0 0 (fun _ => 0)).1 with
    | some _ => 0
    | none => (-21) - nI (yre σ.2.2.2.1 σ.1.2.1 σ.1.2.1 0 0 (fun _ => 0)).2)), M1) := by
    rw [h.m1, h.m2]
    exact t_X8_elementsRead_0 _ _ _ _ (fun N n1 => by rw [n1]; exact g1 none)
  unfold zE k_base
  generalize yre σ.2.2.2.1 σ.1.2.1 σ.1.2.1 0 0 (fun _ => 0) = r at rd g3 g4 ⊢
  obtain ⟨r1, q⟩ := r
  cases r1 with
  | none =>
    have hq : q ≤ σ.2.2.2.1.1 := g4 rfl
    have rd : mq_C mq_X8_elementsRead [.ref 70, .ref 75, .int (M.1 2 1), .int (M.1 2 2)] M (some (.int ((-21) - nI q)), M1) := rd
    dsimp only
    refine ⟨M2, t_X9_base_0 _ _ ⟨_, M1, rd, M2, f1, fun c => absurd c ?_, fun _ => rfl⟩, f2⟩
    have : ∀ q, q < 101 → ¬ (0 : Int32) ≤ (-21) - nI q := by decide +kernel
    exact this q (by omega)
  | some e =>
    obtain ⟨hr, he⟩ := g3 e rfl
    have rd : mq_C mq_X8_elementsRead [.ref 70, .ref 75, .int (M.1 2 1), .int (M.1 2 2)] M (some (.int 0), M1) := rd
    dsimp only
    have hr2 := hr.e (f3 75 (by decide))
    have m2 : M2.1 2 1 = nI σ.1.2.1 := f2.m1
    unfold k_base1
    by_cases g0 : zel 4 x = true
    · rw [if_pos g0]
      obtain ⟨s, hs, rfl⟩ := zsln g0
      obtain ⟨M6, l1, l2, l3⟩ := s_X1_holds h8 zar75 (by decide) (fun j hj => z256 h8 (he j hj)) hr2
      have h6 := f2.k l2 (by decide)
      by_cases g5 : zind e σ.1.2.1 = true
      · rw [if_pos (show zind e (ztx σ (0, σ.2.2.2.1.2)).1.2.1 = true from g5), zu_nI (by omega)]
        rw [g5] at l1
        have hr6 := hr2.k l2 (by decide)
        obtain ⟨M8, a1, a2, a3⟩ := s_X9_setsSlot h6 hs (show zbas (ztx σ (0, σ.2.2.2.1.2)).1.2.1 e from ⟨zind_iff.mp g5, he⟩) hr6
        exact ⟨M8, t_X9_base_0 _ _ ⟨_, M1, rd, M2, f1, fun _ => ⟨1, zCs1 _ g0, fun _ => ⟨1, M6, by rw [m2]; exact l1, fun _ => ⟨_, M8, a1, c_X9_base_88 a2 (hr6.e a3) he _ σ.1.2.1 0 _ (Nat.zero_add _)⟩, fun c => absurd z10 c⟩, fun c => absurd z10 c⟩, fun c => absurd (Int32.le_refl _) c⟩, a2⟩
      · rw [if_neg (show ¬ zind e (ztx σ (0, σ.2.2.2.1.2)).1.2.1 = true from g5)]
        rw [show zind e σ.1.2.1 = false by simpa using g5] at l1
        exact ⟨M6, t_X9_base_0 _ _ ⟨_, M1, rd, M2, f1, fun _ => ⟨1, zCs1 _ g0, fun _ => ⟨0, M6, by rw [m2]; exact l1, fun c => absurd rfl c, fun _ => rfl⟩, fun c => absurd z10 c⟩, fun c => absurd (Int32.le_refl _) c⟩, h6⟩
    · rw [if_neg g0]
      exact ⟨M2, t_X9_base_0 _ _ ⟨_, M1, rd, M2, f1, fun _ => ⟨0, zCs0 _ g0, fun c => absurd rfl c, fun _ => rfl⟩, fun c => absurd (Int32.le_refl _) c⟩, f2⟩
/-! deeds undone -/
theorem c_X9_undo (h : zC M0 σ M) : zE M0 mq_X9_undo [.ref 0] M (k_undo σ) := by
  obtain ⟨h0, a1, a2, a3, a4, a5, a6, a7⟩ := h
  unfold zE k_undo
  by_cases e : σ.2.2.1.1 = 0
  · rw [if_pos e]
    exact ⟨M, t_X9_undo_0 _ ⟨0, M, s_X3_restores0 a5 e, fun c => absurd rfl c, fun _ => rfl⟩, h0, a1, a2, a3, a4, a5, a6, a7⟩
  · rw [if_neg e]
    obtain ⟨M1, g1, g2, g3, g4, g5, g6⟩ := s_X3_restores ycs8 (by decide) a5 (by omega)
    have fo : ∀ c, ¬ c = 20 → ¬ c = 8 → ¬ (10 ≤ c ∧ c < 14) → M1.1 c = M.1 c := fun c h1 h2 h3 => g3 c h1 h2 (by omega)
    have F1 := a2.e (fo 2 (by decide) (by decide) (by decide)) (fo 3 (by decide) (by decide) (by decide)) (fo 4 (by decide) (by decide) (by decide))
    obtain ⟨M3, k1, k2, k3⟩ := s_X9_followsState g4 F1 g5.1
    have fk : ∀ c, ¬ c = 2 → ¬ c = 3 → ¬ c = 4 → M3.1 c = M1.1 c := fun c h1 h2 h3 => k2.2 c (by simp; omega)
    have p3 : zCp (σ.2.2.1.1 - 1, σ.2.2.1.2) M3 := g6.e (fun b h1 h2 => fk b (by omega) (by omega) (by omega))
    refine ⟨M3, t_X9_undo_0 _ ⟨1, M1, g1, fun _ => ⟨M3, k1, by rw [show M3.1 20 2 = nI (σ.2.2.1.1 - 1) from p3.2.1]⟩, fun c => absurd z10 c⟩, h0.tr (fun c hc => ⟨by rw [fk c (by omega) (by omega) (by omega), fo c (by omega) (by omega) (by omega)], by rw [k2.1, g2]⟩), g4, k3, g5.e (fun b hb => fk b (by omega) (by omega) (by omega)), a4.e (by rw [fk 0 (by decide) (by decide) (by decide), fo 0 (by decide) (by decide) (by decide)]) (fun b h1 h2 => by rw [fk b (by omega) (by omega) (by omega), fo b (by omega) (by omega) (by omega)]), p3, a6.e (by rw [fk 70 (by decide) (by decide) (by decide), fo 70 (by decide) (by decide) (by decide)]) (by rw [fk 71 (by decide) (by decide) (by decide), fo 71 (by decide) (by decide) (by decide)]), a7.e (by rw [fk 73 (by decide) (by decide) (by decide), fo 73 (by decide) (by decide) (by decide)]) (by rw [k2.1, g2])⟩
theorem c_X9_keeps (h : zC M0 σ M) : zE M0 mq_X9_keeps [.ref 0] M (k_keeps σ) := by
  obtain ⟨h0, a1, a2, a3, a4, a5, a6, a7⟩ := h
  obtain ⟨M1, g1, g2, g3⟩ := s_X7_becomes ycs8 ycs14 (Or.inl (by decide)) a1.1.2.1 a3
  obtain ⟨M2, e2⟩ : ∃ y, y = mz_wr M1 0 (upd (M1.1 0) 10 1) := ⟨_, rfl⟩
  have fo : ∀ c, ¬ c = 0 → ¬ c = 14 → ¬ (16 ≤ c ∧ c < 20) → M2.1 c = M.1 c := fun c h1 h2 h3 => by rw [e2, zwr_n h1, g2.2 c h2 (by omega)]
  have m2 : M2.1 2 1 = nI σ.1.2.1 := by rw [fo 2 (by decide) (by decide) (by decide)]; exact a2.m1
  refine ⟨M2, t_X9_keeps_0 _ ⟨M1, g1, Or.inr rfl, fun N n2 => ?_⟩, h0.tr (fun c hc => ⟨fo c (by omega) (by omega) (by omega), by rw [e2, zwr_2, g2.1]⟩), a1, a2.e (fo 2 (by decide) (by decide) (by decide)) (fo 3 (by decide) (by decide) (by decide)) (fo 4 (by decide) (by decide) (by decide)), a3.e (fun b hb => fo b (by omega) (by omega) (by omega)), ⟨by rw [e2, zwr_s, zupd_s], a1, g3.e (fun b hb => by rw [e2, zwr_n (by omega)])⟩, a5.e (fun b h1 h2 => fo b (by omega) (by omega) (by omega)), a6.e (by rw [fo 70 (by decide) (by decide) (by decide)]) (fo 71 (by decide) (by decide) (by decide)), a7.e (fo 73 (by decide) (by decide) (by decide)) (by rw [e2, zwr_2, g2.1])⟩
  rw [← e2] at n2
  rw [n2, m2]
  rfl
theorem c_X9_back (h : zC M0 σ M) : zE M0 mq_X9_back [.ref 0] M (k_back σ) := by
  obtain ⟨st, K, p, tx, r⟩ := σ
  obtain ⟨h0, a1, a2, a3, a4, a5, a6, a7⟩ := h
  cases K with
  | none =>
    refine ⟨M, t_X9_back_0 _ ⟨fun c => absurd a4 c, fun _ => rfl⟩, h0, a1, a2, a3, a4, a5, a6, a7⟩
  | some a =>
    have a4 : M.1 0 10 = 1 ∧ zok a ∧ zCs a 14 M := a4
    obtain ⟨M2, g1, g2, g3⟩ := s_X3_remembers ycs8 (by decide) a1 a3 a5
    have k14 : zCs a 14 M2 := a4.2.2.e (fun b hb => g2.2 b (by omega))
    obtain ⟨M3, f1, f2, f3⟩ := s_X7_becomes ycs14 ycs8 (Or.inr (by decide)) a4.2.1.1.2.1 k14
    have fo : ∀ c, (c < 20 ∨ 70 ≤ c) → ¬ c = 8 → ¬ (10 ≤ c ∧ c < 14) → M3.1 c = M.1 c := fun c h1 h2 h3 => by rw [f2.2 c h2 (by omega), g2.2 c h1]
    have F3 := a2.e (fo 2 (by decide) (by decide) (by decide)) (fo 3 (by decide) (by decide) (by decide)) (fo 4 (by decide) (by decide) (by decide))
    obtain ⟨M4, k1, k2, k3⟩ := s_X9_followsState a4.2.1 F3 f3.1
    have fk : ∀ c, ¬ c = 2 → ¬ c = 3 → ¬ c = 4 → M4.1 c = M3.1 c := fun c h1 h2 h3 => k2.2 c (by simp; omega)
    have l2 : M4.2 = M.2 := by rw [k2.1, f2.1, g2.1]
    refine ⟨M4, t_X9_back_0 _ ⟨fun _ => ⟨M2, g1, M3, f1, M4, k1, by rw [k3.m1]; rfl⟩, fun c => absurd (by rw [a4.1]; decide) c⟩, h0.tr (fun c hc => ⟨by rw [fk c (by omega) (by omega) (by omega), fo c (by omega) (by omega) (by omega)], by rw [l2]⟩), a4.2.1, k3, f3.e (fun b hb => fk b (by omega) (by omega) (by omega)), ⟨by rw [fk 0 (by decide) (by decide) (by decide), fo 0 (by decide) (by decide) (by decide)]; exact a4.1, a4.2.1, a4.2.2.e (fun b hb => by rw [fk b (by omega) (by omega) (by omega), fo b (by omega) (by omega) (by omega)])⟩, zCp.e g3 (fun b h1 h2 => by rw [fk b (by omega) (by omega) (by omega), f2.2 b (by omega) (by omega)]), a6.e (by rw [fk 70 (by decide) (by decide) (by decide), fo 70 (by decide) (by decide) (by decide)]) (by rw [fk 71 (by decide) (by decide) (by decide), fo 71 (by decide) (by decide) (by decide)]), a7.e (by rw [fk 73 (by decide) (by decide) (by decide), fo 73 (by decide) (by decide) (by decide)]) (by rw [l2])⟩
/-! POLY written -/
def ylp (l : List Nat) (M : mz_M) : Prop := ∀ j, j < l.length → M.1 72 j = nI (l.getD j 0)
theorem s_X8_puts {l : List Nat} {c : Nat} (h : zC M0 σ M) (hp : ylp l M) (hl : l.length < 32) : ∃ M', mq_C mq_X8_puts [.ref 70, .int (nI l.length), .int (nI c)] M (some (.int (nI (l.length + 1))), M') ∧ zC M0 σ M' ∧ ylp (l ++ [c]) M' := by
  have hk : zK [72] M (mz_wr M 72 (upd (M.1 72) l.length (nI c))) := zK.wr (by simp)
  refine ⟨_, t_X8_puts_0 _ _ _ ⟨fun q => absurd q (nI_pos (by omega)), fun _ => ⟨fun _ => ⟨zn_in hl (by decide), fun N n3 => by rw [zn_cl (by omega)] at n3; rw [n3, nI_1]⟩, fun q => absurd ?_ q⟩⟩, h.k hk (by decide), fun j hj => ?_⟩
  · rw [show Int32.ofNat 32 = nI 32 from rfl, zn_lt (by omega) (by decide)]
    exact hl
  · rw [List.length_append, List.length_singleton] at hj
    rw [zwr_s]
    by_cases e : j = l.length
    · rw [e, zupd_s, zget_at]
    · rw [zupd_n e, zget_lo (by omega)]
      exact hp j (by omega)
theorem c_X9_written_6 (x : Int32) : ∀ (d : Nat) (l : List Nat) (M : mz_M), zC M0 σ M → ylp l M → l.length + 3 * d ≤ 32 → d ≤ 9 → ∃ M', mq_G mq_X8_signOf (6, [some (.ref 70), some (.int (nI σ.1.1)), some (.int x), some (.int (nI l.length)), some (.int (nI d + (-1)))], [], M) (some (.int (yans (ywr σ.1.1 d l) x)), M') ∧ zC M0 σ M'
  | 0, l, M, h, hp, hl, hd => by
    have go : ∀ {o0 o1 o2 o3 o4 : Option Value}, ¬ x = -1 → ¬ zel l.length x = true → mq_G mq_X8_signOf (98, [o0, o1, o2, o3, o4], [], M) (some (.int (yans (ywr σ.1.1 0 l) x)), M) := by
      intro o0 o1 o2 o3 o4 q1 q2
      refine t_X8_signOf_98 _ _ _ _ _ _ (t_X8_signOf_99 _ _ _ _ _ _ _ ?_)
      unfold ywr yans
      rw [if_neg q1, if_neg q2]
    refine ⟨M, t_X8_signOf_6 _ _ _ _ _ ⟨fun _ => ⟨fun c => ⟨fun d => go c (fun q => ?_), fun d => ⟨fun e => go c (fun q => ?_), fun e => ?_⟩⟩, fun c => ?_⟩, fun c => absurd (by decide +kernel) c⟩, h⟩
    · exact absurd (of_decide_eq_true q).1 (Int32.not_le.mpr d)
    · exact absurd (of_decide_eq_true q).2 (Int32.not_lt.mpr e)
    · have q : zel l.length x = true := decide_eq_true ⟨Int32.not_lt.mp d, Int32.not_le.mp e⟩
      obtain ⟨j, hj, rfl⟩ := (zel_iff (by omega)).mp q
      refine ⟨zn_in (by omega) (by decide), t_X8_signOf_99 _ _ _ _ _ _ _ ?_⟩
      unfold ywr yans
      rw [if_neg c, if_pos q, zn_cl (by omega), zu_nI (by omega), hp j hj]
    · unfold ywr yans
      rw [if_pos (Classical.not_not.mp c)]
  | d + 1, l, M, h, hp, hl, hd => by
    have hP : σ.1.1 < 2 ^ 31 := Nat.lt_of_lt_of_le h.g.2.2.2.1 (Nat.pow_le_pow_right (by decide) (by have := h.g.2.1; omega))
    rw [zn_m1]
    unfold ywr
    have cd : ¬ nI d < 0 := nI_pos (by omega)
    by_cases hb : σ.1.1.testBit d = true
    · rw [if_pos hb]
      have hb1 : ¬ ((nI σ.1.1 >>> (nI d &&& 31)) &&& 1) = 0 := by
        rw [zn_bit0 hP (by omega)]
        rw [Nat.testBit_eq_decide_div_mod_eq] at hb
        have := of_decide_eq_true hb
        omega
      have plus : ∃ (l1 : List Nat) (M9 : mz_M), l1 = (if l = [] then l else l ++ [43]) ∧ zC M0 σ M9 ∧ ylp l1 M9 ∧ ∀ res, mq_G mq_X8_signOf (32, [some (.ref 70), some (.int (nI σ.1.1)), some (.int x), some (.int (nI l1.length)), some (.int (nI d))], [], M9) res → mq_G mq_X8_signOf (6, [some (.ref 70), some (.int (nI σ.1.1)), some (.int x), some (.int (nI l.length)), some (.int (nI d))], [], M) res := by
        by_cases e : l = []
        · subst e
          exact ⟨[], M, by rw [if_pos rfl], h, hp, fun res g => t_X8_signOf_6 _ _ _ _ _ ⟨fun c => absurd c cd, fun _ => ⟨fun c => absurd c hb1, fun _ => ⟨fun _ => g, fun c => absurd (Int32.le_refl _) c⟩⟩⟩⟩
        · have hl0 : 0 < l.length := List.length_pos_iff.mpr e
          obtain ⟨M9, k1, k2, k3⟩ := s_X8_puts (c := 43) h hp (by omega)
          refine ⟨l ++ [43], M9, by rw [if_neg e], k2, k3, fun res g => t_X8_signOf_6 _ _ _ _ _ ⟨fun c => absurd c cd, fun _ => ⟨fun c => absurd c hb1, fun _ => ⟨fun c => ?_, fun _ => ⟨_, M9, k1, ?_⟩⟩⟩⟩⟩
          · rw [zn_le0 (by omega)] at c
            omega
          · rw [List.length_append, List.length_singleton] at g
            exact g
      obtain ⟨l1, M9, hl1, h9, p9, g9⟩ := plus
      have hl1n : l1.length ≤ l.length + 1 := by
        rw [hl1]
        split
        · omega
        · rw [List.length_append, List.length_singleton]; omega
      have hc : ywc d l = l1 ++ (if d = 0 then [49] else if d = 1 then [120] else [120, 48 + d]) := by rw [hl1]; rfl
      have hcl := ywc_len d l
      by_cases d0 : d = 0
      · rw [if_pos d0] at hc
        obtain ⟨M1, k1, k2, k3⟩ := s_X8_puts (c := 49) h9 p9 (by omega)
        rw [← hc] at k3
        obtain ⟨M', r1, r2⟩ := c_X9_written_6 x d (ywc d l) M1 k2 k3 (by omega) (by omega)
        have hlen : (ywc d l).length = l1.length + 1 := by rw [hc, List.length_append, List.length_singleton]
        rw [hlen] at r1
        refine ⟨M', g9 _ (t_X8_signOf_32 _ _ _ _ _ ⟨fun c => absurd (by rw [d0]; rfl) c, fun _ => t_X8_signOf_46 _ _ _ _ _ _ _ ⟨_, M1, k1, fun _ => t_X8_signOf_67 _ _ _ _ _ r1, fun c => absurd ?_ c⟩⟩), r2⟩
        rw [d0]; decide
      · rw [if_neg d0] at hc
        obtain ⟨M1, k1, k2, k3⟩ := s_X8_puts (c := 120) h9 p9 (by omega)
        have c0 : ¬ nI d = 0 := by rw [zn_eq0 (by omega)]; exact d0
        by_cases d1 : d = 1
        · rw [if_pos d1] at hc
          rw [← hc] at k3
          obtain ⟨M', r1, r2⟩ := c_X9_written_6 x d (ywc d l) M1 k2 k3 (by omega) (by omega)
          have hlen : (ywc d l).length = l1.length + 1 := by rw [hc, List.length_append, List.length_singleton]
          rw [hlen] at r1
          refine ⟨M', g9 _ (t_X8_signOf_32 _ _ _ _ _ ⟨fun _ => t_X8_signOf_46 _ _ _ _ _ _ _ ⟨_, M1, k1, fun _ => t_X8_signOf_67 _ _ _ _ _ r1, fun c => absurd ?_ c⟩, fun c => absurd c0 c⟩), r2⟩
          rw [d1]; decide
        · rw [if_neg d1] at hc
          have hlen2 : (l1 ++ [120]).length = l1.length + 1 := by rw [List.length_append, List.length_singleton]
          obtain ⟨M3, j1, j2, j3⟩ := s_X8_puts (c := 48 + d) k2 k3 (by omega)
          rw [List.append_assoc, show [120] ++ [48 + d] = [120, 48 + d] from rfl, ← hc] at j3
          rw [hlen2] at j1
          obtain ⟨M', r1, r2⟩ := c_X9_written_6 x d (ywc d l) M3 j2 j3 (by omega) (by omega)
          have hlen : (ywc d l).length = l1.length + 1 + 1 := by rw [hc, List.length_append]; rfl
          rw [hlen] at r1
          refine ⟨M', g9 _ (t_X8_signOf_32 _ _ _ _ _ ⟨fun _ => t_X8_signOf_46 _ _ _ _ _ _ _ ⟨_, M1, k1, fun c => ?_, fun _ => ⟨_, M3, by rw [show (48 : Int32) + nI d = nI (48 + d) from nI_add 48 d]; exact j1, t_X8_signOf_67 _ _ _ _ _ r1⟩⟩, fun c => absurd c0 c⟩), r2⟩
          rw [show (1 : Int32) = nI 1 from rfl, zn_le (by omega) (by decide)] at c
          omega
    · rw [if_neg hb]
      have hb1 : ((nI σ.1.1 >>> (nI d &&& 31)) &&& 1) = 0 := by
        rw [zn_bit0 hP (by omega)]
        rw [Nat.testBit_eq_decide_div_mod_eq] at hb
        have h3 : ¬ σ.1.1 / 2 ^ d % 2 = 1 := fun q => hb (decide_eq_true q)
        omega
      obtain ⟨M', r1, r2⟩ := c_X9_written_6 x d l M h hp (by omega) (by omega)
      exact ⟨M', t_X8_signOf_6 _ _ _ _ _ ⟨fun c => absurd c cd, fun _ => ⟨fun _ => t_X8_signOf_67 _ _ _ _ _ r1, fun c => absurd hb1 c⟩⟩, r2⟩
theorem c_X9_written (h : zC M0 σ M) (x : Int32) : zE M0 mq_X9_written [.ref 0, .int x] M (k_written σ x) := by
  have e8 : M.1 8 0 = nI σ.1.1 := h.2.2.2.1.1
  obtain ⟨M', r1, r2⟩ := c_X9_written_6 x 9 [] M h (fun j hj => absurd hj (Nat.not_lt_zero j)) (by decide) (Nat.le_refl 9)
  exact ⟨M', t_X9_written_0 _ _ ⟨_, M', by rw [e8]; exact t_X8_signOf_0 _ _ _ r1, rfl⟩, r2⟩
/-! what is counted -/
theorem ypl_mono {v : Nat → Nat} : ∀ {n k : Nat}, ypl v (n + k) = true → ypl v n = true
  | n, 0, h => h
  | n, k + 1, h => by
    have h : (ypl v (n + k) && Nat.beq (v (n + k)) (2 ^ (n + k))) = true := h
    rw [Bool.and_eq_true] at h
    exact ypl_mono h.1
theorem s_X7_isPlain_2 (h : zC M0 σ M) {s : Nat} (hs : s < 4) : ∀ (f i : Nat), i + f = σ.1.2.1 → ypl (σ.1.2.2 s) i = true → mq_G mq_X7_isPlain (2, [some (.ref 8), some (.int (nI s)), some (.int (nI σ.1.2.1)), some (.int (nI i))], [], M) (some (.int (zB (ypl (σ.1.2.2 s) σ.1.2.1))), M)
  | 0, i, hi, ht => by
    have h8 := h.g.2.1
    obtain rfl : i = σ.1.2.1 := by omega
    exact t_X7_isPlain_2 _ _ _ _ _ ⟨fun _ => by rw [ht]; rfl, fun c => absurd (Int32.le_refl _) c⟩
  | f + 1, i, hi, ht => by
    have h8 := h.g.2.1
    have hv := z31 h8 ((h.b hs).2 i (by omega))
    have hp : 2 ^ i ≤ 256 := zq256 (show i ≤ 8 by omega)
    have hy : ypl (σ.1.2.2 s) (i + 1) = (ypl (σ.1.2.2 s) i && Nat.beq (σ.1.2.2 s i) (2 ^ i)) := rfl
    refine t_X7_isPlain_2 _ _ _ _ _ ⟨fun c => ?_, fun _ => ⟨9, ycs8.1, _, ycs8.2.1, zn_in (by omega) (by decide), rfl, by rw [zgd8 hs]; exact zar10 hs, zn_in (by omega) (by decide), fun c => ?_, fun c => ?_⟩⟩
    · rw [zn_le (by omega) (by omega)] at c
      omega
    · rw [zgd8 hs, zn_cl (by omega), h.s hs i (by omega), zone_shl (by omega), zn_eq hv (by omega)] at c
      rw [nI_1]
      exact s_X7_isPlain_2 h hs f (i + 1) (by omega) (by rw [hy, ht, c, Nat.beq_refl]; rfl)
    · rw [zgd8 hs, zn_cl (by omega), h.s hs i (by omega), zone_shl (by omega), zn_eq hv (by omega)] at c
      have hf : ypl (σ.1.2.2 s) σ.1.2.1 = false := by
        cases q : ypl (σ.1.2.2 s) σ.1.2.1 with
        | false => rfl
        | true =>
          have q2 : ypl (σ.1.2.2 s) (i + 1) = true := ypl_mono (k := f) (by rw [show i + 1 + f = σ.1.2.1 by omega]; exact q)
          rw [hy, Bool.and_eq_true] at q2
          exact absurd (Nat.eq_of_beq_eq_true q2.2) c
      rw [hf]
      rfl
theorem c_X9_normalSlots_4 (h : zC M0 σ M) : ∀ (f s : Nat), s + f = 4 → mq_G mq_X9_normalSlots (4, [some (.ref 0), some (.int (nI (yor (fun s => znb σ.1.1 σ.1.2.1 (σ.1.2.2 s)) s))), some (.int (nI s))], [], M) (some (.int (nI (yor (fun s => znb σ.1.1 σ.1.2.1 (σ.1.2.2 s)) 4))), M)
  | 0, s, hs => by
    obtain rfl : s = 4 := by omega
    exact t_X9_normalSlots_4 _ _ _ ⟨fun _ => rfl, fun c => absurd (by decide) c⟩
  | f + 1, s, hs => by
    have hs4 : s < 4 := by omega
    have h2 := h.g.1
    have l0 := z31 h.g.2.1 ((h.b hs4).2 0 (by omega))
    have ih := c_X9_normalSlots_4 h f (s + 1) (by omega)
    have hy : yor (fun s => znb σ.1.1 σ.1.2.1 (σ.1.2.2 s)) (s + 1) = yor (fun s => znb σ.1.1 σ.1.2.1 (σ.1.2.2 s)) s ||| (if znb σ.1.1 σ.1.2.1 (σ.1.2.2 s) = true then 2 ^ s else 0) := rfl
    rw [hy] at ih
    refine t_X9_normalSlots_4 _ _ _ ⟨fun c => ?_, fun _ => ⟨zn_in (by omega) (by decide), rfl, if znb σ.1.1 σ.1.2.1 (σ.1.2.2 s) = true then nI (σ.1.2.2 s 0) else -1, by rw [zgd8 hs4]; exact s_X2_whoseNormal h.F (h.b hs4).2 (zar10 hs4) (h.s hs4), fun c => ?_, fun c => ?_⟩⟩
    · rw [show (4 : Int32) = nI 4 from rfl, zn_le (by decide) (by omega)] at c
      omega
    · by_cases e : znb σ.1.1 σ.1.2.1 (σ.1.2.2 s) = true
      · rw [if_pos e] at ih
        rw [zone_shl (by omega), zn_or, nI_1]
        exact ih
      · rw [if_neg e] at c
        exact absurd rfl c
    · by_cases e : znb σ.1.1 σ.1.2.1 (σ.1.2.2 s) = true
      · rw [if_pos e] at c
        exact absurd (ym1 l0) c
      · rw [if_neg e, Nat.or_zero] at ih
        rw [zor00, nI_1]
        exact ih
theorem c_X9_plainSlots_4 (h : zC M0 σ M) : ∀ (f s : Nat), s + f = 4 → mq_G mq_X9_plainSlots (4, [some (.ref 0), some (.int (nI (yor (fun s => ypl (σ.1.2.2 s) σ.1.2.1) s))), some (.int (nI s))], [], M) (some (.int (nI (yor (fun s => ypl (σ.1.2.2 s) σ.1.2.1) 4))), M)
  | 0, s, hs => by
    obtain rfl : s = 4 := by omega
    exact t_X9_plainSlots_4 _ _ _ ⟨fun _ => rfl, fun c => absurd (by decide) c⟩
  | f + 1, s, hs => by
    have ih := c_X9_plainSlots_4 h f (s + 1) (by omega)
    have hy : yor (fun s => ypl (σ.1.2.2 s) σ.1.2.1) (s + 1) = yor (fun s => ypl (σ.1.2.2 s) σ.1.2.1) s ||| (if ypl (σ.1.2.2 s) σ.1.2.1 = true then 2 ^ s else 0) := rfl
    rw [hy] at ih
    refine t_X9_plainSlots_4 _ _ _ ⟨fun c => ?_, fun _ => ⟨_, by rw [h.m1]; exact t_X7_isPlain_0 _ _ _ _ (s_X7_isPlain_2 h (show s < 4 by omega) σ.1.2.1 0 (Nat.zero_add _) rfl), fun c => ?_, fun c => ?_⟩⟩
    · rw [show (4 : Int32) = nI 4 from rfl, zn_le (by decide) (by omega)] at c
      omega
    · rw [if_neg (by rw [zBv c]; decide), Nat.or_zero] at ih
      rw [zor00, nI_1]
      exact ih
    · rw [if_pos (zBn c)] at ih
      rw [zone_shl (by omega), zn_or, nI_1]
      exact ih
theorem c_X9_count (h : zC M0 σ M) (x : Int32) : zE M0 mq_X9_count [.ref 0, .int x] M (k_count σ x) := by
  have e20 : M.1 20 2 = nI σ.2.2.1.1 := h.2.2.2.2.2.1.2.1
  have e73 : M.1 73 1 = nI σ.2.2.2.2.1 := h.2.2.2.2.2.2.2.2.1
  have e70 : M.1 70 2 = nI σ.2.2.2.1.1 := h.2.2.2.2.2.2.1.2.1
  have e8 : M.1 8 0 = nI σ.1.1 := h.2.2.2.1.1
  refine ⟨M, t_X9_count_0 _ _ ⟨fun q => ?_, fun q => ?_, fun q => ?_, fun q => ?_, fun q => ?_, fun q => ?_, fun q => ⟨_, t_X9_normalSlots_0 _ (c_X9_normalSlots_4 h 4 0 rfl), ?_⟩, fun q => ⟨_, t_X9_plainSlots_0 _ (c_X9_plainSlots_4 h 4 0 rfl), ?_⟩⟩, h⟩
  all_goals unfold k_count; dsimp only
  · rw [if_neg (by omega), if_neg (by omega), if_neg (by omega), if_neg (by omega), if_neg (by omega), if_neg (by omega), if_neg (by omega)]
  · rw [if_pos q, h.m1]
  · rw [if_neg (by omega), if_pos q, e8]
  · rw [if_neg (by omega), if_neg (by omega), if_pos q, e20]
  · rw [if_neg (by omega), if_neg (by omega), if_neg (by omega), if_pos q, e73]
  · rw [if_neg (by omega), if_neg (by omega), if_neg (by omega), if_neg (by omega), if_pos q, e70]
  · rw [if_neg (by omega), if_neg (by omega), if_neg (by omega), if_neg (by omega), if_neg (by omega), if_pos q]
  · rw [if_neg (by omega), if_neg (by omega), if_neg (by omega), if_neg (by omega), if_neg (by omega), if_neg (by omega), if_pos q]
end CB
