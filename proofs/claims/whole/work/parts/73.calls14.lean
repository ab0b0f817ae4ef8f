/-! calls of the reference: a base read -/
theorem ynm_ok {t : Nat × (Nat → Nat)} : ∀ (f p v d : Nat), p ≤ t.1 → v < 10 ^ d → d + f = 3 → (ynm t f p v d).1 < 1000 ∧ (ynm t f p v d).2.1 ≤ t.1 ∧ d ≤ (ynm t f p v d).2.2 ∧ p ≤ (ynm t f p v d).2.1 ∧ (d < (ynm t f p v d).2.2 → p < (ynm t f p v d).2.1)
  | 0, p, v, d, hp, hv, hd => by
    obtain rfl : d = 3 := by omega
    exact ⟨hv, hp, Nat.le_refl _, Nat.le_refl _, fun q => absurd q (Nat.lt_irrefl _)⟩
  | f + 1, p, v, d, hp, hv, hd => by
    unfold ynm
    have h1000 : 10 ^ d ≤ 10 ^ 3 := Nat.pow_le_pow_right (by decide) (by omega)
    by_cases e : (d = 0 ∨ 0 < v) ∧ 48 ≤ ysg t p ∧ ysg t p ≤ 57
    · rw [if_pos e]
      have hl : p < t.1 := ysg_lt rfl (by omega)
      obtain ⟨a1, a2, a3, a4, a5⟩ := ynm_ok (t := t) f (p + 1) (10 * v + ysg t p - 48) (d + 1) (by omega) (by rw [Nat.pow_succ]; omega) (by omega)
      exact ⟨a1, a2, by omega, by omega, fun _ => by omega⟩
    · rw [if_neg e]
      exact ⟨by show v < 1000; omega, hp, Nat.le_refl _, Nat.le_refl _, fun q => absurd q (Nat.lt_irrefl _)⟩
section ZC14
variable {M0 M M' : mz_M} {σ : zSg} {t : Nat × (Nat → Nat)}
theorem s_X10_readsElement_63 {v d p : Nat} (h : zrd M0 σ t p (-1) M) (hv : v < 1000) (hd : d < 2 ^ 31) (hdp : ¬ d = 0 → 0 < p) : ∃ (M' : mz_M) (w : Int32), mq_G mq_X10_readsElement (63, [some (.ref 77), some (.int (nI v)), some (.int (nI d))], [], M) (some (.int (nI v)), M') ∧ zrd M0 σ t p w M' ∧ zK [77] M M' ∧ w = if d = 0 then nI p else if v < 2 ^ σ.1.2.1 then -1 else nI (p - 1) := by
  have hF : zF σ.1.1 σ.1.2.1 M := h.1.F
  have e19 : M.1 77 19 = nI p := h.2.2.2.2.1
  have hq := zq256 hF.1.2.1
  have fz : ∀ x : Int32, ∃ M', mq_C mq_X10_fault [.ref 77, .int x] M (none, M') ∧ zrd M0 σ t p x M' ∧ zK [77] M M' := fun x => ⟨_, t_X10_fault_0 _ _ ⟨fun c => absurd h.2.2.2.2.2.2 c, fun _ M2 e2 => by rw [e2]⟩, h.f x, zK.wr (by simp)⟩
  by_cases e : d = 0
  · obtain ⟨M1, k1, k2, k3⟩ := fz (nI p)
    refine ⟨M1, nI p, t_X10_readsElement_63 _ _ _ ⟨fun c => absurd (by rw [e]; rfl) c, fun _ => ⟨M1, by rw [e19]; exact k1, t_X10_readsElement_96 _ _ _ _ rfl⟩⟩, k2, k3, by rw [if_pos e]⟩
  · have c0 : ¬ nI d = 0 := by rw [zn_eq0 hd]; exact e
    have he := s_X10_isElement hF (nI v)
    by_cases e2 : v < 2 ^ σ.1.2.1
    · rw [show zel (2 ^ σ.1.2.1) (nI v) = true from (zel_iff (by omega)).mpr ⟨v, e2, rfl⟩] at he
      refine ⟨M, -1, t_X10_readsElement_63 _ _ _ ⟨fun _ => ⟨1, he, fun _ => t_X10_readsElement_96 _ _ _ _ rfl, fun c => absurd z10 c⟩, fun c => absurd c0 c⟩, h, zK.rf _ _, by rw [if_neg e, if_pos e2]⟩
    · rw [show zel (2 ^ σ.1.2.1) (nI v) = false from Classical.byContradiction (fun q => e2 (by
        obtain ⟨a, ha, e5⟩ := (zel_iff (show 2 ^ σ.1.2.1 < 2 ^ 31 by omega)).mp (by simpa using q)
        rw [zn_eq (by omega) (by omega)] at e5
        omega))] at he
      obtain ⟨M1, k1, k2, k3⟩ := fz (nI (p - 1))
      exact ⟨M1, nI (p - 1), t_X10_readsElement_63 _ _ _ ⟨fun _ => ⟨0, he, fun c => absurd rfl c, fun _ => ⟨M1, by rw [e19, zs1 (hdp e)]; exact k1, t_X10_readsElement_96 _ _ _ _ rfl⟩⟩, fun c => absurd c0 c⟩, k2, k3, by rw [if_neg e, if_neg e2]⟩
theorem s_X10_readsElement_4 : ∀ (f p v d : Nat) (M : mz_M), zrd M0 σ t p (-1) M → v < 10 ^ d → d + f = 3 → (¬ d = 0 → 0 < p) → ∃ (M' : mz_M) (w : Int32), mq_G mq_X10_readsElement (4, [some (.ref 77), some (.int (nI v)), some (.int (nI d))], [], M) (some (.int (nI (ynm t f p v d).1)), M') ∧ zrd M0 σ t (ynm t f p v d).2.1 w M' ∧ zK [77] M M' ∧ w = if (ynm t f p v d).2.2 = 0 then nI (ynm t f p v d).2.1 else if (ynm t f p v d).1 < 2 ^ σ.1.2.1 then -1 else nI ((ynm t f p v d).2.1 - 1)
  | 0, p, v, d, M, h, hv, hd, hdp => by
    obtain rfl : d = 3 := by omega
    obtain ⟨M', w, k1, k2, k3, k4⟩ := s_X10_readsElement_63 h (show v < 1000 from hv) (by decide) hdp
    refine ⟨M', w, t_X10_readsElement_4 _ _ _ ⟨fun _ => k1, fun c => absurd (by decide) c⟩, k2, k3, k4⟩
  | f + 1, p, v, d, M, h, hv, hd, hdp => by
    have h1000 : 10 ^ d ≤ 10 ^ 3 := Nat.pow_le_pow_right (by decide) (by omega)
    have hk := h.2.1
    have h100 := hk.1
    have hp := h.2.2.2.2.2.1
    have s1 := s_X10_sees h
    have i57 : zbt (nI 48) (nI 57) (yI (ysg t p)) = true ↔ 48 ≤ ysg t p ∧ ysg t p ≤ 57 := yI_in (ysg_ok hk p) (by decide) (by decide)
    have c3 : ¬ (3 : Int32) ≤ nI d := by
      rw [show (3 : Int32) = nI 3 from rfl, zn_le (by decide) (by omega)]
      omega
    obtain ⟨M6, w6, j1, j2, j3, j4⟩ := s_X10_readsElement_63 h (show v < 1000 by omega) (show d < 2 ^ 31 by omega) hdp
    by_cases e : (d = 0 ∨ 0 < v) ∧ 48 ≤ ysg t p ∧ ysg t p ≤ 57
    · have hz : ynm t (f + 1) p v d = ynm t f (p + 1) (10 * v + ysg t p - 48) (d + 1) := if_pos e
      have hl : p < t.1 := ysg_lt rfl (by omega)
      obtain ⟨M', w, k1, k2, k3, k4⟩ := s_X10_readsElement_4 f (p + 1) (10 * v + ysg t p - 48) (d + 1) _ (h.p (q := p + 1) (by omega)) (by rw [Nat.pow_succ]; omega) (by omega) (fun _ => by omega)
      rw [hz]
      have g17 : mq_G mq_X10_readsElement (17, [some (.ref 77), some (.int (nI v)), some (.int (nI d))], [], M) (some (.int (nI (ynm t f (p + 1) (10 * v + ysg t p - 48) (d + 1)).1)), M') := by
        refine t_X10_readsElement_17 _ _ _ ⟨_, s1, 1, zin1 M (i57.mpr e.2), fun c => absurd c z10, fun _ => ⟨_, s1, fun M5 e5 => ?_⟩⟩
        rw [h.2.2.2.2.1, nI_1] at e5
        rw [e5, nI_1, show yI (ysg t p) = nI (ysg t p) by unfold yI; rw [if_neg (by omega)], show (10 : Int32) = nI 10 from rfl, pk_mul, nI_add, show (48 : Int32) = nI 48 from rfl, zn_sub (by omega)]
        exact k1
      refine ⟨M', w, t_X10_readsElement_4 _ _ _ ⟨fun c => absurd c c3, fun _ => ⟨fun _ => g17, fun c => ⟨fun c2 => ?_, fun _ => g17⟩⟩⟩, k2, (zK.wr (by simp)).tr k3, k4⟩
      rw [zn_eq0 (by omega)] at c
      rw [zn_le0 (by omega)] at c2
      omega
    · have hz : ynm t (f + 1) p v d = (v, p, d) := if_neg e
      rw [hz]
      have g17 : ¬ (48 ≤ ysg t p ∧ ysg t p ≤ 57) → mq_G mq_X10_readsElement (17, [some (.ref 77), some (.int (nI v)), some (.int (nI d))], [], M) (some (.int (nI v)), M6) := fun q =>
        t_X10_readsElement_17 _ _ _ ⟨_, s1, 0, zin0 M (fun z => q (i57.mp z)), fun _ => j1, fun c => absurd rfl c⟩
      refine ⟨M6, w6, t_X10_readsElement_4 _ _ _ ⟨fun c => absurd c c3, fun _ => ⟨fun c => g17 (fun q => e ⟨Or.inl ?_, q⟩), fun c => ⟨fun _ => j1, fun c2 => g17 (fun q => e ⟨Or.inr ?_, q⟩)⟩⟩⟩, j2, j3, j4⟩
      · exact (zn_eq0 (by omega)).mp c
      · rw [zn_le0 (by omega)] at c2
        omega
theorem s_X10_readsElement {p : Nat} (h : zrd M0 σ t p (-1) M) : ∃ (M' : mz_M) (w : Int32), mq_C mq_X10_readsElement [.ref 77] M (some (.int (nI (ynm t 3 p 0 0).1)), M') ∧ zrd M0 σ t (ynm t 3 p 0 0).2.1 w M' ∧ zK [77] M M' ∧ w = if (ynm t 3 p 0 0).2.2 = 0 then nI (ynm t 3 p 0 0).2.1 else if (ynm t 3 p 0 0).1 < 2 ^ σ.1.2.1 then -1 else nI ((ynm t 3 p 0 0).2.1 - 1) := by
  obtain ⟨M', w, k1, k2⟩ := s_X10_readsElement_4 3 p 0 0 M h (by decide) rfl (fun c => absurd rfl c)
  exact ⟨M', w, t_X10_readsElement_0 _ k1, k2⟩
theorem zrd.k {S : List Nat} {p : Nat} {w : Int32} (h : zrd M0 σ t p w M) (hk : zK S M M') (hS : ∀ c ∈ S, c = 79 ∨ 84 ≤ c) : zrd M0 σ t p w M' := by
  obtain ⟨a1, a2, a3, a4, a5, a6, a7⟩ := h
  have n : ∀ c, ¬ c = 79 → c < 84 → c ∉ S := fun c h1 h2 q => by have := hS c q; omega
  exact ⟨a1.k hk hS, a2, by rw [hk.2 77 (n _ (by decide) (by decide))]; exact a3, fun k hk2 => by rw [hk.2 82 (n _ (by decide) (by decide))]; exact a4 k hk2, by rw [hk.2 77 (n _ (by decide) (by decide))]; exact a5, a6, by rw [hk.2 77 (n _ (by decide) (by decide))]; exact a7⟩
theorem c_X10_base_103 {x : Int32} {n : Nat} {p : Nat} (h : zrd M0 σ t p (-1) M) (hp : ¬ p = t.1) : ∃ M1, zrd M0 σ t p (nI p) M1 ∧ ∀ (res : mz_O) (o3 : Option Value), (∀ (y : Int32) (o3 : Option Value), mq_G mq_X10_base (130, [some (.ref 77), some (.int x), some (.int y), o3], [], M1) res) → mq_G mq_X10_base (103, [some (.ref 77), some (.int x), some (.int (nI n)), o3], [], M) res := by
  have h100 := h.2.1.1
  have hpl := h.2.2.2.2.2.1
  obtain ⟨M1, k1, k2⟩ := s_X10_fault h (nI p)
  refine ⟨M1, k2, fun res o3 kk => t_X10_base_103 _ _ _ _ ⟨fun c => absurd h.2.2.2.2.2.2 c, fun _ => ⟨fun c => ?_, fun _ => ⟨M1, by rw [h.2.2.2.2.1]; exact k1, kk _ _⟩⟩⟩⟩
  rw [h.2.2.1, h.2.2.2.2.1, zn_le (by omega) (by omega)] at c
  omega
theorem c_X10_base_13 (x : Int32) : ∀ (f i p : Nat) (e : Nat → Nat) (M : mz_M), i + f = σ.1.2.1 → zrd M0 σ t p (-1) M → zrow M 84 i e → (∀ k, k < i → e k < 2 ^ σ.1.2.1) →
    ∃ (M1 : mz_M) (q : Nat), (∃ e', (yre t σ.1.2.1 f i p e).1 = some e' ∧ zrd M0 σ t q (-1) M1 ∧ zrow M1 84 σ.1.2.1 e' ∧ (∀ k, k < σ.1.2.1 → e' k < 2 ^ σ.1.2.1) ∧ ∀ res, (∀ o3 : Option Value, mq_G mq_X10_base (130, [some (.ref 77), some (.int x), some (.int (nI (zs (fun k => zpop 10 (e' k)) σ.1.2.1))), o3], [], M1) res) → mq_G mq_X10_base (13, [some (.ref 77), some (.int x), some (.int (nI (zs (fun k => zpop 10 (e k)) i))), some (.int (nI i))], [], M) res) ∨
      ((yre t σ.1.2.1 f i p e).1 = none ∧ (yre t σ.1.2.1 f i p e).2 ≤ t.1 ∧ zrd M0 σ t q (nI (yre t σ.1.2.1 f i p e).2) M1 ∧ ∀ res, (∀ (y : Int32) (o3 : Option Value), mq_G mq_X10_base (130, [some (.ref 77), some (.int x), some (.int y), o3], [], M1) res) → mq_G mq_X10_base (13, [some (.ref 77), some (.int x), some (.int (nI (zs (fun k => zpop 10 (e k)) i))), some (.int (nI i))], [], M) res)
  | 0, i, p, e, M, hi, h, hr, he => by
    have hm11 : M.1 77 11 = nI σ.1.2.1 := h.1.F.2.2.1
    have h8 : σ.1.2.1 ≤ 8 := h.1.F.1.2.1
    have h100 := h.2.1.1
    have hpl := h.2.2.2.2.2.1
    obtain rfl : i = σ.1.2.1 := by omega
    have c11 : M.1 77 11 ≤ nI σ.1.2.1 := by rw [hm11]; exact Int32.le_refl _
    unfold yre
    by_cases ep : p = t.1
    · rw [if_pos ep]
      refine ⟨M, p, Or.inl ⟨e, rfl, h, hr, he, fun res kk => t_X10_base_13 _ _ _ _ ⟨fun _ => t_X10_base_103 _ _ _ _ ⟨fun c => absurd h.2.2.2.2.2.2 c, fun _ => ⟨fun _ => kk _, fun c => absurd ?_ c⟩⟩, fun c => absurd c11 c⟩⟩⟩
      rw [h.2.2.1, h.2.2.2.2.1, zn_le (by omega) (by omega)]
      omega
    · rw [if_neg ep]
      obtain ⟨M1, k1, k2⟩ := c_X10_base_103 (x := x) (n := zs (fun k => zpop 10 (e k)) σ.1.2.1) h ep
      exact ⟨M1, p, Or.inr ⟨rfl, hpl, k1, fun res kk => t_X10_base_13 _ _ _ _ ⟨fun _ => k2 res _ kk, fun c => absurd c11 c⟩⟩⟩
  | f + 1, i, p, e, M, hi, h, hr, he => by
    have hm11 : M.1 77 11 = nI σ.1.2.1 := h.1.F.2.2.1
    have h8 : σ.1.2.1 ≤ 8 := h.1.F.1.2.1
    have hq := zq256 h8
    have hk := h.2.1
    have h100 := hk.1
    have hpl := h.2.2.2.2.2.1
    have c11 : ¬ M.1 77 11 ≤ nI i := by
      rw [hm11, zn_le (by omega) (by omega)]
      omega
    have s1 := s_X10_sees h
    have r44 : yI (ysg t p) = 44 ↔ ysg t p = 44 := yI_eq (c := 44) (ysg_ok hk p) (by decide)
    have i0 : nI i ≤ 0 ↔ i = 0 := zn_le0 (by omega)
    -- a fault seen: on to 103, and to 130
    have bad : ∀ {N : mz_M} {q : Nat} {w : Int32} {res : mz_O} {y : Int32} {o3 : Option Value}, zrd M0 σ t q w N → ¬ w = -1 → (∀ (y : Int32) (o3 : Option Value), mq_G mq_X10_base (130, [some (.ref 77), some (.int x), some (.int y), o3], [], N) res) → mq_G mq_X10_base (103, [some (.ref 77), some (.int x), some (.int y), o3], [], N) res := fun hN hw kk =>
      t_X10_base_103 _ _ _ _ ⟨fun _ => kk _ _, fun c => absurd (fun z => hw (hN.2.2.2.2.2.2.symm.trans z)) c⟩
    have hy : yre t σ.1.2.1 (f + 1) i p e = if 0 < i ∧ ysg t p ≠ 44 then (none, p) else (if (ynm t 3 (if 0 < i then p + 1 else p) 0 0).2.2 = 0 then (none, (ynm t 3 (if 0 < i then p + 1 else p) 0 0).2.1) else if (ynm t 3 (if 0 < i then p + 1 else p) 0 0).1 < 2 ^ σ.1.2.1 then yre t σ.1.2.1 f (i + 1) (ynm t 3 (if 0 < i then p + 1 else p) 0 0).2.1 (fun k => if k = i then (ynm t 3 (if 0 < i then p + 1 else p) 0 0).1 else e k) else (none, (ynm t 3 (if 0 < i then p + 1 else p) 0 0).2.1 - 1)) := rfl
    by_cases e1 : 0 < i ∧ ysg t p ≠ 44
    · rw [hy, if_pos e1]
      obtain ⟨M6, k1, k2⟩ := s_X10_fault h (nI p)
      refine ⟨M6, p, Or.inr ⟨rfl, hpl, k2, fun res kk => t_X10_base_13 _ _ _ _ ⟨fun c => absurd c c11, fun _ => ⟨fun c => absurd h.2.2.2.2.2.2 c, fun _ => ⟨fun c => ?_, fun _ => ⟨_, s1, fun c => absurd (r44.mp c) e1.2, fun _ => ⟨M6, by rw [h.2.2.2.2.1]; exact k1, t_X10_base_50 _ _ _ _ ⟨fun c => absurd (k2.2.2.2.2.2.2.symm.trans c) (ym1 (by omega)), fun _ => bad k2 (ym1 (by omega)) kk⟩⟩⟩⟩⟩⟩⟩⟩
      rw [i0] at c
      omega
    · rw [hy, if_neg e1]
      -- at the number
      have atn : ∃ N, zrd M0 σ t (if 0 < i then p + 1 else p) (-1) N ∧ zK [77] M N ∧ ∀ {res : mz_O} (y : Int32), mq_G mq_X10_base (75, [some (.ref 77), some (.int x), some (.int y), some (.int (nI i))], [], N) res → mq_G mq_X10_base (13, [some (.ref 77), some (.int x), some (.int y), some (.int (nI i))], [], M) res := by
        by_cases ei : 0 < i
        · have hs44 : ysg t p = 44 := Classical.byContradiction (fun z => e1 ⟨ei, z⟩)
          have hl := ysg_lt hs44 (by decide)
          rw [if_pos ei]
          refine ⟨_, h.p (q := p + 1) (by omega), zK.wr (by simp), fun y g => t_X10_base_13 _ _ _ _ ⟨fun c => absurd c c11, fun _ => ⟨fun c => absurd h.2.2.2.2.2.2 c, fun _ => ⟨fun c => ?_, fun _ => ⟨_, s1, fun _ => t_X10_base_50 _ _ _ _ ⟨fun _ => ⟨fun c => ?_, fun _ N3 n3 => ?_⟩, fun c => absurd h.2.2.2.2.2.2 c⟩, fun c => absurd (r44.mpr hs44) c⟩⟩⟩⟩⟩
          · rw [i0] at c; omega
          · rw [i0] at c; omega
          · rw [h.2.2.2.2.1, nI_1] at n3
            rw [n3]
            exact g
        · rw [if_neg ei]
          have hi0 : i = 0 := by omega
          refine ⟨M, h, zK.rf _ _, fun y g => t_X10_base_13 _ _ _ _ ⟨fun c => absurd c c11, fun _ => ⟨fun c => absurd h.2.2.2.2.2.2 c, fun _ => ⟨fun _ => t_X10_base_50 _ _ _ _ ⟨fun _ => ⟨fun _ => g, fun c => absurd (i0.mpr hi0) c⟩, fun c => absurd h.2.2.2.2.2.2 c⟩, fun c => absurd (i0.mpr hi0) c⟩⟩⟩⟩
      obtain ⟨N, hN, hNk, gN⟩ := atn
      generalize hp1 : (if 0 < i then p + 1 else p) = p1 at hN ⊢
      have hN1 := hN.2.2.2.2.2.1
      obtain ⟨n1, n2, n3, n4, n5⟩ := ynm_ok (t := t) 3 p1 0 0 hN1 (by decide) rfl
      obtain ⟨M1, w, k1, k2, k3, k4⟩ := s_X10_readsElement hN
      obtain ⟨M2, e2⟩ : ∃ y, y = mz_wr M1 84 (upd (M1.1 84) i (nI (ynm t 3 p1 0 0).1)) := ⟨_, rfl⟩
      have hk2 : zK [84] M1 M2 := by rw [e2]; exact zK.wr (by simp)
      have h2 := k2.k hk2 (by simp)
      have b75 : ∀ {res : mz_O}, mq_G mq_X10_base (13, [some (.ref 77), some (.int x), some (.int (nI (zs (fun k => zpop 10 (e k)) i) + nI (zpop 10 (ynm t 3 p1 0 0).1))), some (.int (nI (i + 1)))], [], M2) res → mq_G mq_X10_base (13, [some (.ref 77), some (.int x), some (.int (nI (zs (fun k => zpop 10 (e k)) i))), some (.int (nI i))], [], M) res := by
        intro res g
        refine gN _ (t_X10_base_75 _ _ _ _ ⟨_, M1, k1, zn_in (by omega) (by decide), fun N2 m2 => ⟨zn_in (by omega) (by decide), nI (zpop 10 (ynm t 3 p1 0 0).1), ?_, ?_⟩⟩)
        · rw [zn_cl (by omega), ← e2] at m2
          rw [m2, zn_cl (by omega), e2, zwr_s, zupd_s]
          exact s_X10_bits _ (by omega)
        · rw [zn_cl (by omega), ← e2] at m2
          rw [m2, nI_1]
          exact g
      -- wrong: the loop ends at once
      have wrongly : ¬ w = -1 → ∀ res, (∀ (y : Int32) (o3 : Option Value), mq_G mq_X10_base (130, [some (.ref 77), some (.int x), some (.int y), o3], [], M2) res) → mq_G mq_X10_base (13, [some (.ref 77), some (.int x), some (.int (nI (zs (fun k => zpop 10 (e k)) i))), some (.int (nI i))], [], M) res := fun hw res kk =>
        b75 (t_X10_base_13 _ _ _ _ ⟨fun _ => bad h2 hw kk, fun _ => ⟨fun _ => bad h2 hw kk, fun c => absurd (fun z => hw (h2.2.2.2.2.2.2.symm.trans z)) c⟩⟩)
      by_cases d0 : (ynm t 3 p1 0 0).2.2 = 0
      · rw [if_pos d0]
        rw [if_pos d0] at k4
        rw [k4] at h2 wrongly
        exact ⟨M2, _, Or.inr ⟨rfl, n2, h2, wrongly (ym1 (by omega))⟩⟩
      · rw [if_neg d0]
        rw [if_neg d0] at k4
        by_cases dl : (ynm t 3 p1 0 0).1 < 2 ^ σ.1.2.1
        · rw [if_pos dl]
          rw [if_pos dl] at k4
          rw [k4] at h2
          have hr2 : zrow M2 84 (i + 1) (fun k => if k = i then (ynm t 3 p1 0 0).1 else e k) := by
            intro j hj
            show M2.1 84 j = nI (if j = i then (ynm t 3 p1 0 0).1 else e j)
            rw [e2, zwr_s]
            by_cases ej : j = i
            · rw [ej, zupd_s, if_pos rfl]
            · rw [zupd_n ej, k3.2 84 (by decide), hNk.2 84 (by decide), if_neg ej]
              exact hr j (by omega)
          have hs2 : nI (zs (fun k => zpop 10 (e k)) i) + nI (zpop 10 (ynm t 3 p1 0 0).1) = nI (zs (fun k => zpop 10 ((fun k => if k = i then (ynm t 3 p1 0 0).1 else e k) k)) (i + 1)) := by
            have ext : ∀ n, n ≤ i → zs (fun k => zpop 10 ((fun k => if k = i then (ynm t 3 p1 0 0).1 else e k) k)) n = zs (fun k => zpop 10 (e k)) n := by
              intro n
              induction n with
              | zero => intro _; rfl
              | succ n ih =>
                intro hn
                show zs _ n + zpop 10 (if n = i then _ else e n) = zs _ n + zpop 10 (e n)
                rw [ih (by omega), if_neg (by omega)]
            rw [nI_add]
            show _ = nI (zs _ i + zpop 10 (if i = i then _ else e i))
            rw [ext i (Nat.le_refl i), if_pos rfl]
          obtain ⟨M3, q3, g3⟩ := c_X10_base_13 x f (i + 1) _ (fun k => if k = i then (ynm t 3 p1 0 0).1 else e k) M2 (by omega) h2 hr2 (fun k hk => by
            by_cases ej : k = i
            · rw [if_pos ej]; exact dl
            · rw [if_neg ej]; exact he k (by omega))
          refine ⟨M3, q3, ?_⟩
          rcases g3 with ⟨e', a1, a2, a3, a4, a5⟩ | ⟨a1, a2, a3, a4⟩
          · exact Or.inl ⟨e', a1, a2, a3, a4, fun res kk => b75 (by rw [hs2]; exact a5 res kk)⟩
          · exact Or.inr ⟨a1, a2, a3, fun res kk => b75 (by rw [hs2]; exact a4 res kk)⟩
        · rw [if_neg dl]
          rw [if_neg dl] at k4
          rw [k4] at h2 wrongly
          exact ⟨M2, _, Or.inr ⟨rfl, by show _ - 1 ≤ t.1; omega, h2, wrongly (ym1 (by omega))⟩⟩
noncomputable def k_base1 (σ : zSg) (s : Int32) (e : Nat → Nat) : Int32 × zSg := if zel 4 s = true then (if zind e σ.1.2.1 = true then (nI (zs (fun k => zpop 10 (e k)) σ.1.2.1), zhold σ (zu s) e) else (-2, σ)) else (-1, σ)
noncomputable def k_base (σ : zSg) (s : Int32) : Int32 × zSg := match yre σ.2.2.2.1 σ.1.2.1 σ.1.2.1 0 0 (fun _ => 0) with
  | (none, q) => ((-21) - nI q, ztx σ (0, σ.2.2.2.1.2))
  | (some e, _) => k_base1 (ztx σ (0, σ.2.2.2.1.2)) s e
theorem c_X10_base (h : zP M0 σ M) (x : Int32) : zA M0 mq_X10_base [.ref 77, .int x] M (k_base σ x) := by
  obtain ⟨M1, eM, h1, -⟩ := h.thr
  have h8 := h.g.2.1
  have h100 := h.tk.1
  obtain ⟨M2, b1, b2⟩ := s_X10_begin h1
  obtain ⟨M3, q, g⟩ := c_X10_base_13 x σ.1.2.1 0 0 (fun _ => 0) M2 (Nat.zero_add _) b2 (fun j hj => absurd hj (Nat.not_lt_zero j)) (fun j hj => absurd hj (Nat.not_lt_zero j))
  unfold zA k_base
  rcases g with ⟨e, u1, h3, hr, he, g⟩ | ⟨u1, u2, h3, g⟩
  · generalize yre σ.2.2.2.1 σ.1.2.1 σ.1.2.1 0 0 (fun _ => 0) = r at u1 ⊢
    obtain ⟨r1, r2⟩ := r
    have u1 : r1 = some e := u1
    subst u1
    dsimp only
    have hF : zF σ.1.1 σ.1.2.1 M3 := h3.1.F
    have w1 : M3.1 77 20 = -1 := h3.2.2.2.2.2.2
    unfold k_base1
    by_cases g0 : zel 4 x = true
    · rw [if_pos g0]
      obtain ⟨s, hs, rfl⟩ := zsln g0
      obtain ⟨M4, r1, r2⟩ := s_X10_rank h8 M3 (v := e) (fun j hj => ⟨hr j hj, z256 h8 (he j hj)⟩)
      have hrk := rk_le e σ.1.2.1
      have h4 := h3.k r2 (by simp)
      have m4 : M4.1 77 11 = nI σ.1.2.1 := h4.1.F.2.2.1
      by_cases g1 : zind e σ.1.2.1 = true
      · rw [if_pos (show zind e (ztx σ (0, σ.2.2.2.1.2)).1.2.1 = true from g1), zu_nI (by omega)]
        have hi := zind_iff.mp g1
        have hb : zbas σ.1.2.1 e := ⟨hi, he⟩
        obtain ⟨M6, s1, s2, s3⟩ := s_X10_someIsBase hb (show zF σ.1.1 σ.1.2.1 M4 from h4.1.F) (hr.k r2 (by decide))
        have h6 := h4.k s2 (by simp)
        obtain ⟨M7, l1, l2⟩ := s_X10_holds h6.1 hs s3
        have l1 : mq_C mq_X10_holds [.ref 77, .int (nI s)] M6 (some (.int (nI (zs (ztb σ.1.1 σ.1.2.1 e 0) σ.1.2.1))), M7) := l1
        have hcx := zcx_le (P := σ.1.1) e h8
        refine ⟨M7, t_X10_base_0 _ _ (fun N n1 => ?_), l2⟩
        obtain rfl := n1.trans eM
        refine ⟨M2, b1, g _ (fun o3 => t_X10_base_130 _ _ _ _ ⟨fun _ => ⟨1, zsl1 _ g0, fun _ => ⟨nI (rk e σ.1.2.1), M4, by rw [hF.2.2.1]; exact r1, fun _ => ⟨M6, s1, _, M7, l1, fun _ => t_X10_base_192 _ _ _ _ _ _ rfl, fun c => absurd (zn_ge0 (by omega)) c⟩, fun c => absurd ?_ c⟩, fun c => absurd z10 c⟩, fun c => absurd w1 c⟩)⟩
        rw [m4, rk_ind.mpr hi]
        exact Int32.le_refl _
      · rw [if_neg (show ¬ zind e (ztx σ (0, σ.2.2.2.1.2)).1.2.1 = true from g1)]
        refine ⟨M4, t_X10_base_0 _ _ (fun N n1 => ?_), h4.1⟩
        obtain rfl := n1.trans eM
        refine ⟨M2, b1, g _ (fun o3 => t_X10_base_130 _ _ _ _ ⟨fun _ => ⟨1, zsl1 _ g0, fun _ => ⟨nI (rk e σ.1.2.1), M4, by rw [hF.2.2.1]; exact r1, fun c => ?_, fun _ => rfl⟩, fun c => absurd z10 c⟩, fun c => absurd w1 c⟩)⟩
        rw [m4, zn_le (by omega) (by omega)] at c
        exact absurd (zind_iff.mpr (rk_ind.mp (by omega))) g1
    · rw [if_neg g0]
      refine ⟨M3, t_X10_base_0 _ _ (fun N n1 => ?_), h3.1⟩
      obtain rfl := n1.trans eM
      exact ⟨M2, b1, g _ (fun o3 => t_X10_base_130 _ _ _ _ ⟨fun _ => ⟨0, zsl0 _ g0, fun c => absurd rfl c, fun _ => rfl⟩, fun c => absurd w1 c⟩)⟩
  · generalize yre σ.2.2.2.1 σ.1.2.1 σ.1.2.1 0 0 (fun _ => 0) = r at u1 u2 h3 ⊢
    obtain ⟨r1, r2⟩ := r
    have u1 : r1 = none := u1
    subst u1
    have u2 : r2 ≤ σ.2.2.2.1.1 := u2
    dsimp only
    have w1 : M3.1 77 20 = nI r2 := h3.2.2.2.2.2.2
    refine ⟨M3, t_X10_base_0 _ _ (fun N n1 => ?_), h3.1⟩
    obtain rfl := n1.trans eM
    exact ⟨M2, b1, g _ (fun y o3 => t_X10_base_130 _ _ _ _ ⟨fun c => absurd (w1.symm.trans c) (ym1 (by omega)), fun _ => by rw [w1]⟩)⟩
end ZC14
