/-! calls of the reference: THE TEXT, fields told, deeds undone -/
theorem zs1 {n : Nat} (h : 0 < n) : nI n - 1 = nI (n - 1) := zn_sub (b := 1) h
theorem ybp (x : Int32) : x.toInt8.toInt32 &&& 255 = x &&& 255 := by
  apply Int32.toBitVec_inj.mp
  rw [Int32.toBitVec_and, Int32.toBitVec_and, Int8.toBitVec_toInt32, Int32.toBitVec_toInt8]
  apply BitVec.eq_of_getLsbD_eq
  intro i hi
  rw [BitVec.getLsbD_and, BitVec.getLsbD_and]
  have hm : ∀ i < 32, 8 ≤ i → (255 : Int32).toBitVec.getLsbD i = false := by decide
  rcases Nat.lt_or_ge i 8 with z | z
  · rw [BitVec.getLsbD_signExtend, BitVec.getLsbD_signExtend, if_pos z, if_pos hi]
    simp only [z, hi, decide_true, Bool.true_and]
  · rw [hm i hi z]; simp
theorem yby {n : Nat} (h : n < 256) : (nI n).toInt8.toInt32 &&& 255 = nI n := by
  rw [ybp, show (255 : Int32) = nI 255 from rfl, zn_and, show n &&& 255 = n % 256 from Nat.and_two_pow_sub_one_eq_mod n 8, Nat.mod_eq_of_lt h]
theorem ylo : ∀ c, c < 128 → (nI c).toInt8.toInt32 = nI c := by decide +kernel
def ysg (t : Nat × (Nat → Nat)) (p : Nat) : Nat := if p < t.1 then t.2 p else 1000
def yI (n : Nat) : Int32 := if n = 1000 then -1 else nI n
def ytk (t : Nat × (Nat → Nat)) : Prop := t.1 ≤ 100 ∧ ∀ k, k < t.1 → t.2 k < 256
theorem ysg_ok {t : Nat × (Nat → Nat)} (h : ytk t) (p : Nat) : ysg t p < 256 ∨ ysg t p = 1000 := by
  unfold ysg
  by_cases e : p < t.1
  · rw [if_pos e]; exact Or.inl (h.2 p e)
  · rw [if_neg e]; exact Or.inr rfl
theorem yI_eq {n c : Nat} (hn : n < 256 ∨ n = 1000) (hc : c < 256) : yI n = nI c ↔ n = c := by
  unfold yI
  rcases hn with h | h
  · rw [if_neg (by omega), zn_eq (by omega) (by omega)]
  · rw [if_pos h]
    exact ⟨fun q => absurd (by rw [← q]; decide) (nI_pos (show c < 2 ^ 31 by omega)), fun q => by omega⟩
theorem yI_in {n a b : Nat} (hn : n < 256 ∨ n = 1000) (ha : a < 256) (hb : b < 256) : zbt (nI a) (nI b) (yI n) = true ↔ a ≤ n ∧ n ≤ b := by
  unfold zbt
  rw [decide_eq_true_iff]
  unfold yI
  rcases hn with h | h
  · rw [if_neg (by omega), zn_le (by omega) (by omega), zn_le (by omega) (by omega)]
  · rw [if_pos h]
    refine ⟨fun q => ?_, fun q => by omega⟩
    have h0 : (0 : Int32) ≤ -1 := Int32.le_trans (nI_pos' (show a < 2 ^ 31 by omega)) q.1
    exact absurd h0 (by decide)
/-- a power behind one, from place p on -/
def ypw (t : Nat × (Nat → Nat)) (p a : Nat) : Option Nat × Nat := if ysg t p = 49 ∧ a < 9 then (some 0, p + 1) else if ysg t p = 120 ∧ 2 ≤ a then (if 50 ≤ ysg t (p + 1) ∧ ysg t (p + 1) < 48 + a then (some (ysg t (p + 1) - 48), p + 2) else if a < 9 ∧ (p + 1 = t.1 ∨ ysg t (p + 1) = 43) then (some 1, p + 1) else (none, p + 1)) else (none, p)
def yrp1 (t : Nat × (Nat → Nat)) (acc : Nat) (r : Option Nat × Nat) (next : Nat → Nat → Option Nat × Nat) : Option Nat × Nat := match r.1 with
  | none => (none, r.2)
  | some w => if r.2 = t.1 then (some (acc ||| 2 ^ w), r.2) else if w = 0 ∨ ysg t r.2 ≠ 43 then (none, r.2) else next w (acc ||| 2 ^ w)
/-- POLY read from place p on -/
def yrp (t : Nat × (Nat → Nat)) : Nat → Nat → Nat → Nat → Option Nat × Nat
  | 0, p, _, _ => (none, p)
  | k + 1, p, a, acc => yrp1 t acc (ypw t p a) (fun w acc' => yrp t k ((ypw t p a).2 + 1) w acc')
/-- digits from place p on -/
def ynm (t : Nat × (Nat → Nat)) : Nat → Nat → Nat → Nat → Nat × Nat × Nat
  | 0, p, v, d => (v, p, d)
  | f + 1, p, v, d => if (d = 0 ∨ 0 < v) ∧ 48 ≤ ysg t p ∧ ysg t p ≤ 57 then ynm t f (p + 1) (10 * v + ysg t p - 48) (d + 1) else (v, p, d)
/-- elements from place p on -/
def yre (t : Nat × (Nat → Nat)) (m : Nat) : Nat → Nat → Nat → (Nat → Nat) → Option (Nat → Nat) × Nat
  | 0, _, p, e => if p = t.1 then (some e, p) else (none, p)
  | f + 1, i, p, e => if 0 < i ∧ ysg t p ≠ 44 then (none, p) else
      (if (ynm t 3 (if 0 < i then p + 1 else p) 0 0).2.2 = 0 then (none, (ynm t 3 (if 0 < i then p + 1 else p) 0 0).2.1) else if (ynm t 3 (if 0 < i then p + 1 else p) 0 0).1 < 2 ^ m then yre t m f (i + 1) (ynm t 3 (if 0 < i then p + 1 else p) 0 0).2.1 (fun k => if k = i then (ynm t 3 (if 0 < i then p + 1 else p) 0 0).1 else e k) else (none, (ynm t 3 (if 0 < i then p + 1 else p) 0 0).2.1 - 1))
theorem ysg_lt {t : Nat × (Nat → Nat)} {p c : Nat} (h : ysg t p = c) (hc : c < 1000) : p < t.1 := by
  unfold ysg at h
  by_cases e : p < t.1
  · exact e
  · rw [if_neg e] at h; omega
theorem ypw_p {t : Nat × (Nat → Nat)} {p a : Nat} (hp : p ≤ t.1) (ha : a ≤ 9) : (ypw t p a).2 ≤ t.1 ∧ ∀ w, (ypw t p a).1 = some w → w < a ∧ (a = 9 → 2 ≤ w) ∧ w ≤ 8 ∨ a = 0 := by
  unfold ypw
  by_cases e1 : ysg t p = 49 ∧ a < 9
  · rw [if_pos e1]
    have := ysg_lt e1.1 (by decide)
    refine ⟨by show p + 1 ≤ t.1; omega, fun w q => ?_⟩
    cases q
    omega
  · rw [if_neg e1]
    by_cases e2 : ysg t p = 120 ∧ 2 ≤ a
    · rw [if_pos e2]
      have h1 := ysg_lt e2.1 (by decide)
      by_cases e3 : 50 ≤ ysg t (p + 1) ∧ ysg t (p + 1) < 48 + a
      · rw [if_pos e3]
        have h2 : p + 1 < t.1 := ysg_lt rfl (by omega)
        refine ⟨by show p + 2 ≤ t.1; omega, fun w q => ?_⟩
        have q : ysg t (p + 1) - 48 = w := Option.some.inj q
        omega
      · rw [if_neg e3]
        by_cases e4 : a < 9 ∧ (p + 1 = t.1 ∨ ysg t (p + 1) = 43)
        · rw [if_pos e4]
          refine ⟨by show p + 1 ≤ t.1; omega, fun w q => ?_⟩
          have q : 1 = w := Option.some.inj q
          omega
        · rw [if_neg e4]
          exact ⟨by show p + 1 ≤ t.1; omega, fun w q => by cases q⟩
    · rw [if_neg e2]
      exact ⟨hp, fun w q => by cases q⟩
section ZC11
variable {M0 M M' : mz_M} {σ : zSg} {t : Nat × (Nat → Nat)}
def ztx (σ : zSg) (t : Nat × (Nat → Nat)) : zSg := (σ.1, σ.2.1, σ.2.2.1, t, σ.2.2.2.2)
theorem zP.tk (h : zP M0 σ M) : ytk σ.2.2.2.1 := ⟨h.2.2.2.2.1.1, fun k hk => (h.2.2.2.2.1.2.2 k hk).1⟩
/-- the reference reads: at place p, the first fault w -/
def zrd (M0 : mz_M) (σ : zSg) (t : Nat × (Nat → Nat)) (p : Nat) (w : Int32) (M : mz_M) : Prop := zP M0 (ztx σ (0, t.2)) M ∧ ytk t ∧ M.1 77 18 = nI t.1 ∧ (∀ k, k < t.1 → M.1 82 k = (nI (t.2 k)).toInt8.toInt32) ∧ M.1 77 19 = nI p ∧ p ≤ t.1 ∧ M.1 77 20 = w
theorem zrd.p {p : Nat} {w : Int32} (h : zrd M0 σ t p w M) {q : Nat} (hq : q ≤ t.1) : zrd M0 σ t q w (mz_wr M 77 (upd (M.1 77) 19 (nI q))) := by
  obtain ⟨a1, a2, a3, a4, a5, a6, a7⟩ := h
  exact ⟨a1.w (by decide), a2, by rw [zwr_s, zupd_n (by decide)]; exact a3, fun k hk => by rw [zwr_n (by decide)]; exact a4 k hk, by rw [zwr_s, zupd_s], hq, by rw [zwr_s, zupd_n (by decide)]; exact a7⟩
theorem zrd.f {p : Nat} {w : Int32} (h : zrd M0 σ t p w M) (x : Int32) : zrd M0 σ t p x (mz_wr M 77 (upd (M.1 77) 20 x)) := by
  obtain ⟨a1, a2, a3, a4, a5, a6, a7⟩ := h
  exact ⟨a1.w (by decide), a2, by rw [zwr_s, zupd_n (by decide)]; exact a3, fun k hk => by rw [zwr_n (by decide)]; exact a4 k hk, by rw [zwr_s, zupd_n (by decide)]; exact a5, a6, by rw [zwr_s, zupd_s]⟩
theorem s_X10_sees {p : Nat} {w : Int32} (h : zrd M0 σ t p w M) : mq_C mq_X10_sees [.ref 77] M (some (.int (yI (ysg t p))), M) := by
  obtain ⟨a1, a2, a3, a4, a5, a6, a7⟩ := h
  have h100 := a2.1
  refine t_X10_sees_0 _ ?_
  rw [a3, a5, zn_le (by omega) (by omega)]
  unfold ysg
  refine ⟨fun c => ?_, fun c => ⟨zn_in (by omega) (by decide), ?_⟩⟩
  · rw [if_neg (by omega)]; rfl
  · have := a2.2 p (by omega)
    rw [zn_cl (by omega), a4 p (by omega), yby this, if_pos (by omega)]
    unfold yI
    rw [if_neg (by omega)]
theorem s_X10_fault {p : Nat} (h : zrd M0 σ t p (-1) M) (x : Int32) : ∃ M', mq_C mq_X10_fault [.ref 77, .int x] M (none, M') ∧ zrd M0 σ t p x M' := by
  refine ⟨_, t_X10_fault_0 _ _ ⟨fun c => absurd h.2.2.2.2.2.2 c, fun _ M2 e2 => by rw [e2]⟩, h.f x⟩
theorem s_X10_begin (h : zP M0 σ M) : ∃ M', mq_C mq_X10_begin [.ref 77] M (none, M') ∧ zrd M0 σ σ.2.2.2.1 0 (-1) M' := by
  have hk := h.tk
  have hl := h.2.2.2.2.1.2.1
  have ha := h.2.2.2.2.1.2.2
  obtain ⟨M1, e1⟩ : ∃ y, y = mz_wr M 77 (upd (M.1 77) 18 (nI σ.2.2.2.1.1)) := ⟨_, rfl⟩
  obtain ⟨M2, e2⟩ : ∃ y, y = mz_wr M1 77 (upd (M1.1 77) 7 0) := ⟨_, rfl⟩
  obtain ⟨M3, e3⟩ : ∃ y, y = mz_wr M2 77 (upd (M2.1 77) 19 0) := ⟨_, rfl⟩
  obtain ⟨M4, e4⟩ : ∃ y, y = mz_wr M3 77 (upd (M3.1 77) 20 (-1)) := ⟨_, rfl⟩
  have h1 : zP M0 σ M1 := by rw [e1]; exact h.w (by decide)
  have h2 : zP M0 (ztx σ (0, σ.2.2.2.1.2)) M2 := by
    obtain ⟨b0, b1, b2, b3, b4, b5⟩ := h1
    have fo : ∀ k, ¬ k = 7 → M2.1 77 k = M1.1 77 k := fun k hk => by rw [e2, zwr_s, zupd_n hk]
    have fc : ∀ c, ¬ c = 77 → M2.1 c = M1.1 c := fun c hc => by rw [e2, zwr_n hc]
    refine ⟨by rw [e2]; exact b0.wr (by decide), b1.k (fc _ (by decide)) (fo _ (by decide)) (fo _ (by decide)), b2.k (fc _ (by decide)) (fo _ (by decide)), b3.k (fc _ (by decide)) (fo _ (by decide)), ⟨Nat.zero_le _, by rw [e2, zwr_s, zupd_s]; rfl, fun k hk => absurd hk (Nat.not_lt_zero k)⟩, b5.k (by rw [e2, zwr_2]) (fo _ (by decide))⟩
  have h4 : zP M0 (ztx σ (0, σ.2.2.2.1.2)) M4 := by
    rw [e4, e3]
    exact (h2.w (by decide)).w (by decide)
  refine ⟨M4, t_X10_begin_0 _ (fun N1 n1 N2 n2 N3 n3 N4 n4 => ?_), h4, hk, ?_, fun k hk => ?_, ?_, Nat.zero_le _, ?_⟩
  · rw [hl, ← e1] at n1
    rw [n1, ← e2] at n2
    rw [n2, ← e3] at n3
    rw [n3, ← e4] at n4
    rw [n4]
  · rw [e4, zwr_s, zupd_n (by decide), e3, zwr_s, zupd_n (by decide), e2, zwr_s, zupd_n (by decide), e1, zwr_s, zupd_s]
  · rw [e4, zwr_n (by decide), e3, zwr_n (by decide), e2, zwr_n (by decide), e1, zwr_n (by decide)]
    exact (ha k hk).2
  · rw [e4, zwr_s, zupd_n (by decide), e3, zwr_s, zupd_s]; rfl
  · rw [e4, zwr_s, zupd_s]
theorem s_in1 (M : mz_M) {x a b : Int32} (hx : zbt a b x = true) : mq_C mq_X10_in [.long x.toInt64, .long a.toInt64, .long b.toInt64] M (some (.int 1), M) := zin1 M hx
/-- what a power read does: as ypw has it, or it is read as 1 and the fault stays to be seen -/
theorem s_X10_readsPower {p a : Nat} (h : zrd M0 σ t p (-1) M) (ha : a ≤ 9) (h1 : 1 ≤ a) : ∃ (x : Int32) (M' : mz_M) (q : Nat) (w : Int32), mq_C mq_X10_readsPower [.ref 77, .int (nI a)] M (some (.int x), M') ∧ zrd M0 σ t q w M' ∧
    ((∃ n, ypw t p a = (some n, q) ∧ x = nI n ∧ w = -1) ∨ (ypw t p a = (none, q) ∧ w = nI q) ∨ (ypw t p a = (none, q) ∧ w = -1 ∧ x = nI 1 ∧ ¬ q = t.1 ∧ ¬ ysg t q = 43)) := by
  have hk := h.2.1
  have h100 := hk.1
  have hs := s_X10_sees h
  have ho := ysg_ok hk p
  have r49 : yI (ysg t p) = 49 ↔ ysg t p = 49 := yI_eq (c := 49) ho (by decide)
  have r120 : yI (ysg t p) = 120 ↔ ysg t p = 120 := yI_eq (c := 120) ho (by decide)
  have e19 : M.1 77 19 = nI p := h.2.2.2.2.1
  by_cases e1 : ysg t p = 49 ∧ a < 9
  · have hl := ysg_lt e1.1 (by decide)
    refine ⟨0, _, p + 1, -1, t_X10_readsPower_0 _ _ ⟨_, hs, fun c => absurd (r49.mpr e1.1) c, fun _ => ⟨fun c => ?_, fun _ => ⟨fun c => ?_, fun _ M5 e5 => ?_⟩⟩⟩, h.p (q := p + 1) (by omega), Or.inl ⟨0, by unfold ypw; rw [if_pos e1], rfl, rfl⟩⟩
    · rw [show (9 : Int32) = nI 9 from rfl, zn_le (by decide) (by omega)] at c
      omega
    · rw [zn_le0 (by omega)] at c
      omega
    · rw [e19, nI_1] at e5
      rw [e5]
  · have g31 : ∀ {res : mz_O}, mq_G mq_X10_readsPower (31, [some (.ref 77), some (.int (nI a))], [], M) res → mq_C mq_X10_readsPower [.ref 77, .int (nI a)] M res := by
      intro res g
      refine t_X10_readsPower_0 _ _ ⟨_, hs, fun _ => g, fun c => ⟨fun _ => g, fun d => absurd ?_ e1⟩⟩
      rw [show (9 : Int32) = nI 9 from rfl, zn_le (by decide) (by omega)] at d
      exact ⟨r49.mp (Classical.not_not.mp c), by omega⟩
    have u1 : ypw t p a = if ysg t p = 120 ∧ 2 ≤ a then (if 50 ≤ ysg t (p + 1) ∧ ysg t (p + 1) < 48 + a then (some (ysg t (p + 1) - 48), p + 2) else if a < 9 ∧ (p + 1 = t.1 ∨ ysg t (p + 1) = 43) then (some 1, p + 1) else (none, p + 1)) else (none, p) := by
      unfold ypw
      rw [if_neg e1]
    by_cases e2 : ysg t p = 120 ∧ 2 ≤ a
    · rw [if_pos e2] at u1
      have hl := ysg_lt e2.1 (by decide)
      obtain ⟨M4, d4⟩ : ∃ y, y = mz_wr M 77 (upd (M.1 77) 19 (nI (p + 1))) := ⟨_, rfl⟩
      have h4 : zrd M0 σ t (p + 1) (-1) M4 := by rw [d4]; exact h.p (by omega)
      have s4 := s_X10_sees h4
      have o4 := ysg_ok hk (p + 1)
      have c2 : (2 : Int32) ≤ nI a := by
        rw [show (2 : Int32) = nI 2 from rfl, zn_le (by decide) (by omega)]
        exact e2.2
      have e194 : M4.1 77 19 = nI (p + 1) := h4.2.2.2.2.1
      have hsub : ((48 : Int32) + nI a) - 1 = nI (47 + a) := by rw [show (48 : Int32) = nI 48 from rfl, nI_add, zs1 (by omega), show 48 + a - 1 = 47 + a by omega]
      have i90 : zbt (nI 50) (nI (47 + a)) (yI (ysg t (p + 1))) = true ↔ 50 ≤ ysg t (p + 1) ∧ ysg t (p + 1) ≤ 47 + a := yI_in o4 (by decide) (by omega)
      have i57 : zbt (nI 48) (nI 57) (yI (ysg t (p + 1))) = true ↔ 48 ≤ ysg t (p + 1) ∧ ysg t (p + 1) ≤ 57 := yI_in o4 (by decide) (by decide)
      have g4 : ∀ {res : mz_O}, (9 ≤ a → mq_G mq_X10_readsPower (90, [some (.ref 77), some (.int (nI a))], [], M4) res) → (a < 9 → (48 ≤ ysg t (p + 1) ∧ ysg t (p + 1) ≤ 57) → mq_G mq_X10_readsPower (90, [some (.ref 77), some (.int (nI a))], [], M4) res) → (a < 9 → ¬ (48 ≤ ysg t (p + 1) ∧ ysg t (p + 1) ≤ 57) → res = (some (.int 1), M4)) → mq_C mq_X10_readsPower [.ref 77, .int (nI a)] M res := by
        intro res k1 k2 k3
        refine g31 (t_X10_readsPower_31 _ _ ⟨_, hs, fun c => absurd (r120.mpr e2.1) c, fun _ => ⟨fun _ N n4 => ?_, fun c => absurd c2 c⟩⟩)
        rw [e19, nI_1, ← d4] at n4
        rw [n4, show (9 : Int32) = nI 9 from rfl, zn_le (by decide) (by omega)]
        refine ⟨k1, fun c => ⟨_, s4, ?_⟩⟩
        by_cases e : 48 ≤ ysg t (p + 1) ∧ ysg t (p + 1) ≤ 57
        · exact ⟨1, zin1 M4 (i57.mpr e), fun _ => k2 (by omega) e, fun c => absurd z10 c⟩
        · exact ⟨0, zin0 M4 (fun q => e (i57.mp q)), fun c => absurd rfl c, fun _ => k3 (by omega) e⟩
      by_cases e3 : 50 ≤ ysg t (p + 1) ∧ ysg t (p + 1) < 48 + a
      · rw [if_pos e3] at u1
        have hl2 : p + 1 < t.1 := ysg_lt rfl (by omega)
        have hz : ysg t (p + 1) = t.2 (p + 1) := by unfold ysg; rw [if_pos hl2]
        have g90 : mq_G mq_X10_readsPower (90, [some (.ref 77), some (.int (nI a))], [], M4) (some (.int (nI (ysg t (p + 1) - 48))), mz_wr M4 77 (upd (M4.1 77) 19 (nI (p + 2)))) := by
          refine t_X10_readsPower_90 _ _ ⟨_, s4, 1, by rw [hsub]; exact zin1 M4 (i90.mpr ⟨e3.1, by omega⟩), fun _ M5 e5 => ?_, fun c => absurd z10 c⟩
          rw [e194, nI_1] at e5
          rw [e5, zwr_s, zupd_s, zs1 (by omega), zwr_n (by decide)]
          refine ⟨zn_in (by omega) (by decide), ?_⟩
          have h82 := h4.2.2.2.1 (p + 1) hl2
          rw [← hz, ylo _ (by omega)] at h82
          rw [zn_cl (by omega), show p + 1 + 1 - 1 = p + 1 by omega, h82, show (48 : Int32) = nI 48 from rfl, zn_sub (by omega)]
        exact ⟨_, _, p + 2, -1, g4 (fun _ => g90) (fun _ _ => g90) (fun q1 q2 => absurd ⟨by omega, by omega⟩ q2), h4.p (q := p + 2) (by omega), Or.inl ⟨_, u1, rfl, rfl⟩⟩
      · rw [if_neg e3] at u1
        have f90 : ∃ M6, mq_G mq_X10_readsPower (90, [some (.ref 77), some (.int (nI a))], [], M4) (some (.int 0), M6) ∧ zrd M0 σ t (p + 1) (nI (p + 1)) M6 := by
          obtain ⟨M6, k1, k2⟩ := s_X10_fault h4 (nI (p + 1))
          exact ⟨M6, t_X10_readsPower_90 _ _ ⟨_, s4, 0, by rw [hsub]; exact zin0 M4 (fun q => e3 (by have := i90.mp q; omega)), fun c => absurd rfl c, fun _ => ⟨M6, by rw [e194]; exact k1, rfl⟩⟩, k2⟩
        obtain ⟨M6, k1, k2⟩ := f90
        by_cases e9 : a < 9
        · by_cases e : 48 ≤ ysg t (p + 1) ∧ ysg t (p + 1) ≤ 57
          · have hl2 : p + 1 < t.1 := ysg_lt rfl (by omega)
            rw [if_neg (by omega)] at u1
            exact ⟨0, M6, p + 1, _, g4 (fun q => by omega) (fun _ _ => k1) (fun _ q => absurd e q), k2, Or.inr (Or.inl ⟨u1, rfl⟩)⟩
          · refine ⟨1, M4, p + 1, -1, g4 (fun q => by omega) (fun _ q => absurd q e) (fun _ _ => rfl), h4, ?_⟩
            by_cases e4 : p + 1 = t.1 ∨ ysg t (p + 1) = 43
            · rw [if_pos ⟨e9, e4⟩] at u1
              exact Or.inl ⟨1, u1, rfl, rfl⟩
            · rw [if_neg (fun q => e4 q.2)] at u1
              exact Or.inr (Or.inr ⟨u1, rfl, rfl, fun q => e4 (Or.inl q), fun q => e4 (Or.inr q)⟩)
        · rw [if_neg (fun q => e9 q.1)] at u1
          exact ⟨0, M6, p + 1, _, g4 (fun _ => k1) (fun q => absurd q e9) (fun q => absurd q e9), k2, Or.inr (Or.inl ⟨u1, rfl⟩)⟩
    · rw [if_neg e2] at u1
      obtain ⟨M1, k1, k2⟩ := s_X10_fault h (nI p)
      have g45 : mq_G mq_X10_readsPower (45, [some (.ref 77), some (.int (nI a))], [], M) (some (.int 0), M1) := t_X10_readsPower_45 _ _ ⟨M1, by rw [e19]; exact k1, rfl⟩
      refine ⟨0, M1, p, nI p, g31 (t_X10_readsPower_31 _ _ ⟨_, hs, fun _ => g45, fun c => ⟨fun d => absurd ?_ e2, fun _ => g45⟩⟩), k2, Or.inr (Or.inl ⟨u1, rfl⟩)⟩
      rw [show (2 : Int32) = nI 2 from rfl, zn_le (by decide) (by omega)] at d
      exact ⟨r120.mp (Classical.not_not.mp c), d⟩
theorem ym1 {n : Nat} (h : n < 2 ^ 31) : ¬ nI n = -1 := fun q => nI_pos h (by rw [q]; decide)
theorem s_X10_readsPoly_7 : ∀ (k p a acc : Nat) (M : mz_M), zrd M0 σ t p (-1) M → a ≤ 9 → 1 ≤ a → a ≤ k → acc < 512 → (a < 9 → 4 ≤ acc) → ∃ (x : Int32) (M' : mz_M) (q' : Nat), mq_G mq_X10_readsPoly (7, [some (.ref 77), some (.int (nI acc)), some (.int (nI a)), some (.int 1)], [], M) (some (.int x), M') ∧ ((∃ P, (yrp t k p a acc).1 = some P ∧ x = nI P ∧ 4 ≤ P ∧ P < 512 ∧ zrd M0 σ t q' (-1) M') ∨ ((yrp t k p a acc).1 = none ∧ (yrp t k p a acc).2 ≤ t.1 ∧ zrd M0 σ t q' (nI (yrp t k p a acc).2) M'))
  | 0, p, a, acc, M, h, ha, h1, hk, hacc, hac4 => by omega
  | k + 1, p, a, acc, M, h, ha, h1, hk, hacc, hac4 => by
    have htk := h.2.1
    have h100 := htk.1
    obtain ⟨x, M3, q, w, g1, h3, g3⟩ := s_X10_readsPower h ha h1
    have hq := h3.2.2.2.2.2.1
    have e18 : M3.1 77 18 = nI t.1 := h3.2.2.1
    have e19 : M3.1 77 19 = nI q := h3.2.2.2.2.1
    have e20 : M3.1 77 20 = w := h3.2.2.2.2.2.2
    have hb := (ypw_p h.2.2.2.2.2.1 ha).2
    have e56 : ∀ {res : mz_O} (y z : Int32) (o : Option Value), mq_G mq_X10_readsPoly (75, [some (.ref 77), some (.int y), some (.int z), some (.int 0)], [], M3) res → mq_G mq_X10_readsPoly (56, [some (.ref 77), some (.int y), some (.int z), o], [], M3) res := fun y z o g =>
      t_X10_readsPoly_56 _ _ _ _ (t_X10_readsPoly_57 _ _ _ _ _ ⟨fun _ => t_X10_readsPoly_7 _ _ _ _ ⟨fun _ => g, fun c => absurd rfl c⟩, fun c => absurd rfl c⟩)
    have start : ∀ {res : mz_O}, ((¬ (M3.1 77 20) = (-1) → mq_G mq_X10_readsPoly (56, [some (.ref 77), some (.int (nI acc ||| ((1 : Int32) <<< (x &&& 31)))), some (.int x), some (.int 1)], [], M3) res) ∧ (¬ (¬ (M3.1 77 20) = (-1)) → ((x ≤ 0 → mq_G mq_X10_readsPoly (56, [some (.ref 77), some (.int (nI acc ||| ((1 : Int32) <<< (x &&& 31)))), some (.int x), some (.int 1)], [], M3) res) ∧ (¬ (x ≤ 0) → (∃ (r6 : Int32), (mq_C mq_X10_sees [.ref 77] M3 (some (.int r6), M3)) ∧ ((¬ r6 = 43 → mq_G mq_X10_readsPoly (56, [some (.ref 77), some (.int (nI acc ||| ((1 : Int32) <<< (x &&& 31)))), some (.int x), some (.int 1)], [], M3) res) ∧ (¬ (¬ r6 = 43) → mq_G mq_X10_readsPoly (57, [some (.ref 77), some (.int (nI acc ||| ((1 : Int32) <<< (x &&& 31)))), some (.int x), some (.int 1)], [.int 1], M3) res)))))) ) → mq_G mq_X10_readsPoly (7, [some (.ref 77), some (.int (nI acc)), some (.int (nI a)), some (.int 1)], [], M) res := fun g =>
      t_X10_readsPoly_7 _ _ _ _ ⟨fun c => absurd c z10, fun _ => ⟨fun c => absurd h.2.2.2.2.2.2 c, fun _ => ⟨x, M3, g1, g⟩⟩⟩
    have fault : ∀ (y z : Int32), w = -1 → q < t.1 → ∃ M', mq_G mq_X10_readsPoly (75, [some (.ref 77), some (.int y), some (.int z), some (.int 0)], [], M3) (some (.int y), M') ∧ zrd M0 σ t q (nI q) M' := by
      intro y z hw hqt
      subst hw
      obtain ⟨M', k1, k2⟩ := s_X10_fault h3 (nI q)
      refine ⟨M', t_X10_readsPoly_75 _ _ _ _ ⟨fun c => absurd e20 c, fun _ => ⟨fun c => ?_, fun _ => ⟨M', by rw [e19]; exact k1, t_X10_readsPoly_102 _ _ _ _ _ rfl⟩⟩⟩, k2⟩
      rw [e18, e19, zn_le (by omega) (by omega)] at c
      omega
    have hy : yrp t (k + 1) p a acc = yrp1 t acc (ypw t p a) (fun w acc' => yrp t k ((ypw t p a).2 + 1) w acc') := rfl
    rcases g3 with ⟨n, u1, hx, hw⟩ | ⟨u1, hw⟩ | ⟨u1, hw, hx, hq1, hq2⟩
    · have hn := hb n (by rw [u1])
      have hn8 : n ≤ 8 := by omega
      have hp8 : 2 ^ n ≤ 256 := zq256 hn8
      have hacc' : acc ||| 2 ^ n < 512 := Nat.or_lt_two_pow (n := 9) hacc (by omega)
      have hac4' : 4 ≤ acc ||| 2 ^ n := by
        by_cases e : a < 9
        · exact Nat.le_trans (hac4 e) Nat.left_le_or
        · have : 2 ^ 2 ≤ 2 ^ n := Nat.pow_le_pow_right (by decide) (by omega)
          exact Nat.le_trans this Nat.right_le_or
      have hsh : nI acc ||| ((1 : Int32) <<< (nI n &&& 31)) = nI (acc ||| 2 ^ n) := by rw [zone_shl (by omega), zn_or]
      have s3 := s_X10_sees h3
      have r43 : yI (ysg t q) = 43 ↔ ysg t q = 43 := yI_eq (c := 43) (ysg_ok htk q) (by decide)
      subst hx
      rw [hy, u1]
      unfold yrp1
      dsimp only
      rw [hsh] at start
      by_cases eq : q = t.1
      · rw [if_pos eq]
        have hns : ¬ ysg t q = 43 := fun z => by have := ysg_lt z (by decide); omega
        have g75 : mq_G mq_X10_readsPoly (75, [some (.ref 77), some (.int (nI (acc ||| 2 ^ n))), some (.int (nI n)), some (.int 0)], [], M3) (some (.int (nI (acc ||| 2 ^ n))), M3) := by
          refine t_X10_readsPoly_75 _ _ _ _ ⟨fun _ => t_X10_readsPoly_102 _ _ _ _ _ rfl, fun _ => ⟨fun _ => t_X10_readsPoly_102 _ _ _ _ _ rfl, fun c => absurd ?_ c⟩⟩
          rw [e18, e19, zn_le (by omega) (by omega)]
          omega
        refine ⟨_, M3, q, start ⟨fun _ => e56 _ _ _ g75, fun _ => ⟨fun _ => e56 _ _ _ g75, fun _ => ⟨_, s3, fun _ => e56 _ _ _ g75, fun c => absurd (fun z => hns (r43.mp z)) c⟩⟩⟩, Or.inl ⟨_, rfl, rfl, hac4', hacc', by rw [← hw]; exact h3⟩⟩
      · rw [if_neg eq]
        by_cases e0 : n = 0 ∨ ysg t q ≠ 43
        · rw [if_pos e0]
          obtain ⟨M', k1, k2⟩ := fault (nI (acc ||| 2 ^ n)) (nI n) hw (by omega)
          refine ⟨_, M', q, start ⟨fun _ => e56 _ _ _ k1, fun _ => ⟨fun _ => e56 _ _ _ k1, fun c => ⟨_, s3, fun _ => e56 _ _ _ k1, fun c2 => ?_⟩⟩⟩, Or.inr ⟨rfl, hq, k2⟩⟩
          rw [zn_le0 (by omega)] at c
          exact absurd (fun z => (e0.resolve_left c) (r43.mp z)) c2
        · rw [if_neg e0]
          have hs43 : ysg t q = 43 := Classical.byContradiction (fun z => e0 (Or.inr z))
          have hn0 : ¬ n = 0 := fun z => e0 (Or.inl z)
          have hlt := ysg_lt hs43 (by decide)
          rw [hw] at h3
          have h2 := h3.p (q := q + 1) (by omega)
          obtain ⟨x', M', q', k1, k2⟩ := s_X10_readsPoly_7 k (q + 1) n (acc ||| 2 ^ n) _ h2 (by omega) (by omega) (by omega) hacc' (fun _ => hac4')
          refine ⟨x', M', q', start ⟨fun c => absurd (e20.trans hw) c, fun _ => ⟨fun c => ?_, fun _ => ⟨_, s3, fun c => absurd (r43.mpr hs43) c, fun _ => t_X10_readsPoly_57 _ _ _ _ _ ⟨fun c => absurd c z10, fun _ M2 e2 => ?_⟩⟩⟩⟩, k2⟩
          · rw [zn_le0 (by omega)] at c
            exact absurd c hn0
          · rw [e19, nI_1] at e2
            rw [e2]
            exact k1
    · rw [hy, u1]
      have hne : ¬ M3.1 77 20 = -1 := by rw [e20, hw]; exact ym1 (by omega)
      refine ⟨_, M3, q, start ⟨fun _ => e56 _ _ _ (t_X10_readsPoly_75 _ _ _ _ ⟨fun _ => t_X10_readsPoly_102 _ _ _ _ _ rfl, fun c => absurd hne c⟩), fun c => absurd hne c⟩, Or.inr ⟨rfl, hq, ?_⟩⟩
      show zrd M0 σ t q (nI q) M3
      rw [← hw]
      exact h3
    · rw [hy, u1]
      have s3 := s_X10_sees h3
      have r43 : yI (ysg t q) = 43 ↔ ysg t q = 43 := yI_eq (c := 43) (ysg_ok htk q) (by decide)
      obtain ⟨M', k1, k2⟩ := fault (nI acc ||| ((1 : Int32) <<< (x &&& 31))) x hw (by omega)
      exact ⟨_, M', q, start ⟨fun c => absurd (e20.trans hw) c, fun _ => ⟨fun _ => e56 _ _ _ k1, fun _ => ⟨_, s3, fun _ => e56 _ _ _ k1, fun c => absurd (fun z => hq2 (r43.mp z)) c⟩⟩⟩, Or.inr ⟨rfl, hq, k2⟩⟩
/-- a field told: the state behind it -/
def ynew (σ : zSg) (P : Nat) : zSg := znow (zdo σ) (znew P P.log2)
def k_field (σ : zSg) : Int32 × zSg := match yrp σ.2.2.2.1 9 0 9 0 with
  | (none, q) => ((-21) - nI q, ztx σ (0, σ.2.2.2.1.2))
  | (some P, _) => if zirr P = true then (nI P.log2, ynew (ztx σ (0, σ.2.2.2.1.2)) P) else (-2, ztx σ (0, σ.2.2.2.1.2))
theorem s_ydeed {P : Nat} (h : zP M0 σ M) (h4 : 4 ≤ P) (h5 : P < 512) (hi : zirr P = true) : ∃ M7 M8, mq_C mq_X10_does [.ref 77] M (none, M7) ∧ mq_C mq_X10_fields [.ref 77, .int (nI P)] M7 (none, M8) ∧ zP M0 (ynew σ P) M8 ∧ M8.1 77 11 = nI P.log2 := by
  obtain ⟨g, hz⟩ := zirr_mem h4 h5 hi
  obtain ⟨M7, a1, a2, -⟩ := s_X10_does h
  obtain ⟨M8, b1, b2⟩ := s_X10_fields hz a2
  exact ⟨M7, M8, a1, b1, b2, b2.2.1.2.2.1⟩
theorem c_X10_field (h : zP M0 σ M) : zA M0 mq_X10_field [.ref 77] M (k_field σ) := by
  obtain ⟨M1, eM, h1, -⟩ := h.thr
  obtain ⟨M2, b1, b2⟩ := s_X10_begin h1
  obtain ⟨x, M3, q', g1, g2⟩ := s_X10_readsPoly_7 9 0 9 0 M2 b2 (Nat.le_refl 9) (by decide) (Nat.le_refl 9) (by decide) (fun c => absurd c (by decide))
  have rp : mq_C mq_X10_readsPoly [.ref 77] M2 (some (.int x), M3) := t_X10_readsPoly_0 _ g1
  unfold zA k_field
  rcases g2 with ⟨P, u1, rfl, p4, p5, h3⟩ | ⟨u1, u2, h3⟩
  · have hir := s_X10_isIrreducible M3 (show P < 1024 by omega)
    generalize yrp σ.2.2.2.1 9 0 9 0 = r at u1 ⊢
    obtain ⟨r1, r2⟩ := r
    have u1 : r1 = some P := u1
    subst u1
    dsimp only
    by_cases e : zirr P = true
    · rw [if_pos e]
      rw [e] at hir
      obtain ⟨M7, M8, a1, a2, a3, a4⟩ := s_ydeed h3.1 p4 p5 e
      refine ⟨M8, t_X10_field_0 _ (fun N n1 => ?_), a3⟩
      obtain rfl := n1.trans eM
      exact ⟨M2, b1, _, M3, rp, fun _ => ⟨1, hir, fun _ => ⟨M7, a1, M8, a2, by rw [a4]⟩, fun c => absurd z10 c⟩, fun c => absurd h3.2.2.2.2.2.2 c⟩
    · rw [if_neg e]
      rw [show zirr P = false by simpa using e] at hir
      refine ⟨M3, t_X10_field_0 _ (fun N n1 => ?_), h3.1⟩
      obtain rfl := n1.trans eM
      exact ⟨M2, b1, _, M3, rp, fun _ => ⟨0, hir, fun c => absurd rfl c, fun _ => rfl⟩, fun c => absurd h3.2.2.2.2.2.2 c⟩
  · generalize yrp σ.2.2.2.1 9 0 9 0 = r at u1 u2 h3 ⊢
    obtain ⟨r1, r2⟩ := r
    have u2 : r2 ≤ σ.2.2.2.1.1 := u2
    have h100 := h.tk.1
    have u1 : r1 = none := u1
    subst u1
    dsimp only
    refine ⟨M3, t_X10_field_0 _ (fun N n1 => ?_), h3.1⟩
    obtain rfl := n1.trans eM
    refine ⟨M2, b1, _, M3, rp, fun c => absurd (h3.2.2.2.2.2.2.symm.trans c) (ym1 (by omega)), fun _ => by rw [h3.2.2.2.2.2.2]⟩
end ZC11
