/-! the reference's rank -/
/-- nothing changed but ints of some cells -/
def zK (S : List Nat) (M M' : mz_M) : Prop := M'.2 = M.2 ∧ ∀ b, b ∉ S → M'.1 b = M.1 b
theorem zK.rf (S : List Nat) (M : mz_M) : zK S M M := ⟨rfl, fun _ _ => rfl⟩
theorem zK.tr {S : List Nat} {M M1 M2 : mz_M} (h1 : zK S M M1) (h2 : zK S M1 M2) : zK S M M2 := ⟨h2.1.trans h1.1, fun b hb => (h2.2 b hb).trans (h1.2 b hb)⟩
theorem zK.sub {S S' : List Nat} {M M' : mz_M} (h : zK S M M') (hs : ∀ b ∈ S, b ∈ S') : zK S' M M' := ⟨h.1, fun b hb => h.2 b (fun q => hb (hs b q))⟩
theorem zK.wr {S : List Nat} {M : mz_M} {a : Nat} {f : Nat → Int32} (ha : a ∈ S) : zK S M (mz_wr M a f) := ⟨rfl, fun b hb => by
  have : ¬ b = a := fun q => hb (q ▸ ha)
  simp [mz_wr, this]⟩
theorem zwr_s (M : mz_M) (a : Nat) (f : Nat → Int32) : (mz_wr M a f).1 a = f := by simp [mz_wr]
theorem zwr_n {M : mz_M} {a b : Nat} {f : Nat → Int32} (h : ¬ b = a) : (mz_wr M a f).1 b = M.1 b := by simp [mz_wr, h]
theorem zupd_s (f : Nat → Int32) (k : Nat) (x : Int32) : upd f k x k = x := by simp [upd]
theorem zupd_n {f : Nat → Int32} {k j : Nat} {x : Int32} (h : ¬ j = k) : upd f k x j = f j := by simp [upd, h]
/-- the lesser of r and r with s added has not s's highest bit -/
theorem zmin_bit {r s l : Nat} (hb : s.testBit l = true) (hs : s < 2 ^ (l + 1)) : (r.testBit l = true → r ^^^ s < r) ∧ (r.testBit l = false → ¬ r ^^^ s < r) := by
  have hd : (r ^^^ s) / 2 ^ (l + 1) = r / 2 ^ (l + 1) := by rw [Nat.xor_div_two_pow, Nat.div_eq_of_lt hs, Nat.xor_zero]
  have e1 := Nat.div_add_mod r (2 ^ (l + 1))
  have e2 := Nat.div_add_mod (r ^^^ s) (2 ^ (l + 1))
  rw [hd] at e2
  have hx : (r ^^^ s).testBit l = !(r.testBit l) := by rw [Nat.testBit_xor, hb]; cases r.testBit l <;> rfl
  have hmod : ∀ x : Nat, (x.testBit l = true → 2 ^ l ≤ x % 2 ^ (l + 1)) ∧ (x.testBit l = false → x % 2 ^ (l + 1) < 2 ^ l) := by
    intro x
    have h1 : (x % 2 ^ (l + 1)).testBit l = x.testBit l := by
      rw [Nat.testBit_mod_two_pow]
      simp
    have h2 := Nat.mod_lt x (Nat.two_pow_pos (l + 1))
    constructor
    · intro h
      exact Nat.ge_two_pow_of_testBit (h1.trans h)
    · intro h
      exact zlt_bit h2 (h1.trans h)
  constructor
  · intro h
    have h3 := (hmod r).1 h
    have h4 := (hmod (r ^^^ s)).2 (by rw [hx, h]; rfl)
    omega
  · intro h
    have h3 := (hmod r).2 h
    have h4 := (hmod (r ^^^ s)).1 (by rw [hx, h]; rfl)
    omega
/-- the steps that rank() has laid down of the first i -/
def zst (v st : Nat → Nat) (i r : Nat) (M : mz_M) : Prop := r = rk v i ∧ (∀ k, k < r → M.1 85 k = nI (st k) ∧ st k < 2 ^ 8 ∧ st k ≠ 0) ∧ ech st (fun k => (st k).log2) r ∧ ∀ e, sp st r e ↔ sp v i e
theorem s_X10_rank_20 {v st : Nat → Nat} {n i r : Nat} (hn : n ≤ 8) (hi : i < n) (hv : v i < 2 ^ 8) {M : mz_M} (h : zst v st i r M) :
    ∀ (f k red : Nat), k + f = r → red < 2 ^ 8 → sp st r (red ^^^ v i) → (∀ j, j < k → red.testBit (st j).log2 = false) → ∃ (st' : Nat → Nat) (r' : Nat) (M' : mz_M) (o4 o5 : Option Value), zK [85] M M' ∧ zst v st' (i + 1) r' M' ∧ ∀ res, mq_G mq_X10_rank (4, [some (.ref 77), some (.int (nI n)), some (.int (nI r')), some (.int (nI (i + 1))), o4, o5], [], M') res → mq_G mq_X10_rank (20, [some (.ref 77), some (.int (nI n)), some (.int (nI r)), some (.int (nI i)), some (.int (nI red)), some (.int (nI k))], [], M) res
  | 0, k, red, hk, hr, hs, hz => by
    obtain rfl : k = r := by omega
    obtain ⟨h1, h2, h3, h4⟩ := h
    have hkn : k ≤ i := by rw [h1]; exact rk_le v i
    by_cases c : red = 0
    · subst c
      rw [Nat.zero_xor] at hs
      have hin := (h4 _).mp hs
      refine ⟨st, k, M, some (.int (nI 0)), some (.int (nI k)), zK.rf _ _, ⟨?_, h2, h3, fun e => ?_⟩, fun res g => t_X10_rank_20 _ _ _ _ _ _ ⟨fun _ => ⟨fun c => absurd rfl c, fun _ => ?_⟩, fun c => absurd ((zn_le (by omega) (by omega)).mpr (Nat.le_refl k)) c⟩⟩
      · rw [rk_in hin]; exact h1
      · rw [h4]
        constructor
        · exact Or.inl
        · rintro (q | q)
          · exact q
          · have q2 := sp_x q hin
            rw [zxx] at q2
            exact q2
      · rw [nI_1]
        exact g
    · have hout : ¬ sp v i (v i) := by
        intro q
        have q2 := sp_x hs ((h4 _).mpr q)
        rw [zxx] at q2
        exact c (ech_zero h3 q2 hz)
      refine ⟨fun j => if j = k then red else st j, k + 1, mz_wr M 85 (upd (M.1 85) k (nI red)), some (.int (nI red)), some (.int (nI k)), zK.wr (by simp), ⟨?_, ?_, ?_, ?_⟩, fun res g => t_X10_rank_20 _ _ _ _ _ _ ⟨fun _ => ⟨fun _ => ⟨zn_in (by omega) (by decide), fun M3 e3 => ?_⟩, fun c2 => absurd (fun q => c ((zn_eq0 (by omega)).mp q)) c2⟩, fun c => absurd ((zn_le (by omega) (by omega)).mpr (Nat.le_refl k)) c⟩⟩
      · rw [rk_out hout, ← h1]
      · intro j hj
        by_cases e : j = k
        · subst e
          rw [zwr_s, zupd_s]
          simp only [if_true]
          exact ⟨trivial, hr, c⟩
        · rw [zwr_s, zupd_n e]
          simp only [e, if_false]
          exact h2 j (by omega)
      · constructor
        · intro j hj
          by_cases e : j = k
          · subst e
            simp only [if_true]
            exact Nat.testBit_log2 c
          · simp only [e, if_false]
            exact h3.1 j (by omega)
        · intro j j2 hj hj2
          have e : ¬ j = k := by omega
          by_cases e2 : j2 = k
          · subst e2
            simp only [e, if_false, if_true]
            exact hz j (by omega)
          · simp only [e, e2, if_false]
            exact h3.2 j j2 hj (by omega)
      · intro e
        have hsame : ∀ x, sp (fun j => if j = k then red else st j) k x ↔ sp st k x := fun x => ⟨sp_ext (fun j hj => by simp [show ¬ j = k by omega]), sp_ext (fun j hj => by simp [show ¬ j = k by omega])⟩
        show (sp (fun j => if j = k then red else st j) k e ∨ sp (fun j => if j = k then red else st j) k (e ^^^ (if k = k then red else st k))) ↔ (sp v i e ∨ sp v i (e ^^^ v i))
        rw [hsame, hsame, h4, h4, if_pos rfl]
        have hs2 := (h4 _).mp hs
        constructor
        · rintro (q | q)
          · exact Or.inl q
          · refine Or.inr ?_
            have q2 := sp_x q hs2
            rw [show (e ^^^ red) ^^^ (red ^^^ v i) = (e ^^^ v i) ^^^ (red ^^^ red) by ac_rfl, Nat.xor_self, Nat.xor_zero] at q2
            exact q2
        · rintro (q | q)
          · exact Or.inl q
          · refine Or.inr ?_
            have q2 := sp_x q hs2
            rw [show (e ^^^ v i) ^^^ (red ^^^ v i) = (e ^^^ red) ^^^ (v i ^^^ v i) by ac_rfl, Nat.xor_self, Nat.xor_zero] at q2
            exact q2
      · rw [zn_cl (by omega)] at e3
        rw [e3, nI_1, nI_1]
        exact g
  | f + 1, k, red, hk, hr, hs, hz => by
    have h' := h
    obtain ⟨h1, h2, h3, h4⟩ := h
    have hkn : r ≤ i := by rw [h1]; exact rk_le v i
    obtain ⟨g1, g2, g3⟩ := h2 k (by omega)
    have hx : red ^^^ st k < 2 ^ 8 := Nat.xor_lt_two_pow hr g2
    have go : ∀ red2, red2 = (if nI (red ^^^ st k) < nI red then red ^^^ st k else red) → (∃ (st' : Nat → Nat) (r' : Nat) (M' : mz_M) (o4 o5 : Option Value), zK [85] M M' ∧ zst v st' (i + 1) r' M' ∧ ∀ res, mq_G mq_X10_rank (4, [some (.ref 77), some (.int (nI n)), some (.int (nI r')), some (.int (nI (i + 1))), o4, o5], [], M') res → mq_G mq_X10_rank (20, [some (.ref 77), some (.int (nI n)), some (.int (nI r)), some (.int (nI i)), some (.int (nI red2)), some (.int (nI (k + 1)))], [], M) res) → ∃ (st' : Nat → Nat) (r' : Nat) (M' : mz_M) (o4 o5 : Option Value), zK [85] M M' ∧ zst v st' (i + 1) r' M' ∧ ∀ res, mq_G mq_X10_rank (4, [some (.ref 77), some (.int (nI n)), some (.int (nI r')), some (.int (nI (i + 1))), o4, o5], [], M') res → mq_G mq_X10_rank (20, [some (.ref 77), some (.int (nI n)), some (.int (nI r)), some (.int (nI i)), some (.int (nI red)), some (.int (nI k))], [], M) res := by
      rintro red2 er ⟨st', r', M', o4, o5, k1, k2, k3⟩
      refine ⟨st', r', M', o4, o5, k1, k2, fun res g => t_X10_rank_20 _ _ _ _ _ _ ⟨fun c => ?_, fun _ => ⟨zn_in (by omega) (by decide), ?_⟩⟩⟩
      · rw [zn_le (by omega) (by omega)] at c
        omega
      · rw [zn_cl (by omega), g1, zn_xor, nI_1]
        have k4 := k3 res g
        rw [er] at k4
        split at k4
        · next q => rw [if_pos q]; exact k4
        · next q => rw [if_neg q]; exact k4
    obtain ⟨m1, m2⟩ := zmin_bit (r := red) (Nat.testBit_log2 g3) Nat.lt_log2_self
    by_cases hb : red.testBit (st k).log2 = true
    · refine go (red ^^^ st k) (by rw [if_pos ((zn_lt (by omega) (by omega)).mpr (m1 hb))]) (s_X10_rank_20 hn hi hv h' f (k + 1) (red ^^^ st k) (by omega) hx ?_ ?_)
      · rw [show (red ^^^ st k) ^^^ v i = (red ^^^ v i) ^^^ st k by ac_rfl]
        exact sp_x hs (sp_mem st (by omega))
      · intro j hj
        rw [Nat.testBit_xor]
        by_cases e : j = k
        · subst e
          rw [hb, Nat.testBit_log2 g3]
          rfl
        · rw [hz j (by omega), h3.2 j k (by omega) (by omega)]
          rfl
    · have hb2 : red.testBit (st k).log2 = false := by simpa using hb
      refine go red (by rw [if_neg (fun q => m2 hb2 ((zn_lt (by omega) (by omega)).mp q))]) (s_X10_rank_20 hn hi hv h' f (k + 1) red (by omega) hr hs ?_)
      intro j hj
      by_cases e : j = k
      · subst e; exact hb2
      · exact hz j (by omega)
theorem s_X10_rank_4 {v : Nat → Nat} {n : Nat} (hn : n ≤ 8) : ∀ (f i r : Nat) (st : Nat → Nat) (M : mz_M) (o4 o5 : Option Value), i + f = n → (∀ j, j < n → M.1 84 j = nI (v j) ∧ v j < 2 ^ 8) → zst v st i r M → ∃ M', mq_G mq_X10_rank (4, [some (.ref 77), some (.int (nI n)), some (.int (nI r)), some (.int (nI i)), o4, o5], [], M) (some (.int (nI (rk v n))), M') ∧ zK [85] M M'
  | 0, i, r, st, M, o4, o5, hi, hv, h => by
    obtain rfl : i = n := by omega
    refine ⟨M, t_X10_rank_4 _ _ _ _ _ _ ⟨fun _ => ?_, fun c => absurd ((zn_le (by omega) (by omega)).mpr (Nat.le_refl _)) c⟩, zK.rf _ _⟩
    rw [h.1]
  | f + 1, i, r, st, M, o4, o5, hi, hv, h => by
    obtain ⟨v1, v2⟩ := hv i (by omega)
    obtain ⟨st', r', M', p4, p5, k1, k2, k3⟩ := s_X10_rank_20 hn (by omega) v2 h r 0 (v i) (by omega) v2 (by rw [Nat.xor_self]; exact sp_0 st r) (fun j hj => absurd hj (by omega))
    obtain ⟨M2, g2, g3⟩ := s_X10_rank_4 hn f (i + 1) r' st' M' p4 p5 (by omega) (fun j hj => by rw [k1.2 84 (by decide)]; exact hv j hj) k2
    refine ⟨M2, t_X10_rank_4 _ _ _ _ _ _ ⟨fun c => ?_, fun _ => ⟨zn_in (by omega) (by decide), ?_⟩⟩, k1.tr g3⟩
    · rw [zn_le (by omega) (by omega)] at c
      omega
    · rw [zn_cl (by omega), v1]
      exact k3 _ g2
theorem s_X10_rank {v : Nat → Nat} {n : Nat} (hn : n ≤ 8) (M : mz_M) (hv : ∀ j, j < n → M.1 84 j = nI (v j) ∧ v j < 2 ^ 8) : ∃ M', mq_C mq_X10_rank [.ref 77, .int (nI n)] M (some (.int (nI (rk v n))), M') ∧ zK [85] M M' := by
  obtain ⟨M2, g2, g3⟩ := s_X10_rank_4 hn n 0 0 (fun _ => 0) M none none (by omega) hv ⟨rfl, fun k hk => absurd hk (by omega), ⟨fun k hk => absurd hk (by omega), fun k j _ hj => absurd hj (by omega)⟩, fun e => Iff.rfl⟩
  exact ⟨M2, t_X10_rank_0 _ _ g2, g3⟩
