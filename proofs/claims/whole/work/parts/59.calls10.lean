/-! calls of the reference: fits, maps, irreducibles; how many roots a polynomial has -/
section RTS
variable {P m g : Nat}
def pe (P m : Nat) : List Nat → Nat → Nat
  | [], _ => 0
  | c :: l, a => c ^^^ fm P m a (pe P m l a)
theorem pe_lt (hg : fgood P m) : ∀ {l : List Nat}, (∀ c ∈ l, c < 2 ^ m) → ∀ {a : Nat}, a < 2 ^ m → pe P m l a < 2 ^ m
  | [], _, a, _ => Nat.two_pow_pos m
  | c :: l, h, a, ha => Nat.xor_lt_two_pow (h c List.mem_cons_self) (fm_lt hg ha)
def zsy (P m r : Nat) : List Nat → List Nat
  | [] => []
  | [_] => []
  | _ :: d :: l => pe P m (d :: l) r :: zsy P m r (d :: l)
theorem zsy_lt (hg : fgood P m) {r : Nat} (hr : r < 2 ^ m) : ∀ {l : List Nat}, (∀ c ∈ l, c < 2 ^ m) → ∀ c ∈ zsy P m r l, c < 2 ^ m
  | [], _, c, hc => nomatch hc
  | [_], _, c, hc => nomatch hc
  | _ :: d :: l, h, c, hc => by
    rcases List.mem_cons.mp hc with e | e
    · rw [e]; exact pe_lt hg (fun c hc => h c (List.mem_cons_of_mem _ hc)) hr
    · exact zsy_lt hg hr (fun c hc => h c (List.mem_cons_of_mem _ hc)) c e
theorem zsy_len (r : Nat) : ∀ (c : Nat) (l : List Nat), (zsy P m r (c :: l)).length = l.length
  | _, [] => rfl
  | _, d :: l => by
    show (zsy P m r (d :: l)).length + 1 = l.length + 1
    rw [zsy_len r d l]
theorem pe_fac (hg : fgood P m) {a r : Nat} (ha : a < 2 ^ m) (hr : r < 2 ^ m) : ∀ {l : List Nat}, (∀ c ∈ l, c < 2 ^ m) → pe P m l a ^^^ pe P m l r = fm P m (a ^^^ r) (pe P m (zsy P m r l) a)
  | [], _ => by
    show 0 ^^^ 0 = fm P m _ 0
    rw [fm_zero_r, Nat.xor_self]
  | [c], _ => by
    show (c ^^^ fm P m a 0) ^^^ (c ^^^ fm P m r 0) = fm P m _ 0
    rw [fm_zero_r, fm_zero_r, fm_zero_r, Nat.xor_self]
  | c :: d :: l, h => by
    have hl : ∀ c ∈ d :: l, c < 2 ^ m := fun c hc => h c (List.mem_cons_of_mem _ hc)
    have ih := pe_fac hg ha hr hl
    have h1 := pe_lt hg hl ha
    have h2 := pe_lt hg hl hr
    have hz := pe_lt hg (zsy_lt hg hr hl) ha
    have hx := Nat.xor_lt_two_pow ha hr
    show (c ^^^ fm P m a (pe P m (d :: l) a)) ^^^ (c ^^^ fm P m r (pe P m (d :: l) r)) = fm P m (a ^^^ r) (pe P m (d :: l) r ^^^ fm P m a (pe P m (zsy P m r (d :: l)) a))
    rw [zx4, Nat.xor_self, Nat.zero_xor, fm_xr, ← fm_assoc hg hx ha hz, fm_comm hg hx ha, fm_assoc hg ha hx hz, ← ih, fm_xr, fm_xl]
    rw [Nat.xor_comm (fm P m a (pe P m (d :: l) a)) (fm P m a (pe P m (d :: l) r)), ← Nat.xor_assoc]
    rw [show ((fm P m a (pe P m (d :: l) r) ^^^ fm P m r (pe P m (d :: l) r)) ^^^ fm P m a (pe P m (d :: l) r)) = fm P m r (pe P m (d :: l) r) by rw [Nat.xor_comm (fm P m a (pe P m (d :: l) r)), zxx]]
    rw [Nat.xor_comm]
def zlst1 : List Nat → Nat
  | [] => 0
  | [c] => c
  | _ :: d :: l => zlst1 (d :: l)
theorem zsy_last (r : Nat) : ∀ (c d : Nat) (l : List Nat), zlst1 (zsy P m r (c :: d :: l)) = zlst1 (d :: l)
  | c, d, [] => by
    show d ^^^ fm P m r 0 = d
    rw [fm_zero_r, Nat.xor_zero]
  | c, d, e :: l => zsy_last r d e l
theorem pe_roots (hg : fgood P m) (hc : fcy P m g) : ∀ (n : Nat) (l : List Nat), l.length = n + 1 → (∀ c ∈ l, c < 2 ^ m) → zlst1 l ≠ 0 → ∀ R : List Nat, R.Nodup → (∀ a ∈ R, a < 2 ^ m ∧ pe P m l a = 0) → R.length ≤ n
  | 0, l, hl, hlt, h0, R, hR, h => by
    match l, hl with
    | [c], _ =>
      cases R with
      | nil => exact Nat.le_refl 0
      | cons a R =>
        have := (h a List.mem_cons_self).2
        rw [show pe P m [c] a = c ^^^ fm P m a 0 from rfl, fm_zero_r, Nat.xor_zero] at this
        exact absurd this h0
  | n + 1, l, hl, hlt, h0, R, hR, h => by
    match l, hl with
    | c :: d :: l, hl =>
      cases R with
      | nil => exact Nat.zero_le _
      | cons r R =>
        have hr := h r List.mem_cons_self
        have hn := List.nodup_cons.mp hR
        have ih := pe_roots hg hc n (zsy P m r (c :: d :: l)) (by rw [zsy_len]; simpa using hl) (zsy_lt hg hr.1 hlt) (by rw [zsy_last]; exact h0) R hn.2 (fun a ha => by
          have h1 := h a (List.mem_cons_of_mem _ ha)
          refine ⟨h1.1, ?_⟩
          have h2 := pe_fac hg h1.1 hr.1 hlt
          rw [h1.2, hr.2, Nat.xor_self] at h2
          rcases fm_nz hg hc (Nat.xor_lt_two_pow h1.1 hr.1) (pe_lt hg (zsy_lt hg hr.1 hlt) h1.1) h2.symm with q | q
          · have := zx_eq q
            rw [this] at ha
            exact absurd ha hn.1
          · exact q)
        simp only [List.length_cons]
        omega
def zbl (p : Nat) : Nat → Nat → List Nat
  | 0, _ => []
  | k + 1, i => (p / 2 ^ i % 2) :: zbl p k (i + 1)
theorem zbl_len (p : Nat) : ∀ k i, (zbl p k i).length = k
  | 0, _ => rfl
  | k + 1, i => by simp [zbl, zbl_len p k]
theorem zbl_lt (hg : fgood P m) (p : Nat) : ∀ k i, ∀ c ∈ zbl p k i, c < 2 ^ m
  | 0, _, c, hc => nomatch hc
  | k + 1, i, c, hc => by
    rcases List.mem_cons.mp hc with e | e
    · rw [e]; exact Nat.lt_of_lt_of_le (Nat.mod_lt _ (by decide)) (f1_lt hg)
    · exact zbl_lt hg p k (i + 1) c e
theorem zbl_last (p : Nat) : ∀ k i, zlst1 (zbl p (k + 1) i) = p / 2 ^ (i + k) % 2
  | 0, i => rfl
  | k + 1, i => by
    have := zbl_last p k (i + 1)
    rw [show i + 1 + k = i + (k + 1) by omega] at this
    exact this
theorem zbl_pe (hg : fgood P m) {a p : Nat} (ha : a < 2 ^ m) : ∀ k i, fm P m (fpw P m a i) (pe P m (zbl p k i) a) ^^^ zcb (fpw P m a) i p = zcb (fpw P m a) (i + k) p
  | 0, i => by
    show fm P m _ 0 ^^^ _ = _
    rw [fm_zero_r, Nat.zero_xor]; rfl
  | k + 1, i => by
    have ih := zbl_pe hg (p := p) ha k (i + 1)
    have hp := fpw_lt hg ha i
    have hl := pe_lt hg (zbl_lt hg p k (i + 1)) ha
    have hb : p / 2 ^ i % 2 < 2 ^ m := Nat.lt_of_lt_of_le (Nat.mod_lt _ (by decide)) (f1_lt hg)
    rw [show i + 1 + k = i + (k + 1) by omega] at ih
    rw [← ih]
    show fm P m (fpw P m a i) (p / 2 ^ i % 2 ^^^ fm P m a (pe P m (zbl p k (i + 1)) a)) ^^^ zcb (fpw P m a) i p = fm P m (fm P m (fpw P m a i) a) _ ^^^ (zcb (fpw P m a) i p ^^^ _)
    rw [fm_xr, ← fm_assoc hg hp ha hl]
    rw [show fm P m (fpw P m a i) (p / 2 ^ i % 2) = if p.testBit i = true then fpw P m a i else 0 by
      by_cases q : p / 2 ^ i % 2 = 1
      · rw [q, zbit_t q, fm_one_r hg hp]; rfl
      · rw [zbit_f q, show p / 2 ^ i % 2 = 0 by omega, fm_zero_r]; rfl]
    ac_rfl
/-- how many roots at most -/
theorem zva_roots (hg : fgood P m) (hc : fcy P m g) {p : Nat} (h2 : 2 ≤ p) (hp : p < 512) (R : List Nat) (hR : R.Nodup) (h : ∀ a ∈ R, a < 2 ^ m ∧ zva P m a p = 0) : R.length ≤ p.log2 := by
  have hl : p.log2 ≤ 8 := by
    have := (Nat.log2_lt (show p ≠ 0 by omega)).mpr (show p < 2 ^ 9 from hp)
    omega
  have hhi := zlog_hi p
  have hlo := zlog_lo (show p ≠ 0 by omega)
  refine pe_roots hg hc p.log2 (zbl p (p.log2 + 1) 0) (zbl_len _ _ _) (zbl_lt hg p _ _) ?_ R hR (fun a ha => ⟨(h a ha).1, ?_⟩)
  · rw [zbl_last, Nat.zero_add]
    have : p / 2 ^ p.log2 = 1 := by
      rw [Nat.pow_succ] at hhi
      exact Nat.div_eq_of_lt_le (by omega) (by omega)
    rw [this]
    decide
  · have h1 := zbl_pe hg (p := p) (h a ha).1 (p.log2 + 1) 0
    rw [show fpw P m a 0 = 1 from rfl, fm_one hg (pe_lt hg (zbl_lt hg p _ _) (h a ha).1), show zcb (fpw P m a) 0 p = 0 from rfl, Nat.xor_zero, Nat.zero_add] at h1
    have h3 := zcb_lo (fpw P m a) (n := p.log2 + 1) (k := 9 - (p.log2 + 1)) hhi
    rw [show p.log2 + 1 + (9 - (p.log2 + 1)) = 9 by omega] at h3
    rw [h1, ← h3]
    exact (h a ha).2
end RTS
def zlis (p : Nat → Bool) : Nat → Nat → List Nat
  | 0, _ => []
  | f + 1, a => if p a = true then a :: zlis p f (a + 1) else zlis p f (a + 1)
theorem zlis_mem {p : Nat → Bool} : ∀ {f a x : Nat}, x ∈ zlis p f a → a ≤ x ∧ x < a + f ∧ p x = true
  | 0, a, x, h => nomatch h
  | f + 1, a, x, h => by
    unfold zlis at h
    split at h
    · next e =>
      rcases List.mem_cons.mp h with q | q
      · rw [q]; exact ⟨Nat.le_refl _, by omega, e⟩
      · obtain ⟨h1, h2, h3⟩ := zlis_mem q
        exact ⟨by omega, by omega, h3⟩
    · obtain ⟨h1, h2, h3⟩ := zlis_mem h
      exact ⟨by omega, by omega, h3⟩
theorem zlis_nodup (p : Nat → Bool) : ∀ f a, (zlis p f a).Nodup
  | 0, a => List.nodup_nil
  | f + 1, a => by
    unfold zlis
    split
    · exact List.nodup_cons.mpr ⟨fun q => by have := (zlis_mem q).1; omega, zlis_nodup p f (a + 1)⟩
    · exact zlis_nodup p f (a + 1)
theorem zpt_deg {m : Nat} {x : Int32} (h8 : m ≤ 8) (h : zpt m (zdeg x) = true) : ∃ g, 2 ≤ g ∧ g < 512 ∧ x = nI g ∧ zdeg x = nI g.log2 ∧ 0 < g.log2 ∧ g.log2 ≤ m ∧ m % g.log2 = 0 := by
  obtain ⟨d, h1, h2, h3, h4⟩ := zpt_iff.mp h
  by_cases hx : x ≤ 0
  · exfalso
    have : zdeg x = -1 := by unfold zdeg; rw [if_pos hx]
    rw [this] at h4
    have := zn_ge0 (a := d) (by omega)
    rw [← h4] at this
    exact absurd this (by decide)
  · obtain ⟨g, hg, rfl⟩ := zn_of (Int32.le_of_lt (Int32.not_le.mp hx))
    rw [zn_le0 hg] at hx
    have e := zlog_deg hx hg
    rw [e] at h4
    have hl := (Nat.log2_lt hx).mpr (show g < 2 ^ 31 from hg)
    have h5 := (zn_eq (by omega) (by omega)).mp h4
    have hhi := zlog_hi g
    have hlo := zlog_lo hx
    rw [h5] at hhi hlo
    have q1 : 2 ^ (d + 1) ≤ 2 ^ 9 := Nat.pow_le_pow_right (by decide) (by omega)
    have q2 : 2 ^ 1 ≤ 2 ^ d := Nat.pow_le_pow_right (by decide) h2
    exact ⟨g, by omega, by omega, rfl, e, by omega, by omega, by rw [h5]; exact h3⟩
theorem zirr_mem {p : Nat} (h1 : 4 ≤ p) (h2 : p < 512) (h : zirr p = true) : ∃ g, (p, p.log2, g) ∈ zirrs := by
  have h3 := zall_iff zirr_512 p h2
  simp only [h, Bool.or_eq_true, Nat.blt_eq] at h3
  rcases h3 with h3 | h3
  · omega
  · obtain ⟨⟨q1, q2, q3⟩, hq, rfl⟩ := zamong_iff h3
    have hg := (zirrs_ok _ hq).1
    have hl : q1.log2 = q2 := by
      have a1 := hg.2.2.1
      have a2 := hg.2.2.2.1
      have b1 := zlog_lo (show q1 ≠ 0 by omega)
      have b2 := zlog_hi q1
      have c1 : q1.log2 < q2 + 1 := (Nat.pow_lt_pow_iff_right (by decide)).mp (Nat.lt_of_le_of_lt b1 a2)
      have c2 : q2 < q1.log2 + 1 := (Nat.pow_lt_pow_iff_right (by decide)).mp (Nat.lt_of_le_of_lt a1 b2)
      omega
    exact ⟨q3, by rw [hl]; exact hq⟩
section ZC10
variable {M0 M M' : mz_M} {σ : zSg}
theorem s_X10_isUnder1 (h : zP M0 σ M) {x : Int32} (hx : zpt σ.1.2.1 (zdeg x) = true) : mq_C mq_X10_isUnder [.ref 77, .int x] M (some (.int 1), M) := by
  obtain ⟨g, g2, g512, rfl, e, -⟩ := zpt_deg h.g.2.1 hx
  refine t_X10_isUnder_0 _ _ ⟨fun c => ?_, fun _ => ⟨fun c => ?_, fun _ => ⟨_, s_X10_degree M _, _, h.pt1 hx, fun c => absurd c z10, fun _ => rfl⟩⟩⟩
  · have c : nI g ≤ nI 1 := c
    rw [zn_le (by omega) (by decide)] at c
    omega
  · have c : nI 512 ≤ nI g := c
    rw [zn_le (by decide) (by omega)] at c
    omega
theorem s_X10_isUnder0 (h : zP M0 σ M) {x : Int32} (hx : ¬ zpt σ.1.2.1 (zdeg x) = true) : mq_C mq_X10_isUnder [.ref 77, .int x] M (some (.int 0), M) :=
  t_X10_isUnder_0 _ _ ⟨fun _ => rfl, fun _ => ⟨fun _ => rfl, fun _ => ⟨_, s_X10_degree M _, _, h.pt0 hx, fun _ => rfl, fun c => absurd rfl c⟩⟩⟩
def zrs (P m p a : Nat) : Bool := Nat.beq (zva P m a p) 0
theorem c_X10_fits_32 {p : Nat} {L : List Nat} (hp : p < 512) (hL : L.length ≤ 8) : ∀ (f a : Nat) (l : List Nat) (M : mz_M), a + f = 2 ^ σ.1.2.1 → l ++ zlis (zrs σ.1.1 σ.1.2.1 p) f a = L → zP M0 (zrw σ (zrl l)) M → ∃ M', mq_G mq_X10_fits (32, [some (.ref 77), some (.int (nI p)), some (.int (nI a))], [], M) (some (.int (nI L.length)), M') ∧ zP M0 (zrw σ (zrl L)) M'
  | 0, a, l, M, ha, hl, h => by
    have hq : 2 ^ σ.1.2.1 ≤ 256 := h.q
    rw [zlis, List.append_nil] at hl
    subst hl
    refine ⟨M, t_X10_fits_32 _ _ _ ⟨fun _ => ?_, fun c => absurd ?_ c⟩, h⟩
    · rw [show M.1 77 9 = nI l.length from h.2.2.2.2.2.2.1]
    · rw [show M.1 77 12 = nI (2 ^ σ.1.2.1) from h.F.2.2.2, zn_le (by omega) (by omega)]
      omega
  | f + 1, a, l, M, ha, hl, h => by
    have hq : 2 ^ σ.1.2.1 ≤ 256 := h.q
    have hF : zF σ.1.1 σ.1.2.1 M := h.F
    have ha2 : a < 2 ^ σ.1.2.1 := by omega
    have hv := zva_lt (p := p) hF.1 ha2
    have hge : ¬ (M.1 77 12 ≤ nI a) := by
      rw [hF.2.2.2, zn_le (by omega) (by omega)]
      omega
    have hr := s_X10_rooted9 hF ha2 hp
    by_cases e : zrs σ.1.1 σ.1.2.1 p a = true
    · have e0 := Nat.eq_of_beq_eq_true e
      rw [show zlis (zrs σ.1.1 σ.1.2.1 p) (f + 1) a = a :: zlis (zrs σ.1.1 σ.1.2.1 p) f (a + 1) from if_pos e] at hl
      have hlen : l.length < 16 := by
        have := congrArg List.length hl
        simp only [List.length_append, List.length_cons] at this
        omega
      obtain ⟨M4, g1, g2, -⟩ := s_tellL (x := a) h hlen
      obtain ⟨M', k1, k2⟩ := c_X10_fits_32 hp hL f (a + 1) (l ++ [a]) M4 (by omega) (by rw [List.append_assoc]; exact hl) g2
      refine ⟨M', t_X10_fits_32 _ _ _ ⟨fun c => absurd c hge, fun _ => ⟨_, hr, fun c => absurd (by rw [e0]; rfl) c, fun _ => ⟨M4, g1, ?_⟩⟩⟩, k2⟩
      rw [nI_1]; exact k1
    · rw [show zlis (zrs σ.1.1 σ.1.2.1 p) (f + 1) a = zlis (zrs σ.1.1 σ.1.2.1 p) f (a + 1) from if_neg e] at hl
      obtain ⟨M', k1, k2⟩ := c_X10_fits_32 hp hL f (a + 1) l M (by omega) hl h
      refine ⟨M', t_X10_fits_32 _ _ _ ⟨fun c => absurd c hge, fun _ => ⟨_, hr, fun _ => ?_, fun c => absurd (fun q => ?_) c⟩⟩, k2⟩
      · rw [nI_1]; exact k1
      · rw [zn_eq0 (by omega)] at q
        exact e (by unfold zrs; rw [q]; rfl)
def zrts (P m p : Nat) : List Nat := zlis (zrs P m p) (2 ^ m) 0
def k_fits (σ : zSg) (x : Int32) : Int32 × zSg := if zpt σ.1.2.1 (zdeg x) = true then (if zirr (zu x) = true then (nI (zrts σ.1.1 σ.1.2.1 (zu x)).length, zrw σ (zrl (zrts σ.1.1 σ.1.2.1 (zu x)))) else (-2, σ)) else (-1, σ)
theorem zrts_len {P m g p : Nat} (hg : fgood P m) (hc : fcy P m g) (h2 : 2 ≤ p) (hp : p < 512) : (zrts P m p).length ≤ 8 := by
  have hl : p.log2 ≤ 8 := by
    have := (Nat.log2_lt (show p ≠ 0 by omega)).mpr (show p < 2 ^ 9 from hp)
    omega
  have := zva_roots hg hc h2 hp (zrts P m p) (zlis_nodup _ _ _) (fun a ha => by
    obtain ⟨h1, h2, h3⟩ := zlis_mem ha
    exact ⟨by omega, Nat.eq_of_beq_eq_true h3⟩)
  omega
theorem zB1 {b : Bool} (h : b = true) : zB b = 1 := by rw [h]; rfl
theorem zB0 {b : Bool} (h : ¬ b = true) : zB b = 0 := by
  cases b with
  | true => exact absurd rfl h
  | false => rfl
theorem c_X10_fits (h : zP M0 σ M) (x : Int32) : zA M0 mq_X10_fits [.ref 77, .int x] M (k_fits σ x) := by
  obtain ⟨M1, eM, h1, -⟩ := h.thr
  by_cases g0 : zpt σ.1.2.1 (zdeg x) = true
  · obtain ⟨p, p2, p5, rfl, -⟩ := zpt_deg h.g.2.1 g0
    have hi := s_X10_isIrreducible M1 (p := p) (by omega)
    by_cases g1 : zirr p = true
    · simp only [zA, k_fits, g0, zu_nI (show p < 2 ^ 31 by omega), g1, if_true]
      obtain ⟨g, hc⟩ := h1.c
      obtain ⟨M', k1, k2⟩ := c_X10_fits_32 (σ := σ) (M0 := M0) p5 (zrts_len h.g hc p2 p5) (2 ^ σ.1.2.1) 0 [] _ (by omega) (List.nil_append _) h1.rowL
      refine ⟨M', t_X10_fits_0 _ _ (fun M2 e2 => ?_), k2⟩
      obtain rfl := e2.trans eM
      exact ⟨1, s_X10_isUnder1 h1 g0, fun _ => ⟨_, hi, fun _ M6 e6 => by rw [e6]; exact k1, fun c => absurd (by rw [g1]; decide) c⟩, fun c => absurd z10 c⟩
    · simp only [zA, k_fits, g0, zu_nI (show p < 2 ^ 31 by omega), g1, if_true]
      refine ⟨M1, t_X10_fits_0 _ _ (fun M2 e2 => ?_), h1⟩
      obtain rfl := e2.trans eM
      exact ⟨1, s_X10_isUnder1 h1 g0, fun _ => ⟨_, hi, fun c => absurd (zB0 g1) c, fun _ => rfl⟩, fun c => absurd z10 c⟩
  · simp only [zA, k_fits, g0]
    refine ⟨M1, t_X10_fits_0 _ _ (fun M2 e2 => ?_), h1⟩
    obtain rfl := e2.trans eM
    exact ⟨0, s_X10_isUnder0 h1 g0, fun c => absurd rfl c, fun _ => rfl⟩
def k_maps (σ : zSg) (x y z : Int32) : Int32 × zSg := if zpt σ.1.2.1 (zdeg x) = true then (if zirr (zu x) = true then (if zel (2 ^ σ.1.2.1) y = true then (if zel (2 ^ (zu x).log2) z = true then (if zva σ.1.1 σ.1.2.1 (zu y) (zu x) = 0 then (nI (zva σ.1.1 σ.1.2.1 (zu y) (zu z)), σ) else (-2, σ)) else (-1, σ)) else (-1, σ)) else (-1, σ)) else (-1, σ)
theorem c_X10_maps (h : zP M0 σ M) (x y z : Int32) : zA M0 mq_X10_maps [.ref 77, .int x, .int y, .int z] M (k_maps σ x y z) := by
  obtain ⟨M1, eM, h1, -⟩ := h.thr
  have hq := h.q
  by_cases g0 : zpt σ.1.2.1 (zdeg x) = true
  · obtain ⟨p, p2, p5, rfl, ed, d0, dm, -⟩ := zpt_deg h.g.2.1 g0
    have hi := s_X10_isIrreducible M1 (p := p) (by omega)
    have h8 := h.g.2.1
    by_cases g1 : zirr p = true
    · by_cases g2 : zel (2 ^ σ.1.2.1) y = true
      · have hp2 : 2 ^ p.log2 ≤ 256 := zq256 (by omega)
        have eb : (1 : Int32) <<< (nI p.log2 &&& 31) - 1 = nI (2 ^ p.log2) - 1 := by rw [zone_shl (by omega)]
        have hpp := Nat.two_pow_pos p.log2
        have hin := s_X10_in M1 z 0 (nI (2 ^ p.log2) - 1)
        rw [zel_sub1 hpp (by omega)] at hin
        by_cases g3 : zel (2 ^ p.log2) z = true
        · obtain ⟨a, ha, rfl⟩ := h1.en g2
          obtain ⟨e, he, rfl⟩ := (zel_iff (by omega)).mp g3
          have r1 := s_X10_rooted9 h1.F ha p5
          have r2 := s_X10_rooted9 h1.F ha (show e < 512 by omega)
          have hv := zva_lt (p := p) h.g ha
          by_cases g4 : zva σ.1.1 σ.1.2.1 a p = 0
          · simp only [zA, k_maps, g0, zu_nI (show p < 2 ^ 31 by omega), zu_nI (show a < 2 ^ 31 by omega), zu_nI (show e < 2 ^ 31 by omega), g1, g2, g3, g4, if_true]
            refine ⟨M1, t_X10_maps_0 _ _ _ _ (fun M2 e2 => ?_), h1⟩
            obtain rfl := e2.trans eM
            exact ⟨1, s_X10_isUnder1 h1 g0, fun c => absurd c z10, fun _ => ⟨_, hi, fun c => absurd c (by rw [g1]; decide), fun _ => ⟨1, h1.el1 g2, fun c => absurd c z10, fun _ => ⟨_, s_X10_degree M2 _, _, by rw [ed, eb]; exact hin, fun _ => ⟨_, r1, fun c => absurd (by rw [g4]; rfl) c, fun _ => ⟨_, r2, rfl⟩⟩, fun c => absurd (by rw [g3]; decide) c⟩⟩⟩⟩
          · simp only [zA, k_maps, g0, zu_nI (show p < 2 ^ 31 by omega), zu_nI (show a < 2 ^ 31 by omega), zu_nI (show e < 2 ^ 31 by omega), g1, g2, g3, g4, if_true, if_false]
            refine ⟨M1, t_X10_maps_0 _ _ _ _ (fun M2 e2 => ?_), h1⟩
            obtain rfl := e2.trans eM
            exact ⟨1, s_X10_isUnder1 h1 g0, fun c => absurd c z10, fun _ => ⟨_, hi, fun c => absurd c (by rw [g1]; decide), fun _ => ⟨1, h1.el1 g2, fun c => absurd c z10, fun _ => ⟨_, s_X10_degree M2 _, _, by rw [ed, eb]; exact hin, fun _ => ⟨_, r1, fun _ => rfl, fun c => absurd (fun q => g4 ((zn_eq0 (by omega)).mp q)) c⟩, fun c => absurd (by rw [g3]; decide) c⟩⟩⟩⟩
        · simp only [zA, k_maps, g0, zu_nI (show p < 2 ^ 31 by omega), g1, g2, g3, if_true]
          refine ⟨M1, t_X10_maps_0 _ _ _ _ (fun M2 e2 => ?_), h1⟩
          obtain rfl := e2.trans eM
          exact ⟨1, s_X10_isUnder1 h1 g0, fun c => absurd c z10, fun _ => ⟨_, hi, fun c => absurd c (by rw [g1]; decide), fun _ => ⟨1, h1.el1 g2, fun c => absurd c z10, fun _ => ⟨_, s_X10_degree M2 _, _, by rw [ed, eb]; exact hin, fun c => absurd (zB0 g3) c, fun _ => rfl⟩⟩⟩⟩
      · simp only [zA, k_maps, g0, zu_nI (show p < 2 ^ 31 by omega), g1, g2, if_true]
        refine ⟨M1, t_X10_maps_0 _ _ _ _ (fun M2 e2 => ?_), h1⟩
        obtain rfl := e2.trans eM
        exact ⟨1, s_X10_isUnder1 h1 g0, fun c => absurd c z10, fun _ => ⟨_, hi, fun c => absurd c (by rw [g1]; decide), fun _ => ⟨0, h1.el0 g2, fun _ => rfl, fun c => absurd rfl c⟩⟩⟩
    · simp only [zA, k_maps, g0, zu_nI (show p < 2 ^ 31 by omega), g1, if_true]
      refine ⟨M1, t_X10_maps_0 _ _ _ _ (fun M2 e2 => ?_), h1⟩
      obtain rfl := e2.trans eM
      exact ⟨1, s_X10_isUnder1 h1 g0, fun c => absurd c z10, fun _ => ⟨_, hi, fun _ => rfl, fun c => absurd (zB0 g1) c⟩⟩
  · simp only [zA, k_maps, g0]
    refine ⟨M1, t_X10_maps_0 _ _ _ _ (fun M2 e2 => ?_), h1⟩
    obtain rfl := e2.trans eM
    exact ⟨0, s_X10_isUnder0 h1 g0, fun _ => rfl, fun c => absurd rfl c⟩
/-! irreducibles -/
theorem zmul_2 (v : Nat) : zmul v 2 8 = v * 2 := by
  have h : ∀ k, zmul v 2 (k + 2) = v * 2 := by
    intro k
    induction k with
    | zero =>
      show (0 ^^^ (if (2 : Nat).testBit 0 = true then v <<< 0 else 0)) ^^^ (if (2 : Nat).testBit 1 = true then v <<< 1 else 0) = v * 2
      rw [if_neg (by decide), if_pos (by decide), Nat.xor_self, Nat.zero_xor, Nat.shiftLeft_eq]
    | succ k ih =>
      show zmul v 2 (k + 2) ^^^ (if (2 : Nat).testBit (k + 2) = true then _ else 0) = v * 2
      have : (2 : Nat).testBit (k + 2) = false := Nat.testBit_lt_two_pow (Nat.lt_of_lt_of_le (show 2 < 2 ^ 2 by decide) (Nat.pow_le_pow_right (by decide) (by omega)))
      rw [this, if_neg (by decide), Nat.xor_zero, ih]
  exact h 6
theorem fm_2 {P m : Nat} (v : Nat) (h : v < 2 ^ m) : fm P m v 2 = zmd P m 1 (v * 2) := by
  unfold fm
  rw [zmul_2]
  have := zmd_more (P := P) (d := m) 1 7 (v * 2) (by rw [Nat.pow_succ]; omega)
  exact this
theorem s_X10_isPrimitive {p n g : Nat} (hz : (p, n, g) ∈ zirrs) (M : mz_M) : mq_C mq_X10_isPrimitive [.int (nI p)] M (some (.int (zB (zgen p n 2))), M) := by
  have hg : fgood p n := (zirrs_ok _ hz).1
  have hc : fcy p n g := (zirrs_ok _ hz).2
  have hn2 : 2 ≤ n := hg.1
  have hn8 : n ≤ 8 := hg.2.1
  have hlo : 2 ^ n ≤ p := hg.2.2.1
  have hhi : p < 2 ^ (n + 1) := hg.2.2.2.1
  have h4 : 2 ^ 2 ≤ 2 ^ n := Nat.pow_le_pow_right (by decide) hn2
  have h2 : 2 < 2 ^ n := by omega
  have hq := zq256 hn8
  have hpp : 2 ^ (n + 1) ≤ 2 ^ 9 := Nat.pow_le_pow_right (by decide) (by omega)
  have run : ∀ (f k : Nat), k + f = 2 ^ n - 1 → mq_G mq_X10_isPrimitive (8, [some (.int (nI p)), some (.int (nI k)), some (.int (nI (fpw p n 2 k)))], [], M) (some (.int (zB (Nat.beq (zor p n 2 f k) (2 ^ n - 1)))), M) := by
    intro f
    have fin : ∀ k, k ≤ 2 ^ n → fpw p n 2 k = 1 → mq_G mq_X10_isPrimitive (8, [some (.int (nI p)), some (.int (nI k)), some (.int (nI (fpw p n 2 k)))], [], M) (some (.int (zB (Nat.beq k (2 ^ n - 1)))), M) := by
      intro k hk e
      refine t_X10_isPrimitive_8 _ _ _ _ ⟨fun _ => ⟨_, s_X10_degree M _, ?_⟩, fun c => absurd (by rw [e]; rfl) c⟩
      rw [zdeg_of hlo hhi (by omega), zone_shl (by omega), show (1 : Int32) = nI 1 from rfl, zn_sub (by omega), zn_eq (by omega) (by omega)]
      refine ⟨fun c => ?_, fun c => ?_⟩
      · rw [zB0 (fun q => c (Nat.eq_of_beq_eq_true q))]
      · rw [zB1 (by rw [Classical.not_not.mp c]; exact Nat.beq_refl _)]; rfl
    induction f with
    | zero =>
      intro k hk
      obtain rfl : k = 2 ^ n - 1 := by omega
      exact fin _ (by omega) (fpw_cyc hg hc (by decide) h2)
    | succ f ih =>
      intro k hk
      unfold zor
      by_cases e : fpw p n 2 k = 1
      · rw [if_pos e]
        exact fin k (by omega) e
      · rw [if_neg e]
        have hl := fpw_lt hg h2 k
        refine t_X10_isPrimitive_8 _ _ _ _ ⟨fun c => ?_, fun _ => ⟨nI (fpw p n 2 (k + 1)), ?_, ?_⟩⟩
        · have c : nI (fpw p n 2 k) = nI 1 := c
          rw [zn_eq (by omega) (by decide)] at c
          exact absurd c e
        · have hs := s_X10_modulo M (P := p) (d := n) (by omega) hlo hhi (r := fpw p n 2 k * 2) (n := 1) (by rw [Nat.pow_succ]; omega) (by decide)
          rw [show (1 &&& 31 : Int32) = (nI 1 &&& 31) from rfl, zn_shl (by decide) (by omega), Nat.pow_one, show fpw p n 2 (k + 1) = fm p n (fpw p n 2 k) 2 from rfl, fm_2 _ hl]
          exact hs
        · rw [nI_1]
          exact ih (k + 1) (by omega)
  have h1 := run (2 ^ n - 2) 1 (by omega)
  rw [show Nat.beq (zor p n 2 (2 ^ n - 2) 1) (2 ^ n - 1) = zgen p n 2 by
    unfold zgen
    by_cases q : zor p n 2 (2 ^ n - 2) 1 = 2 ^ n - 1
    · rw [q]; simp
    · rw [decide_eq_false (fun r => q r.2)]
      cases r : Nat.beq (zor p n 2 (2 ^ n - 2) 1) (2 ^ n - 1) with
      | false => rfl
      | true => exact absurd (Nat.eq_of_beq_eq_true r) q, fpw_1 hg h2] at h1
  have hm := s_X10_modulo M (P := p) (d := n) (by omega) hlo hhi (r := 2) (n := 0) (by simpa using h2) (by decide)
  exact t_X10_isPrimitive_0 _ _ ⟨nI 2, hm, h1⟩
def zpm (n p : Nat) : Bool := zirr p && (Nat.blt 1 n && zgen p n 2)
def k_irreducibles (σ : zSg) (x : Int32) : Int32 × zSg := if zbt 1 8 x = true then (nI (zcnt zirr (2 ^ zu x) (2 ^ zu x)), zrw σ (zr2 (zNo (zfst zirr (2 ^ zu x) (2 ^ zu x))) (nI (zcnt (zpm (zu x)) (2 ^ zu x) (2 ^ zu x))))) else (-1, σ)
theorem c_X10_irreducibles_31 {n : Nat} (h : zP M0 σ M) (hn1 : 1 ≤ n) (hn8 : n ≤ 8) : ∃ M', zP M0 (zrw σ (zr2 (zNo (zfst zirr (2 ^ n) (2 ^ n))) (nI (zcnt (zpm n) (2 ^ n) (2 ^ n))))) M' ∧ ∀ (f k : Nat), k + f = 2 ^ n → mq_G mq_X10_irreducibles (31, [some (.ref 77), some (.int (nI n)), some (.int (nI (zcnt zirr k (2 ^ n)))), some (.int (zNo (zfst zirr k (2 ^ n)))), some (.int (nI (zcnt (zpm n) k (2 ^ n)))), some (.int (nI (2 ^ n + k)))], [], M) (some (.int (nI (zcnt zirr (2 ^ n) (2 ^ n)))), M') := by
  obtain ⟨M3, M4, M5, e3, g1, g2, g3, -⟩ := s_tell2 h (zNo (zfst zirr (2 ^ n) (2 ^ n))) (nI (zcnt (zpm n) (2 ^ n) (2 ^ n)))
  have hq := zq256 hn8
  have e2 : (2 : Int32) <<< (nI n &&& 31) = nI (2 ^ n + 2 ^ n) := by
    rw [show (2 : Int32) = nI 2 from rfl, zn_shl (by omega) (by omega), Nat.two_mul]
  refine ⟨M5, g3, fun f => ?_⟩
  induction f with
  | zero =>
    intro k hk
    obtain rfl : k = 2 ^ n := by omega
    refine t_X10_irreducibles_31 _ _ _ _ _ _ ⟨fun _ M2 e2 => ?_, fun c => absurd (by rw [e2]; exact Int32.le_refl _) c⟩
    obtain rfl := e2.trans e3
    exact ⟨M4, g1, M5, g2, rfl⟩
  | succ f ih =>
    intro k hk
    have ih := ih (k + 1) (by omega)
    have hcl := zcnt_le zirr k (2 ^ n)
    have hge : ¬ ((2 : Int32) <<< (nI n &&& 31) ≤ nI (2 ^ n + k)) := by
      rw [e2, zn_le (by omega) (by omega)]
      omega
    have hi := s_X10_isIrreducible M (p := 2 ^ n + k) (by omega)
    rw [zcnt_r, zcnt_r, zfst_r, ← Nat.add_assoc] at ih
    by_cases e : zirr (2 ^ n + k) = true
    · rw [e] at hi
      rw [if_pos e, e, if_pos rfl] at ih
      have hprim : ∀ fi, fi = zNo (match zfst zirr k (2 ^ n) with
          | some x => some x
          | none => some (2 ^ n + k)) → ((nI n ≤ 1 → mq_G mq_X10_irreducibles (31, [some (.ref 77), some (.int (nI n)), some (.int (nI (zcnt zirr k (2 ^ n)) + 1)), some (.int fi), some (.int (nI (zcnt (zpm n) k (2 ^ n)) + 0)), some (.int (nI (2 ^ n + k) + 1))], [], M) (some (.int (nI (zcnt zirr (2 ^ n) (2 ^ n)))), M5)) ∧
          (¬ (nI n ≤ 1) → (∃ (r9 : Int32), (mq_C mq_X10_isPrimitive [.int (nI (2 ^ n + k))] M (some (.int r9), M)) ∧
            ((r9 = 0 → mq_G mq_X10_irreducibles (31, [some (.ref 77), some (.int (nI n)), some (.int (nI (zcnt zirr k (2 ^ n)) + 1)), some (.int fi), some (.int (nI (zcnt (zpm n) k (2 ^ n)) + 0)), some (.int (nI (2 ^ n + k) + 1))], [], M) (some (.int (nI (zcnt zirr (2 ^ n) (2 ^ n)))), M5)) ∧
            (¬ (r9 = 0) → mq_G mq_X10_irreducibles (31, [some (.ref 77), some (.int (nI n)), some (.int (nI (zcnt zirr k (2 ^ n)) + 1)), some (.int fi), some (.int (nI (zcnt (zpm n) k (2 ^ n)) + 1)), some (.int (nI (2 ^ n + k) + 1))], [], M) (some (.int (nI (zcnt zirr (2 ^ n) (2 ^ n)))), M5)))))) := by
        intro fi hfi
        subst hfi
        refine ⟨fun c => ?_, fun c => ?_⟩
        · have c : nI n ≤ nI 1 := c
          rw [zn_le (by omega) (by decide)] at c
          have ez : zpm n (2 ^ n + k) = false := by
            unfold zpm
            rw [show Nat.blt 1 n = false by cases r : Nat.blt 1 n with
              | false => rfl
              | true => rw [Nat.blt_eq] at r; omega, Bool.false_and, Bool.and_false]
          rw [ez, if_neg (by decide), Nat.add_zero] at ih
          rw [Int32.add_zero, nI_1, nI_1]
          exact ih
        · have c : ¬ nI n ≤ nI 1 := c
          rw [zn_le (by omega) (by decide)] at c
          have h4 : 2 ^ 2 ≤ 2 ^ n := Nat.pow_le_pow_right (by decide) (by omega)
          obtain ⟨g, hz⟩ := zirr_mem (p := 2 ^ n + k) (by omega) (by omega) e
          have hl : (2 ^ n + k).log2 = n := by
            have hgg := (zirrs_ok _ hz).1
            have b1 := zlog_lo (show 2 ^ n + k ≠ 0 by omega)
            have b2 := zlog_hi (2 ^ n + k)
            have c1 : (2 ^ n + k).log2 < n + 1 := (Nat.pow_lt_pow_iff_right (by decide)).mp (Nat.lt_of_le_of_lt b1 (by rw [Nat.pow_succ]; omega))
            have c2 : n < (2 ^ n + k).log2 + 1 := (Nat.pow_lt_pow_iff_right (by decide)).mp (Nat.lt_of_le_of_lt (Nat.le_add_right _ _) b2)
            omega
          rw [hl] at hz
          have ez : zpm n (2 ^ n + k) = zgen (2 ^ n + k) n 2 := by
            unfold zpm
            rw [e, show Nat.blt 1 n = true by rw [Nat.blt_eq]; omega, Bool.true_and, Bool.true_and]
          rw [ez] at ih
          refine ⟨_, s_X10_isPrimitive hz M, fun q => ?_, fun q => ?_⟩
          · have r : ¬ zgen (2 ^ n + k) n 2 = true := fun r => by rw [r] at q; exact z10 q
            rw [if_neg r, Nat.add_zero] at ih
            rw [Int32.add_zero, nI_1, nI_1]
            exact ih
          · have r : zgen (2 ^ n + k) n 2 = true := by
              cases r : zgen (2 ^ n + k) n 2 with
              | true => rfl
              | false => rw [r] at q; exact absurd rfl q
            rw [if_pos r] at ih
            rw [nI_1, nI_1, nI_1]
            exact ih
      refine t_X10_irreducibles_31 _ _ _ _ _ _ ⟨fun c => absurd c hge, fun _ => ⟨_, hi, fun _ => ⟨fun c => ?_, fun c => ?_⟩, fun c => absurd (by decide) c⟩⟩
      · refine hprim _ ?_
        cases r : zfst zirr k (2 ^ n) with
        | some x => rfl
        | none =>
          exfalso
          apply c
          have : zcnt zirr k (2 ^ n) = 0 := by
            apply Classical.byContradiction
            intro q
            obtain ⟨y, y1, y2, y3⟩ := zcnt_pos q
            have := zfst_none.mp r y y1 y2
            rw [y3] at this
            cases this
          rw [this]; rfl
      · refine hprim _ ?_
        cases r : zfst zirr k (2 ^ n) with
        | none => rfl
        | some x =>
          exfalso
          obtain ⟨y1, y2, y3, y4⟩ := zfst_some r
          have c0 := (zn_eq0 (by omega)).mp (Classical.not_not.mp c)
          have hs := zcnt_split zirr (x - 2 ^ n) (k - (x - 2 ^ n)) (2 ^ n)
          rw [show x - 2 ^ n + (k - (x - 2 ^ n)) = k by omega, show 2 ^ n + (x - 2 ^ n) = x by omega, show k - (x - 2 ^ n) = (k - (x - 2 ^ n) - 1) + 1 by omega, zcnt_t y3] at hs
          omega
    · have e0 : zirr (2 ^ n + k) = false := by simpa using e
      rw [e0] at hi
      have ez : ¬ zpm n (2 ^ n + k) = true := by
        unfold zpm
        rw [e0, Bool.false_and]
        decide
      rw [if_neg e, if_neg ez, Nat.add_zero, Nat.add_zero, e0] at ih
      refine t_X10_irreducibles_31 _ _ _ _ _ _ ⟨fun c => absurd c hge, fun _ => ⟨_, hi, fun c => absurd rfl c, fun _ => ?_⟩⟩
      rw [nI_1]
      cases r : zfst zirr k (2 ^ n) with
      | none => rw [r] at ih; exact ih
      | some x => rw [r] at ih; exact ih
theorem c_X10_irreducibles (h : zP M0 σ M) (x : Int32) : zA M0 mq_X10_irreducibles [.ref 77, .int x] M (k_irreducibles σ x) := by
  obtain ⟨M1, eM, h1, -⟩ := h.thr
  by_cases he : zbt 1 8 x = true
  · simp only [zA, k_irreducibles, he, if_true]
    obtain ⟨n, hn1, hn8, rfl⟩ := zbtn (a := 1) (b := 8) (by decide) (by decide) he
    rw [zu_nI (by omega)]
    obtain ⟨M', k2, k1⟩ := c_X10_irreducibles_31 h1 hn1 hn8
    have k1 := k1 (2 ^ n) 0 (by omega)
    refine ⟨M', t_X10_irreducibles_0 _ _ (fun M2 e2 => ?_), k2⟩
    obtain rfl := e2.trans eM
    exact ⟨1, zin1 _ he, fun _ => by rw [zone_shl (by omega)]; exact k1, fun c => absurd z10 c⟩
  · simp only [zA, k_irreducibles, he]
    refine ⟨M1, t_X10_irreducibles_0 _ _ (fun M2 e2 => ?_), h1⟩
    obtain rfl := e2.trans eM
    exact ⟨0, zin0 _ he, fun c => absurd rfl c, fun _ => rfl⟩
end ZC10
