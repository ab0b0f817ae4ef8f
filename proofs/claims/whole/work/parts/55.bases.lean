/-! bases made of bases; the trace; duals -/
theorem zcb_0 (v : Nat → Nat) (n : Nat) : zcb v n 0 = 0 := by
  have := zcb_x v 0 0 n
  rw [Nat.xor_self, Nat.xor_self] at this
  exact this
theorem ind_of {v : Nat → Nat} {n : Nat} (h : ∀ c, c < 2 ^ n → zcb v n c = 0 → c = 0) : ind v n := fun i hi q => by
  obtain ⟨c, hc, e⟩ := sp_iff.mp q
  have h1 : c ^^^ 2 ^ i < 2 ^ (i + 1) := Nat.xor_lt_two_pow (Nat.lt_of_lt_of_le hc (Nat.pow_le_pow_right (by decide) (by omega))) (Nat.pow_lt_pow_right (by decide) (by omega))
  have h2 := zcb_lo v (n := i + 1) (k := n - (i + 1)) h1
  have h4 : zcb v (i + 1) (c ^^^ 2 ^ i) = 0 := by rw [zcb_x, zcb_bit, zcb_lo v (k := 1) hc, e, Nat.xor_self]
  rw [show i + 1 + (n - (i + 1)) = n by omega, h4] at h2
  have h3 := zx_eq (h _ (Nat.lt_of_lt_of_le h1 (Nat.pow_le_pow_right (by decide) (by omega))) h2)
  omega
theorem zbas_surj {m : Nat} {v : Nat → Nat} (hl : ∀ i, i < m → v i < 2 ^ m) (hs : ∀ e, e < 2 ^ m → sp v m e) : zbas m v := by
  have key : ∀ c, c < 2 ^ m → ∃ e, e < 2 ^ m ∧ crd v m e = c := by
    intro c hc
    have h1 := zsurj (n := 2 ^ m) (l := (List.range (2 ^ m)).map (crd v m)) (by
      refine List.pairwise_map.mpr (List.Pairwise.imp_of_mem (S := fun a b => crd v m a ≠ crd v m b) ?_ List.nodup_range)
      intro x y hx hy hxy e
      have e1 := crd_sp (hs x (List.mem_range.mp hx))
      rw [e, crd_sp (hs y (List.mem_range.mp hy))] at e1
      exact hxy e1.symm) (fun x hx => by
      obtain ⟨y, -, rfl⟩ := List.mem_map.mp hx
      exact crd_lt) (by simp) c hc
    obtain ⟨e, he, rfl⟩ := List.mem_map.mp h1
    exact ⟨e, List.mem_range.mp he, rfl⟩
  have hz : ∀ c, c < 2 ^ m → zcb v m c = 0 → c = crd v m 0 := by
    intro c hc h0
    obtain ⟨e, he, rfl⟩ := key c hc
    rw [crd_sp (hs e he)] at h0
    rw [h0]
  refine ⟨ind_of (fun c hc h0 => ?_), hl⟩
  rw [hz c hc h0]
  exact (hz 0 (Nat.two_pow_pos m) (zcb_0 v m)).symm
theorem zbas_sp {m e : Nat} {v : Nat → Nat} (h : zbas m v) (he : e < 2 ^ m) : sp v m e := sp_iff.mpr (ind_all h.1 h.2 he)
theorem zbas_of {m : Nat} {v w : Nat → Nat} (hv : zbas m v) (hl : ∀ i, i < m → w i < 2 ^ m) (h : ∀ i, i < m → sp w m (v i)) : zbas m w := zbas_surj hl (fun _ he => sp_sub h (zbas_sp hv he))
def zswp (v : Nat → Nat) (i j : Nat) : Nat → Nat := fun k => if k = j then v i else if k = i then v j else v k
theorem zbas_swap {m i j : Nat} {v : Nat → Nat} (h : zbas m v) (hi : i < m) (hj : j < m) (hij : i ≠ j) : zbas m (zswp v i j) := by
  refine zbas_of h (fun k hk => ?_) (fun k hk => ?_)
  · unfold zswp
    split
    · exact h.2 i hi
    · split
      · exact h.2 j hj
      · exact h.2 k hk
  · by_cases e1 : k = i
    · have := sp_mem (zswp v i j) hj
      unfold zswp at this
      rw [if_pos rfl] at this
      rw [e1]; exact this
    · by_cases e2 : k = j
      · have := sp_mem (zswp v i j) hi
        unfold zswp at this
        rw [if_neg hij, if_pos rfl] at this
        rw [e2]; exact this
      · have := sp_mem (zswp v i j) hk
        unfold zswp at this
        rw [if_neg e2, if_neg e1] at this
        exact this
def zadd (v : Nat → Nat) (i j : Nat) : Nat → Nat := fun k => if k = i then v i ^^^ v j else v k
theorem zbas_add {m i j : Nat} {v : Nat → Nat} (h : zbas m v) (hi : i < m) (hj : j < m) (hij : i ≠ j) : zbas m (zadd v i j) := by
  refine zbas_of h (fun k hk => ?_) (fun k hk => ?_)
  · unfold zadd
    split
    · exact Nat.xor_lt_two_pow (h.2 i hi) (h.2 j hj)
    · exact h.2 k hk
  · have hk' := sp_mem (zadd v i j) hk
    by_cases e1 : k = i
    · have h1 := sp_mem (zadd v i j) hj
      have h2 := sp_x hk' h1
      unfold zadd at h2
      rw [if_pos e1, if_neg (fun q => hij q.symm), zxx] at h2
      rw [e1]; exact h2
    · unfold zadd at hk'
      rw [if_neg e1] at hk'
      exact hk'
section BAS
variable {P m g : Nat}
theorem fm_inv (hg : fgood P m) (hc : fcy P m g) {a : Nat} (h0 : 0 < a) (ha : a < 2 ^ m) : fm P m (fpw P m a (2 ^ m - 2)) a = 1 := by
  have h1 := f1_lt hg
  have := fpw_cyc hg hc h0 ha
  rw [show 2 ^ m - 1 = 2 ^ m - 2 + 1 by omega] at this
  exact this
theorem fm_nz (hg : fgood P m) (hc : fcy P m g) {a b : Nat} (ha : a < 2 ^ m) (hb : b < 2 ^ m) (h : fm P m a b = 0) : a = 0 ∨ b = 0 := by
  by_cases h0 : a = 0
  · exact Or.inl h0
  · refine Or.inr ?_
    have h1 := fm_inv hg hc (Nat.pos_of_ne_zero h0) ha
    have h2 := fm_assoc hg (fpw_lt hg ha (2 ^ m - 2)) ha hb
    rw [h1, h, fm_zero_r, fm_one hg hb] at h2
    exact h2
theorem zcb_fm (a : Nat) (v : Nat → Nat) (c : Nat) : ∀ n, zcb (fun k => fm P m a (v k)) n c = fm P m a (zcb v n c)
  | 0 => (fm_zero_r P m a).symm
  | n + 1 => by
    show zcb _ n c ^^^ _ = fm P m a (zcb v n c ^^^ _)
    rw [zcb_fm a v c n, fm_xr]
    congr 1
    split
    · rfl
    · rw [fm_zero_r]
theorem zbas_scale (hg : fgood P m) (hc : fcy P m g) {a : Nat} {v : Nat → Nat} (h : zbas m v) (h0 : 0 < a) (ha : a < 2 ^ m) : zbas m (fun k => fm P m a (v k)) := by
  refine zbas_surj (fun i hi => fm_lt hg ha) (fun e he => ?_)
  have hi := fpw_lt hg ha (2 ^ m - 2)
  have h1 := fm_inv hg hc h0 ha
  have hb := fm_lt hg (b := e) hi
  obtain ⟨c, hc2, hc3⟩ := ind_all h.1 h.2 hb
  refine sp_iff.mpr ⟨c, hc2, ?_⟩
  rw [zcb_fm, hc3, ← fm_assoc hg ha hi he, fm_comm hg ha hi, h1, fm_one hg he]
/-! the trace -/
def zxs (f : Nat → Nat) : Nat → Nat
  | 0 => 0
  | n + 1 => zxs f n ^^^ f n
theorem zxs_shift (f : Nat → Nat) : ∀ n, f 0 ^^^ zxs (fun k => f (k + 1)) n = zxs f n ^^^ f n
  | 0 => by simp [zxs]
  | n + 1 => by
    show f 0 ^^^ (zxs (fun k => f (k + 1)) n ^^^ f (n + 1)) = (zxs f n ^^^ f n) ^^^ f (n + 1)
    rw [← Nat.xor_assoc, zxs_shift f n]
theorem zxs_x (f h : Nat → Nat) : ∀ n, zxs (fun k => f k ^^^ h k) n = zxs f n ^^^ zxs h n
  | 0 => by simp [zxs]
  | n + 1 => by
    show zxs (fun k => f k ^^^ h k) n ^^^ (f n ^^^ h n) = (zxs f n ^^^ f n) ^^^ (zxs h n ^^^ h n)
    rw [zxs_x f h n, zx4]
theorem zxs_lt {f : Nat → Nat} (h : ∀ i, f i < 2 ^ m) : ∀ n, zxs f n < 2 ^ m
  | 0 => Nat.two_pow_pos m
  | n + 1 => Nat.xor_lt_two_pow (zxs_lt h n) (h n)
theorem zxs_ext {f h : Nat → Nat} (e : ∀ i, f i = h i) : ∀ n, zxs f n = zxs h n
  | 0 => rfl
  | n + 1 => by show zxs f n ^^^ f n = zxs h n ^^^ h n; rw [zxs_ext e n, e n]
theorem ztr_1 (a : Nat) : ∀ f k, k ≤ m → m ≤ k + f → ztr P m a 1 f k (zxs (cj P m a) k) = zxs (cj P m a) m
  | 0, k, h1, h2 => by
    obtain rfl : k = m := by omega
    rfl
  | f + 1, k, h1, h2 => by
    unfold ztr
    by_cases e : m ≤ k
    · obtain rfl : k = m := by omega
      rw [if_pos e]
    · rw [if_neg e]
      exact ztr_1 a f (k + 1) (by omega) (by omega)
theorem zT_eq (h8 : m ≤ 8) (a : Nat) : zT P m a = zxs (cj P m a) m := ztr_1 a 8 0 (Nat.zero_le _) (by omega)
theorem zT_x (hg : fgood P m) {a b : Nat} (ha : a < 2 ^ m) (hb : b < 2 ^ m) : zT P m (a ^^^ b) = zT P m a ^^^ zT P m b := by
  have h8 := hg.2.1
  rw [zT_eq h8, zT_eq h8, zT_eq h8, ← zxs_x]
  exact zxs_ext (fun k => cj_x hg ha hb k) m
theorem zxs_sq (hg : fgood P m) {f : Nat → Nat} (h : ∀ i, f i < 2 ^ m) : ∀ n, fm P m (zxs f n) (zxs f n) = zxs (fun k => fm P m (f k) (f k)) n
  | 0 => fm_zero_r P m 0
  | n + 1 => by
    show fm P m (zxs f n ^^^ f n) (zxs f n ^^^ f n) = zxs (fun k => fm P m (f k) (f k)) n ^^^ fm P m (f n) (f n)
    rw [fm_sqx hg (zxs_lt h n) (h n), zxs_sq hg h n]
theorem zT_01 (hg : fgood P m) (hc : fcy P m g) {a : Nat} (ha : a < 2 ^ m) : zT P m a = 0 ∨ zT P m a = 1 := by
  have h8 := hg.2.1
  have ht := zT_lt hg ha
  have h1 := zxs_sq hg (fun i => cj_lt hg ha i) m
  have h2 := zxs_shift (cj P m a) m
  rw [cj_m hg hc ha, show cj P m a 0 = a from rfl, Nat.xor_comm] at h2
  have h3 : zxs (fun k => cj P m a (k + 1)) m = zxs (cj P m a) m := by
    have e1 := zxx (zxs (fun k => cj P m a (k + 1)) m) a
    rw [h2, zxx] at e1
    exact e1.symm
  rw [show zxs (fun k => fm P m (cj P m a k) (cj P m a k)) m = zxs (fun k => cj P m a (k + 1)) m from rfl, h3, ← zT_eq h8] at h1
  have h4 : fm P m (zT P m a) (zT P m a ^^^ 1) = 0 := by
    rw [fm_xr, h1, fm_one_r hg ht, Nat.xor_self]
  rcases fm_nz hg hc ht (Nat.xor_lt_two_pow ht (f1_lt hg)) h4 with h | h
  · exact Or.inl h
  · exact Or.inr (zx_eq h)
def trk (P m : Nat) : Nat → Nat → Nat → Nat
  | 0, _, s => s
  | n + 1, c, s => frc (Nat.xor s c) (fun s2 => frc (fmk P m c c) (fun c2 => trk P m n c2 s2))
theorem trk_eq (a : Nat) : ∀ n k, trk P m n (cj P m a k) (zxs (cj P m a) k) = zxs (cj P m a) (k + n)
  | 0, k => rfl
  | n + 1, k => by
    unfold trk
    rw [frc_eq, frc_eq, fmk_eq]
    have := trk_eq a n (k + 1)
    rw [show k + 1 + n = k + (n + 1) by omega] at this
    exact this
def zex1 (P m : Nat) : Nat → Bool
  | 0 => false
  | n + 1 => Nat.beq (trk P m m (Nat.pow 2 n) 0) 1 || zex1 P m n
theorem zex1_iff : ∀ {n : Nat}, n ≤ m → zex1 P m n = true → ∃ k, k < m ∧ zxs (cj P m (2 ^ k)) m = 1
  | 0, _, h => by cases h
  | n + 1, hn, h => by
    simp only [zex1, Bool.or_eq_true] at h
    rcases h with h | h
    · refine ⟨n, by omega, ?_⟩
      have := trk_eq (P := P) (m := m) (2 ^ n) m 0
      rw [Nat.zero_add] at this
      rw [← this]
      exact Nat.eq_of_beq_eq_true h
    · exact zex1_iff (by omega) h
theorem zirrs_tr : zirrs.all (fun q => zex1 q.1 q.2.1 q.2.1) = true := by decide +kernel
theorem zT_one (h : (P, m, g) ∈ zirrs) : ∃ a, a < 2 ^ m ∧ zT P m a = 1 := by
  have hg := (zirrs_ok _ h).1
  obtain ⟨k, hk, e⟩ := zex1_iff (Nat.le_refl m) (List.all_eq_true.mp zirrs_tr _ h)
  exact ⟨2 ^ k, Nat.pow_lt_pow_right (by decide) hk, by rw [zT_eq hg.2.1]; exact e⟩
/-! duals -/
def zcmb (t : Nat → Nat) : Nat → Nat
  | 0 => 0
  | n + 1 => zcmb t n + t n * 2 ^ n
theorem zcmb_lt {t : Nat → Nat} (h : ∀ i, t i < 2) : ∀ n, zcmb t n < 2 ^ n
  | 0 => Nat.zero_lt_one
  | n + 1 => by
    have h1 := zcmb_lt h n
    have h2 := h n
    have h3 : t n * 2 ^ n ≤ 1 * 2 ^ n := Nat.mul_le_mul_right _ (by omega)
    show zcmb t n + t n * 2 ^ n < 2 ^ (n + 1)
    rw [Nat.pow_succ]
    omega
theorem zcmb_inj {t u : Nat → Nat} (h : ∀ i, t i < 2) (h2 : ∀ i, u i < 2) : ∀ {n : Nat}, zcmb t n = zcmb u n → ∀ i, i < n → t i = u i
  | 0, _, i, hi => absurd hi (Nat.not_lt_zero i)
  | n + 1, e, i, hi => by
    have e : zcmb t n + t n * 2 ^ n = zcmb u n + u n * 2 ^ n := e
    have a1 := zcmb_lt h n
    have a2 := zcmb_lt h2 n
    have a3 := h n
    have a4 := h2 n
    have key : t n = u n := by
      rcases (show t n = 0 ∨ t n = 1 by omega) with q | q <;> rcases (show u n = 0 ∨ u n = 1 by omega) with r | r <;> rw [q, r] at e <;> omega
    rw [key] at e
    by_cases q : i = n
    · rw [q]; exact key
    · exact zcmb_inj (n := n) h h2 (by omega) i (by omega)
/-- the traces of a base's elements with a, as bits -/
def ztv (P m : Nat) (v : Nat → Nat) (a i : Nat) : Nat := if zT P m (fm P m (v i) a) = 1 then 1 else 0
theorem ztv_lt (v : Nat → Nat) (a i : Nat) : ztv P m v a i < 2 := by unfold ztv; split <;> decide
theorem ztv_eq (hg : fgood P m) (hc : fcy P m g) {v : Nat → Nat} {a i : Nat} (hv : v i < 2 ^ m) : ztv P m v a i = zT P m (fm P m (v i) a) := by
  unfold ztv
  rcases zT_01 hg hc (fm_lt hg (b := a) hv) with h | h <;> rw [h] <;> rfl
theorem zT_sp (hg : fgood P m) {v : Nat → Nat} {a : Nat} (hv : ∀ i, i < m → v i < 2 ^ m) (h : ∀ i, i < m → zT P m (fm P m (v i) a) = 0) : ∀ n, n ≤ m → ∀ e, sp v n e → zT P m (fm P m e a) = 0
  | 0, _, e, he => by
    rw [show e = 0 from he]
    have h0 : fm P m 0 a = 0 := by
      have := fm_xl P m 0 0 a
      rw [Nat.xor_self, Nat.xor_self] at this
      exact this
    rw [h0]
    have := zT_x hg (Nat.two_pow_pos m) (Nat.two_pow_pos m)
    rw [Nat.xor_self, Nat.xor_self] at this
    exact this
  | n + 1, hn, e, he => by
    rcases he with he | he
    · exact zT_sp hg hv h n (by omega) e he
    · have h1 := zT_sp hg hv h n (by omega) _ he
      have hx : e ^^^ v n < 2 ^ m := sp_lt (fun i hi => hv i (by omega)) he
      have hvn := hv n (by omega)
      have h2 := zT_x hg (fm_lt hg (b := a) hx) (fm_lt hg (b := a) hvn)
      rw [← fm_xl, zxx, h1, h n (by omega)] at h2
      exact h2
theorem ztv_inj (h : (P, m, g) ∈ zirrs) {v : Nat → Nat} (hb : zbas m v) {a b : Nat} (ha : a < 2 ^ m) (hb2 : b < 2 ^ m) (e : ∀ i, i < m → zT P m (fm P m (v i) a) = zT P m (fm P m (v i) b)) : a = b := by
  obtain ⟨hg, hc⟩ := zirrs_ok _ h
  apply zx_eq
  apply Classical.byContradiction
  intro hne
  have hx := Nat.xor_lt_two_pow ha hb2
  have h1 : ∀ i, i < m → zT P m (fm P m (v i) (a ^^^ b)) = 0 := fun i hi => by
    rw [fm_xr, zT_x hg (fm_lt hg (hb.2 i hi)) (fm_lt hg (hb.2 i hi)), e i hi, Nat.xor_self]
  obtain ⟨c, hc1, hc2⟩ := zT_one h
  have hi := fpw_lt hg hx (2 ^ m - 2)
  have hf := fm_lt hg (b := c) hi
  have h2 := zT_sp hg hb.2 h1 m (Nat.le_refl m) (fm P m (fpw P m (a ^^^ b) (2 ^ m - 2)) c) (zbas_sp hb hf)
  rw [fm_comm hg hf hx, ← fm_assoc hg hx hi hc1, fm_comm hg hx hi, fm_inv hg hc (Nat.pos_of_ne_zero hne) hx, fm_one hg hc1] at h2
  rw [h2] at hc2
  cases hc2
theorem ztv_surj (h : (P, m, g) ∈ zirrs) {v : Nat → Nat} (hb : zbas m v) (t : Nat → Nat) (ht : ∀ i, t i < 2) : ∃ a, a < 2 ^ m ∧ ∀ i, i < m → zT P m (fm P m (v i) a) = t i := by
  obtain ⟨hg, hc⟩ := zirrs_ok _ h
  have h1 := zsurj (n := 2 ^ m) (l := (List.range (2 ^ m)).map (fun a => zcmb (ztv P m v a) m)) (by
    refine List.pairwise_map.mpr (List.Pairwise.imp_of_mem (S := fun a b => zcmb (ztv P m v a) m ≠ zcmb (ztv P m v b) m) ?_ List.nodup_range)
    intro x y hx hy hxy e
    refine hxy (ztv_inj h hb (List.mem_range.mp hx) (List.mem_range.mp hy) (fun i hi => ?_))
    rw [← ztv_eq hg hc (hb.2 i hi), ← ztv_eq hg hc (hb.2 i hi)]
    exact zcmb_inj (ztv_lt v x) (ztv_lt v y) e i hi) (fun x hx => by
    obtain ⟨y, -, rfl⟩ := List.mem_map.mp hx
    exact zcmb_lt (ztv_lt v y) m) (by simp) (zcmb t m) (zcmb_lt ht m)
  obtain ⟨a, ha, e⟩ := List.mem_map.mp h1
  refine ⟨a, List.mem_range.mp ha, fun i hi => ?_⟩
  rw [← ztv_eq hg hc (hb.2 i hi)]
  exact zcmb_inj (ztv_lt v a) ht e i hi
theorem zda_iff {v : Nat → Nat} {j a : Nat} : ∀ {f i : Nat}, zda P m v j a f i = true ↔ ∀ k, i ≤ k → k < i + f → zT P m (fm P m (v k) a) = if k = j then 1 else 0
  | 0, i => ⟨fun _ k h1 h2 => absurd h1 (by omega), fun _ => rfl⟩
  | f + 1, i => by
    unfold zda
    by_cases e : zT P m (fm P m (v i) a) = if i = j then 1 else 0
    · rw [if_pos e, zda_iff]
      exact ⟨fun h k h1 h2 => by
        by_cases q : k = i
        · rw [q]; exact e
        · exact h k (by omega) (by omega), fun h k h1 h2 => h k (by omega) (by omega)⟩
    · rw [if_neg e]
      exact ⟨fun h => (by cases h), fun h => absurd (h i (Nat.le_refl _) (by omega)) e⟩
theorem zfd_spec {p : Nat → Bool} : ∀ {f a : Nat}, (∃ x, a ≤ x ∧ x < a + f ∧ p x = true) → p (zfd p f a) = true ∧ a ≤ zfd p f a ∧ zfd p f a < a + f
  | 0, a, ⟨x, h1, h2, _⟩ => absurd h1 (by omega)
  | f + 1, a, ⟨x, h1, h2, h3⟩ => by
    unfold zfd
    by_cases e : p a = true
    · rw [if_pos e]
      exact ⟨e, Nat.le_refl _, by omega⟩
    · rw [if_neg e]
      have hne : x ≠ a := fun q => e (q ▸ h3)
      obtain ⟨i1, i2, i3⟩ := zfd_spec (p := p) (f := f) (a := a + 1) ⟨x, by omega, by omega, h3⟩
      exact ⟨i1, by omega, by omega⟩
theorem zdl_spec (h : (P, m, g) ∈ zirrs) {v : Nat → Nat} (hb : zbas m v) {j : Nat} (hj : j < m) : 0 < zdl P m v j ∧ zdl P m v j < 2 ^ m ∧ ∀ i, i < m → zT P m (fm P m (v i) (zdl P m v j)) = if i = j then 1 else 0 := by
  obtain ⟨hg, hc⟩ := zirrs_ok _ h
  obtain ⟨a, ha, e⟩ := ztv_surj h hb (fun i => if i = j then 1 else 0) (fun i => by show (if i = j then 1 else 0) < 2; split <;> decide)
  have ha0 : 0 < a := Nat.pos_of_ne_zero (fun q => by
    subst q
    have := e j hj
    rw [fm_zero_r, if_pos rfl] at this
    have h0 := zT_x hg (Nat.two_pow_pos m) (Nat.two_pow_pos m)
    rw [Nat.xor_self, Nat.xor_self] at h0
    rw [h0] at this
    cases this)
  have hq := f1_lt hg
  obtain ⟨i1, i2, i3⟩ := zfd_spec (p := fun a => zda P m v j a m 0) (f := 2 ^ m - 1) (a := 1) ⟨a, ha0, by omega, zda_iff.mpr (fun k _ hk => e k (by omega))⟩
  exact ⟨i2, by unfold zdl; omega, fun i hi => zda_iff.mp i1 i (Nat.zero_le _) (by omega)⟩
theorem zdl_uniq (h : (P, m, g) ∈ zirrs) {v : Nat → Nat} (hb : zbas m v) {j a : Nat} (hj : j < m) (ha : a < 2 ^ m) (e : ∀ i, i < m → zT P m (fm P m (v i) a) = if i = j then 1 else 0) : a = zdl P m v j := by
  obtain ⟨h1, h2, h3⟩ := zdl_spec h hb hj
  exact ztv_inj h hb ha h2 (fun i hi => by rw [e i hi, h3 i hi])
theorem zT_0 (hg : fgood P m) : zT P m 0 = 0 := by
  have h0 := zT_x hg (Nat.two_pow_pos m) (Nat.two_pow_pos m)
  rw [Nat.xor_self, Nat.xor_self] at h0
  exact h0
theorem zbas_dual (h : (P, m, g) ∈ zirrs) {v : Nat → Nat} (hb : zbas m v) : zbas m (zdl P m v) := by
  obtain ⟨hg, hc⟩ := zirrs_ok _ h
  have hl : ∀ i, i < m → zdl P m v i < 2 ^ m := fun i hi => (zdl_spec h hb hi).2.1
  refine ⟨ind_of (fun c hc2 h0 => ?_), hl⟩
  have key : ∀ i, i < m → ∀ n, n ≤ m → zT P m (fm P m (v i) (zcb (zdl P m v) n c)) = if i < n ∧ c.testBit i = true then 1 else 0 := by
    intro i hi n
    induction n with
    | zero =>
      intro _
      rw [show zcb (zdl P m v) 0 c = 0 from rfl, fm_zero_r, zT_0 hg, if_neg (by omega)]
    | succ n ih =>
      intro hn
      have hz : zcb (zdl P m v) n c < 2 ^ m := zcb_lt (fun k hk => hl k (by omega)) c
      have ih := ih (by omega)
      show zT P m (fm P m (v i) (zcb (zdl P m v) n c ^^^ (if c.testBit n = true then zdl P m v n else 0))) = _
      rw [fm_xr, zT_x hg (fm_lt hg (hb.2 i hi)) (fm_lt hg (hb.2 i hi)), ih]
      by_cases q : c.testBit n = true
      · rw [if_pos q, (zdl_spec h hb (show n < m by omega)).2.2 i hi]
        by_cases r : i = n
        · subst r
          rw [if_neg (by omega), if_pos rfl, if_pos ⟨by omega, q⟩]
          rfl
        · rw [if_neg r, Nat.xor_zero]
          by_cases r2 : i < n ∧ c.testBit i = true
          · rw [if_pos r2, if_pos ⟨by omega, r2.2⟩]
          · rw [if_neg r2, if_neg (fun s => r2 ⟨by omega, s.2⟩)]
      · rw [if_neg q, fm_zero_r, zT_0 hg, Nat.xor_zero]
        by_cases r2 : i < n ∧ c.testBit i = true
        · rw [if_pos r2, if_pos ⟨by omega, r2.2⟩]
        · rw [if_neg r2, if_neg (fun s => r2 ⟨by
            have : i ≠ n := fun e => q (e ▸ s.2)
            omega, s.2⟩)]
  apply Nat.eq_of_testBit_eq
  intro i
  rw [Nat.zero_testBit]
  by_cases hi : i < m
  · have := key i hi m (Nat.le_refl m)
    rw [h0, fm_zero_r, zT_0 hg] at this
    by_cases q : c.testBit i = true
    · rw [if_pos ⟨hi, q⟩] at this
      cases this
    · simpa using q
  · exact Nat.testBit_lt_two_pow (Nat.lt_of_lt_of_le hc2 (Nat.pow_le_pow_right (by decide) (by omega)))
end BAS
