/-! calls of the reference: orders, classes -/
theorem fpw_mod {P m a : Nat} (hg : fgood P m) {g : Nat} (hc : fcy P m g) (h0 : 0 < a) (ha : a < 2 ^ m) {n : Nat} (hn : fpw P m a n = 1) (k : Nat) : fpw P m a (k % n) = fpw P m a k := by
  have h1 : fpw P m a k = fpw P m a (n * (k / n) + k % n) := by rw [Nat.div_add_mod]
  rw [h1, fpw_add hg ha, ← fpw_mul hg ha, hn, fpw_one hg, fm_one hg (fpw_lt hg ha _)]
theorem zor_spec {P m a : Nat} : ∀ (f n : Nat), (∃ k, n ≤ k ∧ k ≤ n + f ∧ fpw P m a k = 1) → fpw P m a (zor P m a f n) = 1 ∧ n ≤ zor P m a f n ∧ ∀ k, n ≤ k → k < zor P m a f n → fpw P m a k ≠ 1
  | 0, n, ⟨k, h1, h2, h3⟩ => by
    obtain rfl : k = n := by omega
    exact ⟨h3, Nat.le_refl _, fun j a b => absurd a (by show ¬ _; unfold zor at b; omega)⟩
  | f + 1, n, ⟨k, h1, h2, h3⟩ => by
    unfold zor
    by_cases e : fpw P m a n = 1
    · rw [if_pos e]
      exact ⟨e, Nat.le_refl _, fun j a b => absurd a (by omega)⟩
    · rw [if_neg e]
      have hk : k ≠ n := fun q => e (q ▸ h3)
      obtain ⟨i1, i2, i3⟩ := zor_spec f (n + 1) ⟨k, by omega, by omega, h3⟩
      refine ⟨i1, by omega, fun j a b => ?_⟩
      by_cases q : j = n
      · rw [q]; exact e
      · exact i3 j (by omega) b
/-- ORDER: the least power that is 1 -/
def zord (P m a : Nat) : Nat := zor P m a (2 ^ m - 2) 1
theorem zord_spec {P m a g : Nat} (hg : fgood P m) (hc : fcy P m g) (h0 : 0 < a) (ha : a < 2 ^ m) : fpw P m a (zord P m a) = 1 ∧ 1 ≤ zord P m a ∧ zord P m a ≤ 2 ^ m - 1 ∧ ∀ k, 1 ≤ k → k < zord P m a → fpw P m a k ≠ 1 := by
  have hq := f1_lt hg
  obtain ⟨h1, h2, h3⟩ := zor_spec (P := P) (m := m) (a := a) (2 ^ m - 2) 1 ⟨2 ^ m - 1, by omega, by omega, fpw_cyc hg hc h0 ha⟩
  have h4 := zor_le P m a (2 ^ m - 2) 1
  exact ⟨h1, h2, by unfold zord; omega, h3⟩
theorem zord_dvd {P m a g : Nat} (hg : fgood P m) (hc : fcy P m g) (h0 : 0 < a) (ha : a < 2 ^ m) {k : Nat} (hk : fpw P m a k = 1) : k % zord P m a = 0 := by
  obtain ⟨h1, h2, h3, h4⟩ := zord_spec hg hc h0 ha
  apply Classical.byContradiction
  intro hne
  have h5 := Nat.mod_lt k (show 0 < zord P m a by omega)
  have h6 := fpw_mod hg hc h0 ha h1 k
  rw [hk] at h6
  exact h4 _ (Nat.pos_of_ne_zero hne) h5 h6
def zits (P m n : Nat) : Nat := zcnt (fun a => Nat.beq (zord P m a) n) (2 ^ m - 1) 1
theorem zcnt_pos {p : Nat → Bool} : ∀ {f a : Nat}, zcnt p f a ≠ 0 → ∃ x, a ≤ x ∧ x < a + f ∧ p x = true
  | 0, a, h => absurd rfl h
  | f + 1, a, h => by
    by_cases e : p a = true
    · exact ⟨a, Nat.le_refl _, by omega, e⟩
    · rw [zcnt_f e] at h
      obtain ⟨x, h1, h2, h3⟩ := zcnt_pos h
      exact ⟨x, by omega, by omega, h3⟩
theorem zits_dvd {P m g n : Nat} (hg : fgood P m) (hc : fcy P m g) (h : zits P m n ≠ 0) : (2 ^ m - 1) % n = 0 := by
  obtain ⟨x, h1, h2, h3⟩ := zcnt_pos h
  have hq := f1_lt hg
  have h4 := zord_dvd hg hc (a := x) (by omega) (by omega) (fpw_cyc hg hc (by omega) (by omega))
  rw [Nat.eq_of_beq_eq_true h3] at h4
  exact h4
def zdv (N n : Nat) : Bool := Nat.beq (N % n) 0
theorem zdv_8 : ∀ m, m < 9 → zcnt (zdv (2 ^ m - 1)) (2 ^ m - 1) 1 ≤ 8 := by decide +kernel
theorem zcnt_split (p : Nat → Bool) : ∀ f k a, zcnt p (f + k) a = zcnt p f a + zcnt p k (a + f)
  | 0, k, a => by rw [Nat.zero_add, Nat.add_zero]; show _ = 0 + _; rw [Nat.zero_add]
  | f + 1, k, a => by
    have := zcnt_split p f k (a + 1)
    rw [show f + 1 + k = f + k + 1 by omega]
    show (if p a = true then 1 else 0) + zcnt p (f + k) (a + 1) = (if p a = true then 1 else 0) + zcnt p f (a + 1) + _
    rw [this, show a + 1 + f = a + (f + 1) by omega]
    omega
def zold (c : Nat → Nat) : Nat → Nat → List Nat → Nat → List Nat × Nat
  | 0, _, l, u => (l, u)
  | f + 1, n, l, u => if c n = 0 then zold c f (n + 1) l u else zold c f (n + 1) (l ++ [n] ++ [c n]) (u + 1)
section ZC6
variable {M0 M M' : mz_M} {σ : zSg}
theorem c_X10_orders_27 {n u : Nat} {l : List Nat} (h : zP M0 (zrw σ (zrl l)) M) (hn : n < 2 ^ σ.1.2.1) (hl : zits σ.1.1 σ.1.2.1 n ≠ 0 → l.length ≤ 14) : ∃ M1, zP M0 (zrw σ (zrl (if zits σ.1.1 σ.1.2.1 n = 0 then l else l ++ [n] ++ [zits σ.1.1 σ.1.2.1 n]))) M1 ∧ ∀ res,
    (∀ x y : Int32, mq_G mq_X10_orders (14, [some (.ref 77), some (.int (nI (if zits σ.1.1 σ.1.2.1 n = 0 then u else u + 1))), some (.int (nI (n + 1))), some (.int x), some (.int y)], [], M1) res) →
    ∀ (f a : Nat), a + 1 + f = 2 ^ σ.1.2.1 → mq_G mq_X10_orders (27, [some (.ref 77), some (.int (nI u)), some (.int (nI n)), some (.int (nI (zcnt (fun a => Nat.beq (zord σ.1.1 σ.1.2.1 a) n) a 1))), some (.int (nI (a + 1)))], [], M) res := by
  have hq : 2 ^ σ.1.2.1 ≤ 256 := h.q
  have hg : fgood σ.1.1 σ.1.2.1 := h.g
  have hF : zF σ.1.1 σ.1.2.1 M := h.F
  obtain ⟨g, hc⟩ : ∃ g, fcy σ.1.1 σ.1.2.1 g := h.c
  have hle := zcnt_le (fun a => Nat.beq (zord σ.1.1 σ.1.2.1 a) n) (2 ^ σ.1.2.1 - 1) 1
  have hq1 := f1_lt hg
  have inner : ∀ res, (mq_G mq_X10_orders (27, [some (.ref 77), some (.int (nI u)), some (.int (nI n)), some (.int (nI (zits σ.1.1 σ.1.2.1 n))), some (.int (nI (2 ^ σ.1.2.1)))], [], M) res) → ∀ (f a : Nat), a + 1 + f = 2 ^ σ.1.2.1 → mq_G mq_X10_orders (27, [some (.ref 77), some (.int (nI u)), some (.int (nI n)), some (.int (nI (zcnt (fun a => Nat.beq (zord σ.1.1 σ.1.2.1 a) n) a 1))), some (.int (nI (a + 1)))], [], M) res := by
    intro res gg f
    induction f with
    | zero =>
      intro a ha
      obtain rfl : a = 2 ^ σ.1.2.1 - 1 := by omega
      rw [show 2 ^ σ.1.2.1 - 1 + 1 = 2 ^ σ.1.2.1 by omega]
      exact gg
    | succ f ih =>
      intro a ha
      have h1 := ih (a + 1) (by omega)
      have ho := (zord_spec hg hc (a := a + 1) (by omega) (by omega)).2.2.1
      refine t_X10_orders_27 _ _ _ _ _ ⟨fun c => ?_, fun _ => ⟨_, s_X10_orderOf hF hc (a := a + 1) (by omega) (by omega), fun c => ?_, fun c => ?_⟩⟩
      · rw [hF.2.2.2, zn_le (by omega) (by omega)] at c
        omega
      · have c : ¬ nI (zord σ.1.1 σ.1.2.1 (a + 1)) = nI n := c
        rw [zn_eq (by omega) (by omega)] at c
        rw [zcnt_r, Nat.add_comm 1 a, if_neg (fun q => c (Nat.eq_of_beq_eq_true q)), Nat.add_zero] at h1
        rw [Int32.add_zero, nI_1]
        exact h1
      · have c : ¬ ¬ nI (zord σ.1.1 σ.1.2.1 (a + 1)) = nI n := c
        rw [zn_eq (by omega) (by omega)] at c
        rw [zcnt_r, Nat.add_comm 1 a, if_pos (by rw [Classical.not_not.mp c]; exact Nat.beq_refl n)] at h1
        rw [nI_1, nI_1]
        exact h1
  have hz : zits σ.1.1 σ.1.2.1 n ≤ 2 ^ σ.1.2.1 - 1 := hle
  have hge : M.1 77 12 ≤ nI (2 ^ σ.1.2.1) := by
    rw [hF.2.2.2]
    exact Int32.le_refl _
  by_cases e : zits σ.1.1 σ.1.2.1 n = 0
  · refine ⟨M, by rw [if_pos e]; exact h, fun res k => inner res (t_X10_orders_27 _ _ _ _ _ ⟨fun _ => ⟨fun c => absurd (by rw [e]; rfl) c, fun _ => ?_⟩, fun c => absurd hge c⟩)⟩
    rw [nI_1]
    have := k (nI (zits σ.1.1 σ.1.2.1 n)) (nI (2 ^ σ.1.2.1))
    rw [if_pos e] at this
    exact this
  · obtain ⟨M1, g1, g2, -⟩ := s_tellL (x := n) h (by have := hl e; omega)
    obtain ⟨M2, k1, k2, -⟩ := s_tellL (x := zits σ.1.1 σ.1.2.1 n) g2 (by have := hl e; simp; omega)
    refine ⟨M2, by rw [if_neg e]; exact k2, fun res k => inner res (t_X10_orders_27 _ _ _ _ _ ⟨fun _ => ⟨fun _ => ⟨M1, g1, M2, k1, ?_⟩, fun c => absurd (fun q => e ((zn_eq0 (by omega)).mp q)) c⟩, fun c => absurd hge c⟩)⟩
    rw [nI_1, nI_1]
    have := k (nI (zits σ.1.1 σ.1.2.1 n)) (nI (2 ^ σ.1.2.1))
    rw [if_neg e] at this
    exact this
theorem c_X10_orders_14 : ∀ (f n : Nat) (l : List Nat) (u : Nat) (M : mz_M), zP M0 (zrw σ (zrl l)) M → n + 1 + f = 2 ^ σ.1.2.1 → l.length = 2 * u → u ≤ zcnt (zdv (2 ^ σ.1.2.1 - 1)) n 1 → ∃ M', (∀ o3 o4 : Option Value, mq_G mq_X10_orders (14, [some (.ref 77), some (.int (nI u)), some (.int (nI (n + 1))), o3, o4], [], M) (some (.int (nI (zold (zits σ.1.1 σ.1.2.1) f (n + 1) l u).2)), M')) ∧ zP M0 (zrw σ (zrl (zold (zits σ.1.1 σ.1.2.1) f (n + 1) l u).1)) M'
  | 0, n, l, u, M, h, hn, hl, hu => by
    have hq : 2 ^ σ.1.2.1 ≤ 256 := h.q
    refine ⟨M, fun o3 o4 => t_X10_orders_14 _ _ _ _ _ ⟨fun _ => rfl, fun c => absurd ?_ c⟩, h⟩
    rw [show M.1 77 12 = nI (2 ^ σ.1.2.1) from h.F.2.2.2, zn_le (by omega) (by omega)]
    omega
  | f + 1, n, l, u, M, h, hn, hl, hu => by
    have hq : 2 ^ σ.1.2.1 ≤ 256 := h.q
    have hg : fgood σ.1.1 σ.1.2.1 := h.g
    obtain ⟨g, hc⟩ : ∃ g, fcy σ.1.1 σ.1.2.1 g := h.c
    have h8 := hg.2.1
    have hd8 := zdv_8 σ.1.2.1 (by omega)
    have hsp := zcnt_split (zdv (2 ^ σ.1.2.1 - 1)) (n + 1) f 1
    rw [show n + 1 + f = 2 ^ σ.1.2.1 - 1 by omega] at hsp
    have hr := zcnt_r (zdv (2 ^ σ.1.2.1 - 1)) n 1
    have hdiv : zits σ.1.1 σ.1.2.1 (n + 1) ≠ 0 → zdv (2 ^ σ.1.2.1 - 1) (1 + n) = true := fun q => by
      unfold zdv
      rw [Nat.add_comm, zits_dvd hg hc q]
      rfl
    have hge : ¬ (M.1 77 12 ≤ nI (n + 1)) := by
      rw [show M.1 77 12 = nI (2 ^ σ.1.2.1) from h.F.2.2.2, zn_le (by omega) (by omega)]
      omega
    obtain ⟨M1, g1, g2⟩ := c_X10_orders_27 (u := u) (n := n + 1) h (by omega) (fun q => by
      rw [if_pos (hdiv q)] at hr
      omega)
    by_cases e : zits σ.1.1 σ.1.2.1 (n + 1) = 0
    · rw [if_pos e] at g1
      obtain ⟨M', k1, k2⟩ := c_X10_orders_14 f (n + 1) l u M1 g1 (by omega) hl (by rw [hr]; omega)
      rw [show zold (zits σ.1.1 σ.1.2.1) (f + 1) (n + 1) l u = zold (zits σ.1.1 σ.1.2.1) f (n + 1 + 1) l u from if_pos e]
      refine ⟨M', fun o3 o4 => t_X10_orders_14 _ _ _ _ _ ⟨fun c => absurd c hge, fun _ => g2 _ (fun x y => ?_) (2 ^ σ.1.2.1 - 1) 0 (by omega)⟩, k2⟩
      rw [if_pos e]
      exact k1 _ _
    · rw [if_neg e] at g1
      obtain ⟨M', k1, k2⟩ := c_X10_orders_14 f (n + 1) (l ++ [n + 1] ++ [zits σ.1.1 σ.1.2.1 (n + 1)]) (u + 1) M1 g1 (by omega) (by simp; omega) (by rw [hr, if_pos (hdiv e)]; omega)
      rw [show zold (zits σ.1.1 σ.1.2.1) (f + 1) (n + 1) l u = zold (zits σ.1.1 σ.1.2.1) f (n + 1 + 1) (l ++ [n + 1] ++ [zits σ.1.1 σ.1.2.1 (n + 1)]) (u + 1) from if_neg e]
      refine ⟨M', fun o3 o4 => t_X10_orders_14 _ _ _ _ _ ⟨fun c => absurd c hge, fun _ => g2 _ (fun x y => ?_) (2 ^ σ.1.2.1 - 1) 0 (by omega)⟩, k2⟩
      rw [if_neg e]
      exact k1 _ _
def k_orders (σ : zSg) : Int32 × zSg := (nI (zold (zits σ.1.1 σ.1.2.1) (2 ^ σ.1.2.1 - 1) 1 [] 0).2, zrw σ (zrl (zold (zits σ.1.1 σ.1.2.1) (2 ^ σ.1.2.1 - 1) 1 [] 0).1))
theorem c_X10_orders (h : zP M0 σ M) : zA M0 mq_X10_orders [.ref 77] M (k_orders σ) := by
  obtain ⟨M1, eM, h1, -⟩ := h.thr
  have hq0 := f1_lt h.g
  obtain ⟨M', k1, k2⟩ := c_X10_orders_14 (σ := σ) (M0 := M0) (2 ^ σ.1.2.1 - 1) 0 [] 0 _ h1.rowL (by omega) rfl (Nat.zero_le _)
  refine ⟨M', t_X10_orders_0 _ (fun M2 e2 M3 e3 => ?_), k2⟩
  obtain rfl := e2.trans eM
  rw [e3]
  exact k1 _ _
/-! classes -/
theorem zP.wrow {n k : Nat} {f : Nat → Int64} {x : Int64} (h : zP M0 (zrw σ (n, f)) M) : zP M0 (zrw σ (n, fun j => if j = k then x else f j)) (mz_wrl M 83 (vp_updL (M.2 83) k x)) := by
  refine ⟨h.1.wrl (by decide), h.2.1.k rfl rfl rfl, h.2.2.1.k rfl rfl, h.2.2.2.1.k rfl rfl, h.2.2.2.2.1.k rfl rfl, h.2.2.2.2.2.1, h.2.2.2.2.2.2.1, fun j hj => ?_⟩
  rw [zwrl_s]
  show vp_updL (M.2 83) k x j = if j = k then x else f j
  by_cases e : j = k
  · rw [if_pos e, e, pk_uLs]
  · rw [if_neg e, pk_uLn e]
    exact h.2.2.2.2.2.2.2 j hj
theorem zP.rown (h : zP M0 σ M) {n : Nat} (hn : n ≤ 16) : zP M0 (zrw σ (n, M.2 83)) (mz_wr M 77 (upd (M.1 77) 9 (nI n))) := by
  have e : ∀ j, ¬ j = 9 → (mz_wr M 77 (upd (M.1 77) 9 (nI n))).1 77 j = M.1 77 j := fun j hj => by rw [zwr_s, zupd_n hj]
  exact ⟨h.1.wr (by decide), h.2.1.k (zwr_n (by decide)) (e _ (by decide)) (e _ (by decide)), h.2.2.1.k (zwr_n (by decide)) (e _ (by decide)), h.2.2.2.1.k (zwr_n (by decide)) (e _ (by decide)), h.2.2.2.2.1.k (zwr_n (by decide)) (e _ (by decide)), hn, by rw [zwr_s, zupd_s]; rfl, fun k hk => rfl⟩
/-- how many conjugates there are -/
def zsi (P m a : Nat) : Nat := zsz P m a (m - 1) 1
def zfi (P m a : Nat) : Nat → Nat → Bool → Bool
  | 0, _, b => b
  | f + 1, k, b => zfi P m a f (k + 1) (b && Nat.blt a (cj P m a k))
/-- a is the least of its class -/
def zlc (P m a : Nat) : Bool := zfi P m a (zsi P m a - 1) 1 true
def zhs (P m k a : Nat) : Bool := Nat.beq (zsi P m a) (k + 1)
theorem zsi_ge (P m a : Nat) : ∀ f k, k ≤ zsz P m a f k
  | 0, k => Nat.le_refl k
  | f + 1, k => by
    have := zsi_ge P m a f (k + 1)
    unfold zsz
    split <;> omega
theorem c_X10_classes_72 {a n : Nat} (hF : zF σ.1.1 σ.1.2.1 M) (ha : a < 2 ^ σ.1.2.1) (hs : n ≤ 8) : ∀ (f k : Nat) (b : Bool) (c : Nat) {res : mz_O}, k + f = n →
    (∀ o3 o4 o5 : Option Value, mq_G mq_X10_classes (40, [some (.ref 77), some (.int (nI (c + if zfi σ.1.1 σ.1.2.1 a f k b = true then 1 else 0))), some (.int (nI (a + 1))), o3, o4, o5], [], M) res) →
    mq_G mq_X10_classes (72, [some (.ref 77), some (.int (nI c)), some (.int (nI a)), some (.int (nI n)), some (.int (zB b)), some (.int (nI k))], [], M) res
  | 0, k, b, c, res, hk, kk => by
    obtain rfl : k = n := by omega
    refine t_X10_classes_72 _ _ _ _ _ _ ⟨fun _ => ⟨fun q => ?_, fun q => ?_⟩, fun c => absurd ((zn_le (by omega) (by omega)).mpr (Nat.le_refl k)) c⟩
    · have hb : b = false := by cases b with
        | false => rfl
        | true => exact absurd q (by decide)
      subst hb
      rw [Int32.add_zero, nI_1]
      exact kk _ _ _
    · have hb : b = true := by cases b with
        | false => exact absurd rfl q
        | true => rfl
      subst hb
      rw [nI_1, nI_1]
      exact kk _ _ _
  | f + 1, k, b, c, res, hk, kk => by
    have hq := zq256 hF.1.2.1
    have hl := cj_lt hF.1 ha k
    have hle : ¬ (nI n ≤ nI k) := by rw [zn_le (by omega) (by omega)]; omega
    have ih := c_X10_classes_72 hF ha hs f (k + 1) (b && Nat.blt a (cj σ.1.1 σ.1.2.1 a k)) c (by omega) kk
    cases b with
    | false =>
      refine t_X10_classes_72 _ _ _ _ _ _ ⟨fun c => absurd c hle, fun _ => ⟨fun _ => ?_, fun c => absurd rfl c⟩⟩
      rw [nI_1]
      exact ih
    | true =>
      refine t_X10_classes_72 _ _ _ _ _ _ ⟨fun c => absurd c hle, fun _ => ⟨fun c => absurd c (by decide), fun _ => ⟨_, s_X10_conj hF ha (by omega), fun q => ?_, fun q => ?_⟩⟩⟩
      · rw [zn_le (by omega) (by omega)] at q
        rw [show (true && Nat.blt a (cj σ.1.1 σ.1.2.1 a k)) = false by
          rw [Bool.true_and]
          cases e : Nat.blt a (cj σ.1.1 σ.1.2.1 a k) with
          | false => rfl
          | true => rw [Nat.blt_eq] at e; omega] at ih
        rw [nI_1]
        exact ih
      · rw [zn_le (by omega) (by omega)] at q
        rw [show (true && Nat.blt a (cj σ.1.1 σ.1.2.1 a k)) = true by
          rw [Bool.true_and, Nat.blt_eq]; omega] at ih
        rw [nI_1]
        exact ih
def zcr (P m a : Nat) (k : Nat) : Int64 := (nI (zcnt (zhs P m k) a 0)).toInt64
theorem zadd64 (c : Nat) (h : c < 1000) : (nI c).toInt64 + (1 : Int32).toInt64 = (nI (c + 1)).toInt64 := by
  rw [show (1 : Int32) = nI 1 from rfl, nI_l (by omega), nI_l (by decide), nI_l (by omega), lN_add]
theorem c_X10_classes_40 : ∀ (f a : Nat) (M : mz_M), zP M0 (zrw σ (σ.1.2.1, zcr σ.1.1 σ.1.2.1 a)) M → a + f = 2 ^ σ.1.2.1 → ∃ M', (∀ o3 o4 o5 : Option Value, mq_G mq_X10_classes (40, [some (.ref 77), some (.int (nI (zcnt (zlc σ.1.1 σ.1.2.1) a 0))), some (.int (nI a)), o3, o4, o5], [], M) (some (.int (nI (zcnt (zlc σ.1.1 σ.1.2.1) (2 ^ σ.1.2.1) 0))), M')) ∧ zP M0 (zrw σ (σ.1.2.1, zcr σ.1.1 σ.1.2.1 (2 ^ σ.1.2.1))) M'
  | 0, a, M, h, ha => by
    have hq : 2 ^ σ.1.2.1 ≤ 256 := h.q
    obtain rfl : a = 2 ^ σ.1.2.1 := by omega
    refine ⟨M, fun o3 o4 o5 => t_X10_classes_40 _ _ _ _ _ _ ⟨fun _ => rfl, fun c => absurd ?_ c⟩, h⟩
    rw [show M.1 77 12 = nI (2 ^ σ.1.2.1) from h.F.2.2.2]
    exact Int32.le_refl _
  | f + 1, a, M, h, ha => by
    have hq : 2 ^ σ.1.2.1 ≤ 256 := h.q
    have hg : fgood σ.1.1 σ.1.2.1 := h.g
    have h8 := hg.2.1
    have h2 := hg.1
    have hF : zF σ.1.1 σ.1.2.1 M := h.F
    obtain ⟨g, hc⟩ : ∃ g, fcy σ.1.1 σ.1.2.1 g := h.c
    have s1 := zsi_ge σ.1.1 σ.1.2.1 a (σ.1.2.1 - 1) 1
    have s2 := zsz_le σ.1.1 σ.1.2.1 a (σ.1.2.1 - 1) 1
    have hsz := s_X10_sizeOf hF hc (a := a) (by omega)
    rw [show zsz σ.1.1 σ.1.2.1 a (σ.1.2.1 - 1) 1 = zsi σ.1.1 σ.1.2.1 a from rfl] at s1 s2 hsz
    have ep : nI (zsi σ.1.1 σ.1.2.1 a) - 1 = nI (zsi σ.1.1 σ.1.2.1 a - 1) := zn_sub (b := 1) s1
    have ek : M.2 83 (zsi σ.1.1 σ.1.2.1 a - 1) = zcr σ.1.1 σ.1.2.1 a (zsi σ.1.1 σ.1.2.1 a - 1) := h.2.2.2.2.2.2.2 _ (by show zsi σ.1.1 σ.1.2.1 a - 1 < σ.1.2.1; omega)
    have hcl := zcnt_le (zhs σ.1.1 σ.1.2.1 (zsi σ.1.1 σ.1.2.1 a - 1)) a 0
    have h1 := (h.wrow (k := zsi σ.1.1 σ.1.2.1 a - 1) (x := M.2 83 (zsi σ.1.1 σ.1.2.1 a - 1) + (1 : Int32).toInt64)).ext (f' := zcr σ.1.1 σ.1.2.1 (a + 1)) (fun k hk => by
      unfold zcr
      rw [zcnt_r, Nat.zero_add]
      by_cases e : k = zsi σ.1.1 σ.1.2.1 a - 1
      · rw [if_pos e, ek, e]
        unfold zcr
        rw [zadd64 _ (by omega), if_pos (by unfold zhs; rw [show zsi σ.1.1 σ.1.2.1 a - 1 + 1 = zsi σ.1.1 σ.1.2.1 a by omega]; exact Nat.beq_refl _)]
      · rw [if_neg e, if_neg (fun q => e (by have := Nat.eq_of_beq_eq_true q; omega)), Nat.add_zero])
    obtain ⟨M', k1, k2⟩ := c_X10_classes_40 f (a + 1) _ h1 (by omega)
    refine ⟨M', fun o3 o4 o5 => t_X10_classes_40 _ _ _ _ _ _ ⟨fun c => ?_, fun _ => ⟨_, hsz, by rw [ep]; exact zn_in (by omega) (by decide), by rw [ep]; exact zn_in (by omega) (by decide), fun M3 e3 => ?_⟩⟩, k2⟩
    · rw [hF.2.2.2, zn_le (by omega) (by omega)] at c
      omega
    · rw [ep, zn_cl (by omega)] at e3
      subst e3
      refine c_X10_classes_72 (σ := σ) (n := zsi σ.1.1 σ.1.2.1 a) h1.F (by omega) (by omega) (zsi σ.1.1 σ.1.2.1 a - 1) 1 true _ (by omega) (fun o3 o4 o5 => ?_)
      have := k1 o3 o4 o5
      rw [zcnt_r, Nat.zero_add] at this
      exact this
theorem c_X10_classes_17 : ∀ (f k : Nat) (fn : Nat → Int64) (M : mz_M), zP M0 (zrw σ (σ.1.2.1, fn)) M → k + f = σ.1.2.1 → (∀ j, j < k → fn j = (nI 0).toInt64) → ∃ M', mq_G mq_X10_classes (17, [some (.ref 77), some (.int 0), some (.int (nI k)), none, none, none], [], M) (some (.int (nI (zcnt (zlc σ.1.1 σ.1.2.1) (2 ^ σ.1.2.1) 0))), M') ∧ zP M0 (zrw σ (σ.1.2.1, zcr σ.1.1 σ.1.2.1 (2 ^ σ.1.2.1))) M'
  | 0, k, fn, M, h, hk, hz => by
    have hg : fgood σ.1.1 σ.1.2.1 := h.g
    have h8 := hg.2.1
    obtain ⟨M', k1, k2⟩ := c_X10_classes_40 (2 ^ σ.1.2.1) 0 M (h.ext (fun j hj => hz j (by omega))) (by omega)
    refine ⟨M', t_X10_classes_17 _ _ _ _ _ _ ⟨fun _ => k1 _ _ _, fun c => absurd ?_ c⟩, k2⟩
    rw [show M.1 77 11 = nI σ.1.2.1 from h.F.2.2.1, zn_le (by omega) (by omega)]
    omega
  | f + 1, k, fn, M, h, hk, hz => by
    have hg : fgood σ.1.1 σ.1.2.1 := h.g
    have h8 := hg.2.1
    obtain ⟨M', k1, k2⟩ := c_X10_classes_17 f (k + 1) _ _ (h.wrow (k := k) (x := (nI 0).toInt64)) (by omega) (fun j hj => by
      by_cases e : j = k
      · rw [if_pos e]
      · rw [if_neg e]; exact hz j (by omega))
    refine ⟨M', t_X10_classes_17 _ _ _ _ _ _ ⟨fun c => ?_, fun _ => ⟨zn_in (by omega) (by decide), fun M2 e2 => ?_⟩⟩, k2⟩
    · rw [show M.1 77 11 = nI σ.1.2.1 from h.F.2.2.1, zn_le (by omega) (by omega)] at c
      omega
    · rw [e2, zn_cl (by omega), nI_1]
      exact k1
def k_classes (σ : zSg) : Int32 × zSg := (nI (zcnt (zlc σ.1.1 σ.1.2.1) (2 ^ σ.1.2.1) 0), zrw σ (σ.1.2.1, zcr σ.1.1 σ.1.2.1 (2 ^ σ.1.2.1)))
theorem c_X10_classes (h : zP M0 σ M) : zA M0 mq_X10_classes [.ref 77] M (k_classes σ) := by
  obtain ⟨M1, eM, h1, -⟩ := h.thr
  have h8 := h.g.2.1
  obtain ⟨M', k1, k2⟩ := c_X10_classes_17 (σ := σ) (M0 := M0) σ.1.2.1 0 _ _ (h1.rown (n := σ.1.2.1) (by omega)) (by omega) (fun j hj => absurd hj (Nat.not_lt_zero j))
  refine ⟨M', t_X10_classes_0 _ (fun M2 e2 M3 e3 => ?_), k2⟩
  obtain rfl := e2.trans eM
  rw [e3, h1.F.2.2.1]
  exact k1
end ZC6
