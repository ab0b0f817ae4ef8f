/-! how many classes: counted in two ways -/
/-- the sum over k of how many have k conjugates, by k -/
def ysd (P m : Nat) : Nat → Nat
  | 0 => 0
  | n + 1 => ysd P m n + zcnt (zhs P m n) (2 ^ m) 0 / (n + 1)
def yW (f : Nat → Nat) : Nat := f 0 * 1024 + f 1 * 1048576 + f 2 * 1073741824 + f 3 * 1099511627776 + f 4 * 1125899906842624 + f 5 * 1152921504606846976 + f 6 * 1180591620717411303424 + f 7 * 1208925819614629174706176
theorem yW_add (f g : Nat → Nat) : yW (fun k => f k + g k) = yW f + yW g := by
  simp only [yW, Nat.add_mul]
  omega
theorem yW_one {s : Nat} (h1 : 1 ≤ s) (h8 : s ≤ 8) : yW (fun k => if Nat.beq s (k + 1) = true then 1 else 0) = 1024 ^ s := by
  have h : ∀ s < 9, 1 ≤ s → yW (fun k => if Nat.beq s (k + 1) = true then 1 else 0) = 1024 ^ s := by decide +kernel
  exact h s (by omega) h1
section YC
variable {P m : Nat}
theorem yw_eq (hg : fgood P m) {T a : Nat} (ha : a < 2 ^ m) (hT : ∀ x, x < 2 ^ m → ysq T x = fm P m x x) : ∀ (f k : Nat) (b : Bool), yw T a f (cj P m a k) k b = 1024 ^ (zsz P m a f k) + (if zfi P m a (zsz P m a f k - k) k b = true then 1 else 0)
  | 0, k, b => by
    show 1024 ^ k + _ = _
    unfold zsz
    rw [Nat.sub_self]
    unfold zfi
    cases b <;> rfl
  | f + 1, k, b => by
    unfold yw zsz
    by_cases e : cj P m a k = a
    · rw [if_pos e, show Nat.beq (cj P m a k) a = true by rw [Nat.beq_eq]; exact e, Nat.sub_self]
      show 1024 ^ k + _ = _
      unfold zfi
      cases b <;> rfl
    · rw [if_neg e, show Nat.beq (cj P m a k) a = false by cases q : Nat.beq (cj P m a k) a with
        | false => rfl
        | true => exact absurd (Nat.eq_of_beq_eq_true q) e]
      have h1 := zsi_ge P m a f (k + 1)
      simp only [frc_eq]
      rw [hT _ (cj_lt hg ha k)]
      rw [show zsz P m a f (k + 1) - k = (zsz P m a f (k + 1) - (k + 1)) + 1 by omega]
      cases b with
      | true => exact yw_eq hg ha hT f (k + 1) (Nat.blt a (cj P m a k))
      | false => exact yw_eq hg ha hT f (k + 1) false
theorem ypk_eq (hg : fgood P m) {T : Nat} (hT : ∀ x, x < 2 ^ m → ysq T x = fm P m x x) : ∀ (n C : Nat), n ≤ 2 ^ m → ypk T m n C = C + (yW (fun k => zcnt (zhs P m k) n 0) + zcnt (zlc P m) n 0)
  | 0, C, _ => by
    simp [ypk, yW, zcnt]
  | n + 1, C, hn => by
    have h2 := hg.1
    have h8 := hg.2.1
    have hw := yw_eq hg (a := n) (by omega) hT (m - 1) 1 true
    rw [show cj P m n 1 = fm P m n n from rfl, ← hT n (by omega)] at hw
    have s1 := zsi_ge P m n (m - 1) 1
    have s2 := zsz_le P m n (m - 1) 1
    rw [show zsz P m n (m - 1) 1 = zsi P m n from rfl] at s1 s2 hw
    rw [show zfi P m n (zsi P m n - 1) 1 true = zlc P m n from rfl] at hw
    unfold ypk
    simp only [frc_eq]
    rw [ypk_eq hg hT n _ (by omega), show Nat.sub m 1 = m - 1 from rfl, hw, ← yW_one s1 (by omega), zcnt_r (zlc P m) n 0, Nat.zero_add]
    have hs : yW (fun k => zcnt (zhs P m k) (n + 1) 0) = yW (fun k => zcnt (zhs P m k) n 0) + yW (fun k => if Nat.beq (zsi P m n) (k + 1) = true then 1 else 0) := by
      rw [← yW_add]
      congr 1
      funext k
      rw [zcnt_r, Nat.zero_add]
      rfl
    rw [hs]
    show C + (_ + _) + _ = _
    omega
theorem ydgt {C L : Nat} {D : Nat → Nat} (h : C = yW D + L) (hL : L < 1024) (hD : ∀ k, D k < 1024) : C % 1024 = L ∧ ∀ k, k < 8 → C / 2 ^ (10 * (k + 1)) % 1024 = D k := by
  have h0 := hD 0
  have h1 := hD 1
  have h2 := hD 2
  have h3 := hD 3
  have h4 := hD 4
  have h5 := hD 5
  have h6 := hD 6
  have h7 := hD 7
  unfold yW at h
  refine ⟨by omega, fun k hk => ?_⟩
  match k, hk with
  | 0, _ => show C / 1024 % 1024 = D 0; omega
  | 1, _ => show C / 1048576 % 1024 = D 1; omega
  | 2, _ => show C / 1073741824 % 1024 = D 2; omega
  | 3, _ => show C / 1099511627776 % 1024 = D 3; omega
  | 4, _ => show C / 1125899906842624 % 1024 = D 4; omega
  | 5, _ => show C / 1152921504606846976 % 1024 = D 5; omega
  | 6, _ => show C / 1180591620717411303424 % 1024 = D 6; omega
  | 7, _ => show C / 1208925819614629174706176 % 1024 = D 7; omega
theorem ysm_eq {C : Nat} (h : ∀ k, k < 8 → C / 2 ^ (10 * (k + 1)) % 1024 = zcnt (zhs P m k) (2 ^ m) 0) : ∀ n, n ≤ 8 → ysm C n = ysd P m n
  | 0, _ => rfl
  | n + 1, hn => by
    unfold ysm ysd
    show ysm C n + (C >>> (10 * (n + 1)) % 1024) / (n + 1) = _
    rw [ysm_eq h n (by omega), Nat.shiftRight_eq_div_pow, h n (by omega)]
/-- how many classes: each counted by its size, and by its least -/
theorem yclass {g : Nat} (hz : (P, m, g) ∈ zirrs) : ysd P m m = zcnt (zlc P m) (2 ^ m) 0 := by
  have hg : fgood P m := (zirrs_ok _ hz).1
  have h8 := hg.2.1
  have hq : 2 ^ m ≤ 256 := zq256 h8
  have hc : ychk P m = true := ych_all _ hz
  unfold ychk at hc
  simp only [frc_eq] at hc
  generalize ytab P m (Nat.pow 2 m) 0 = T at hc
  cases hT : zall (fun a => Nat.beq (ysq T a) (fmk P m a a)) (Nat.pow 2 m) with
  | false => rw [hT] at hc; exact absurd hc Bool.false_ne_true
  | true =>
    rw [hT] at hc
    have hc := Nat.eq_of_beq_eq_true hc
    have hT2 : ∀ x, x < 2 ^ m → ysq T x = fm P m x x := fun x hx => by
      have := Nat.eq_of_beq_eq_true (zall_iff hT x hx)
      rw [this, fmk_eq]
    have hp := ypk_eq hg hT2 (2 ^ m) 0 (Nat.le_refl _)
    rw [Nat.zero_add] at hp
    have hd := ydgt hp (by have := zcnt_le (zlc P m) (2 ^ m) 0; omega) (fun k => by have := zcnt_le (zhs P m k) (2 ^ m) 0; omega)
    have h3 := ysm_eq (P := P) (m := m) hd.2 m h8
    rw [← h3, ← hd.1]
    exact hc.symm
end YC
