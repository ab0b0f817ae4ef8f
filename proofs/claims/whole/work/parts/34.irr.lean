/-! which polynomials are irreducible, as each side asks it -/
def zremk (p f : Nat) : Nat := zmdk f (Nat.log2 f) 11 p
def zlf (p : Nat) : Nat → Nat → Nat
  | 0, _ => p
  | n + 1, f => match Nat.blt f p with
    | true => (match Nat.beq (zremk p f) 0 with
      | true => f
      | false => frc (f + 1) (zlf p n))
    | false => p
def zirr (p : Nat) : Bool := Nat.blt 1 p && Nat.beq (zlf p 1024 2) p
def zic (p d : Nat) : Nat → Nat → Bool
  | 0, _ => true
  | n + 1, q => match Nat.blt q 32 && Nat.ble (2 * Nat.log2 q) d with
    | true => (match Nat.beq (zremk p q) 0 with
      | true => false
      | false => frc (q + 1) (zic p d n))
    | false => true
def zirc (p : Nat) : Bool := zic p (Nat.log2 p) 32 2
def zamong (p : Nat) : List (Nat × Nat × Nat) → Bool
  | [] => false
  | q :: l => Nat.beq q.1 p || zamong p l
theorem zamong_iff {p : Nat} : ∀ {l : List (Nat × Nat × Nat)}, zamong p l = true → ∃ q ∈ l, q.1 = p
  | [], h => by simp [zamong] at h
  | q :: l, h => by
    simp only [zamong, Bool.or_eq_true, Nat.beq_eq] at h
    rcases h with h | h
    · exact ⟨q, List.mem_cons_self, h⟩
    · obtain ⟨q2, h1, h2⟩ := zamong_iff h
      exact ⟨q2, List.mem_cons_of_mem _ h1, h2⟩
theorem zirr_512 : zall (fun p => match zirr p with
  | true => Nat.blt p 4 || zamong p zirrs
  | false => true) 512 = true := by decide +kernel
theorem zirr_irc : zall (fun p => match Nat.blt 1 p with
  | true => (zirr p == zirc p)
  | false => true) 1024 = true := by decide +kernel
theorem zirr_tab : zirrs.all (fun q => zirr q.1) = true := by decide +kernel
theorem zirr_fields {p : Nat} (h1 : 4 ≤ p) (h2 : p < 512) (h : zirr p = true) : ∃ m g, fgood p m ∧ fcy p m g := by
  have h3 := zall_iff zirr_512 p h2
  simp only [h, Bool.or_eq_true, Nat.blt_eq] at h3
  rcases h3 with h3 | h3
  · omega
  · obtain ⟨q, hq, rfl⟩ := zamong_iff h3
    exact ⟨_, _, zirrs_ok q hq⟩
theorem zirc_eq {p : Nat} (h1 : 2 ≤ p) (h2 : p < 1024) : zirc p = zirr p := by
  have h3 := zall_iff zirr_irc p h2
  rw [show Nat.blt 1 p = true by rw [Nat.blt_eq]; omega] at h3
  simpa using (beq_iff_eq.mp h3).symm
