/-! what the class's factors and classes come to: checked by program -/
def zlq (p : Nat) : Nat → Nat → Nat
  | 0, _ => p
  | n + 1, q => match Nat.blt (Nat.log2 p) (Nat.mul 2 (Nat.log2 q)) with
    | true => p
    | false => match Nat.beq (zremk p q) 0 with
      | true => q
      | false => frc (Nat.add q 1) (zlq p n)
theorem zlq_all : zall (fun p => match Nat.blt 1 p with
  | true => Nat.beq (zlf p 1024 2) (zlq p 40 2)
  | false => true) 1024 = true := by decide +kernel
def zfq : Nat → Nat → List Nat
  | 0, _ => []
  | f + 1, p => match Nat.ble p 1 with
    | true => []
    | false => frc (zlq p 40 2) (fun y => y :: frc (zquot p y) (zfq f))
/-- the class's inner loop: g is taken out -/
def yin (g : Nat) : Nat → Nat → List Nat → Nat × List Nat
  | 0, r, l => (r, l)
  | n + 1, r, l => match Nat.ble r 1 with
    | true => (r, l)
    | false => match Nat.beq (zremk r g) 0 with
      | true => frc (zquot r g) (fun r2 => yin g n r2 (l ++ [g]))
      | false => (r, l)
def yg (q r : Nat) : Nat := match Nat.ble (Nat.mul 2 (Nat.log2 q)) (Nat.log2 r) with
  | true => q
  | false => r
/-- the class's outer loop -/
def yout : Nat → Nat → Nat → List Nat → List Nat
  | 0, _, _, l => l
  | n + 1, q, r, l => match Nat.ble r 1 with
    | true => l
    | false => match yin (yg q r) 10 r l with
      | (r2, l2) => frc r2 (fun r3 => frc (Nat.add q 1) (fun q2 => yout n q2 r3 l2))
def zleq : List Nat → List Nat → Bool
  | [], [] => true
  | a :: l, b :: k => Nat.beq a b && zleq l k
  | _, _ => false
theorem zleq_eq : ∀ {l k : List Nat}, zleq l k = true → l = k
  | [], [], _ => rfl
  | a :: l, b :: k, h => by
    simp only [zleq, Bool.and_eq_true] at h
    rw [Nat.eq_of_beq_eq_true h.1, zleq_eq h.2]
  | [], _ :: _, h => by simp [zleq] at h
  | _ :: _, [], h => by simp [zleq] at h
theorem yfac_all : zall (fun p => match Nat.blt 1 p with
  | true => zleq (yout 1022 2 p []) (zfq 10 p)
  | false => true) 1024 = true := by decide +kernel
theorem zlq_eq {p : Nat} (h2 : 2 ≤ p) (hp : p < 1024) : zlq p 40 2 = zlf p 1024 2 := by
  have h := zall_iff zlq_all p hp
  rw [show Nat.blt 1 p = true by rw [Nat.blt_eq]; omega] at h
  exact (Nat.eq_of_beq_eq_true h).symm
theorem zfq_eq : ∀ (f p : Nat), p < 1024 → zfq f p = zfac f p
  | 0, p, _ => rfl
  | f + 1, p, hp => by
    unfold zfq zfac
    by_cases h : p ≤ 1
    · rw [show Nat.ble p 1 = true from Nat.ble_eq.mpr h, if_pos h]
    · rw [show Nat.ble p 1 = false by cases e : Nat.ble p 1 with
        | false => rfl
        | true => exact absurd (Nat.ble_eq.mp e) h, if_neg h]
      have hg := zlf_ge p 1024 2 (by omega)
      have hl := zquot_lt (p := p) (f := zlf p 1024 2) (k := 9) hg (Nat.le_refl 9) hp
      simp only [frc_eq]
      rw [zlq_eq (by omega) hp, zfq_eq f _ (by omega)]
theorem yfac_eq {p : Nat} (h2 : 2 ≤ p) (hp : p < 1024) : yout 1022 2 p [] = zfac 10 p := by
  have h := zall_iff yfac_all p hp
  rw [show Nat.blt 1 p = true by rw [Nat.blt_eq]; omega] at h
  rw [zleq_eq h, zfq_eq 10 p hp]
/-! classes -/
def ysq (T a : Nat) : Nat := Nat.mod (Nat.shiftRight T (Nat.mul 8 a)) 256
def ytab (P m : Nat) : Nat → Nat → Nat
  | 0, T => T
  | n + 1, T => frc (Nat.add T (Nat.shiftLeft (fmk P m n n) (Nat.mul 8 n))) (ytab P m n)
def ywb (k : Nat) (b : Bool) : Nat := Nat.add (Nat.pow 1024 k) (match b with
  | true => 1
  | false => 0)
def yw (T a : Nat) : Nat → Nat → Nat → Bool → Nat
  | 0, _, k, b => ywb k b
  | f + 1, x, k, b => match Nat.beq x a with
    | true => ywb k b
    | false => frc (ysq T x) (fun y => frc (Nat.add k 1) (fun k2 => yw T a f y k2 (match b with
      | true => Nat.blt a x
      | false => false)))
def ypk (T m : Nat) : Nat → Nat → Nat
  | 0, C => C
  | n + 1, C => frc (Nat.add C (frc (ysq T n) (fun y => yw T n (Nat.sub m 1) y 1 true))) (ypk T m n)
def ysm (C : Nat) : Nat → Nat
  | 0 => 0
  | n + 1 => Nat.add (ysm C n) (Nat.div (Nat.mod (Nat.shiftRight C (Nat.mul 10 (Nat.add n 1))) 1024) (Nat.add n 1))
def ychk (P m : Nat) : Bool := frc (ytab P m (Nat.pow 2 m) 0) (fun T => match zall (fun a => Nat.beq (ysq T a) (fmk P m a a)) (Nat.pow 2 m) with
  | true => frc (ypk T m (Nat.pow 2 m) 0) (fun C => Nat.beq (Nat.mod C 1024) (ysm C m))
  | false => false)
theorem ych_7 : ychk 7 2 = true := by decide +kernel
theorem ych_11 : ychk 11 3 = true := by decide +kernel
theorem ych_13 : ychk 13 3 = true := by decide +kernel
theorem ych_19 : ychk 19 4 = true := by decide +kernel
theorem ych_25 : ychk 25 4 = true := by decide +kernel
theorem ych_31 : ychk 31 4 = true := by decide +kernel
theorem ych_37 : ychk 37 5 = true := by decide +kernel
theorem ych_41 : ychk 41 5 = true := by decide +kernel
theorem ych_47 : ychk 47 5 = true := by decide +kernel
theorem ych_55 : ychk 55 5 = true := by decide +kernel
theorem ych_59 : ychk 59 5 = true := by decide +kernel
theorem ych_61 : ychk 61 5 = true := by decide +kernel
theorem ych_67 : ychk 67 6 = true := by decide +kernel
theorem ych_73 : ychk 73 6 = true := by decide +kernel
theorem ych_87 : ychk 87 6 = true := by decide +kernel
theorem ych_91 : ychk 91 6 = true := by decide +kernel
theorem ych_97 : ychk 97 6 = true := by decide +kernel
theorem ych_103 : ychk 103 6 = true := by decide +kernel
theorem ych_109 : ychk 109 6 = true := by decide +kernel
theorem ych_115 : ychk 115 6 = true := by decide +kernel
theorem ych_117 : ychk 117 6 = true := by decide +kernel
theorem ych_131 : ychk 131 7 = true := by decide +kernel
theorem ych_137 : ychk 137 7 = true := by decide +kernel
theorem ych_143 : ychk 143 7 = true := by decide +kernel
theorem ych_145 : ychk 145 7 = true := by decide +kernel
theorem ych_157 : ychk 157 7 = true := by decide +kernel
theorem ych_167 : ychk 167 7 = true := by decide +kernel
theorem ych_171 : ychk 171 7 = true := by decide +kernel
theorem ych_185 : ychk 185 7 = true := by decide +kernel
theorem ych_191 : ychk 191 7 = true := by decide +kernel
theorem ych_193 : ychk 193 7 = true := by decide +kernel
theorem ych_203 : ychk 203 7 = true := by decide +kernel
theorem ych_211 : ychk 211 7 = true := by decide +kernel
theorem ych_213 : ychk 213 7 = true := by decide +kernel
theorem ych_229 : ychk 229 7 = true := by decide +kernel
theorem ych_239 : ychk 239 7 = true := by decide +kernel
theorem ych_241 : ychk 241 7 = true := by decide +kernel
theorem ych_247 : ychk 247 7 = true := by decide +kernel
theorem ych_253 : ychk 253 7 = true := by decide +kernel
theorem ych_283 : ychk 283 8 = true := by decide +kernel
theorem ych_285 : ychk 285 8 = true := by decide +kernel
theorem ych_299 : ychk 299 8 = true := by decide +kernel
theorem ych_301 : ychk 301 8 = true := by decide +kernel
theorem ych_313 : ychk 313 8 = true := by decide +kernel
theorem ych_319 : ychk 319 8 = true := by decide +kernel
theorem ych_333 : ychk 333 8 = true := by decide +kernel
theorem ych_351 : ychk 351 8 = true := by decide +kernel
theorem ych_355 : ychk 355 8 = true := by decide +kernel
theorem ych_357 : ychk 357 8 = true := by decide +kernel
theorem ych_361 : ychk 361 8 = true := by decide +kernel
theorem ych_369 : ychk 369 8 = true := by decide +kernel
theorem ych_375 : ychk 375 8 = true := by decide +kernel
theorem ych_379 : ychk 379 8 = true := by decide +kernel
theorem ych_391 : ychk 391 8 = true := by decide +kernel
theorem ych_395 : ychk 395 8 = true := by decide +kernel
theorem ych_397 : ychk 397 8 = true := by decide +kernel
theorem ych_415 : ychk 415 8 = true := by decide +kernel
theorem ych_419 : ychk 419 8 = true := by decide +kernel
theorem ych_425 : ychk 425 8 = true := by decide +kernel
theorem ych_433 : ychk 433 8 = true := by decide +kernel
theorem ych_445 : ychk 445 8 = true := by decide +kernel
theorem ych_451 : ychk 451 8 = true := by decide +kernel
theorem ych_463 : ychk 463 8 = true := by decide +kernel
theorem ych_471 : ychk 471 8 = true := by decide +kernel
theorem ych_477 : ychk 477 8 = true := by decide +kernel
theorem ych_487 : ychk 487 8 = true := by decide +kernel
theorem ych_499 : ychk 499 8 = true := by decide +kernel
theorem ych_501 : ychk 501 8 = true := by decide +kernel
theorem ych_505 : ychk 505 8 = true := by decide +kernel
theorem ych_all : ∀ q ∈ zirrs, ychk q.1 q.2.1 = true := List.forall_mem_cons.mpr ⟨ych_7, List.forall_mem_cons.mpr ⟨ych_11, List.forall_mem_cons.mpr ⟨ych_13, List.forall_mem_cons.mpr ⟨ych_19, List.forall_mem_cons.mpr ⟨ych_25, List.forall_mem_cons.mpr ⟨ych_31, List.forall_mem_cons.mpr ⟨ych_37, List.forall_mem_cons.mpr ⟨ych_41, List.forall_mem_cons.mpr ⟨ych_47, List.forall_mem_cons.mpr ⟨ych_55, List.forall_mem_cons.mpr ⟨ych_59, List.forall_mem_cons.mpr ⟨ych_61, List.forall_mem_cons.mpr ⟨ych_67, List.forall_mem_cons.mpr ⟨ych_73, List.forall_mem_cons.mpr ⟨ych_87, List.forall_mem_cons.mpr ⟨ych_91, List.forall_mem_cons.mpr ⟨ych_97, List.forall_mem_cons.mpr ⟨ych_103, List.forall_mem_cons.mpr ⟨ych_109, List.forall_mem_cons.mpr ⟨ych_115, List.forall_mem_cons.mpr ⟨ych_117, List.forall_mem_cons.mpr ⟨ych_131, List.forall_mem_cons.mpr ⟨ych_137, List.forall_mem_cons.mpr ⟨ych_143, List.forall_mem_cons.mpr ⟨ych_145, List.forall_mem_cons.mpr ⟨ych_157, List.forall_mem_cons.mpr ⟨ych_167, List.forall_mem_cons.mpr ⟨ych_171, List.forall_mem_cons.mpr ⟨ych_185, List.forall_mem_cons.mpr ⟨ych_191, List.forall_mem_cons.mpr ⟨ych_193, List.forall_mem_cons.mpr ⟨ych_203, List.forall_mem_cons.mpr ⟨ych_211, List.forall_mem_cons.mpr ⟨ych_213, List.forall_mem_cons.mpr ⟨ych_229, List.forall_mem_cons.mpr ⟨ych_239, List.forall_mem_cons.mpr ⟨ych_241, List.forall_mem_cons.mpr ⟨ych_247, List.forall_mem_cons.mpr ⟨ych_253, List.forall_mem_cons.mpr ⟨ych_283, List.forall_mem_cons.mpr ⟨ych_285, List.forall_mem_cons.mpr ⟨ych_299, List.forall_mem_cons.mpr ⟨ych_301, List.forall_mem_cons.mpr ⟨ych_313, List.forall_mem_cons.mpr ⟨ych_319, List.forall_mem_cons.mpr ⟨ych_333, List.forall_mem_cons.mpr ⟨ych_351, List.forall_mem_cons.mpr ⟨ych_355, List.forall_mem_cons.mpr ⟨ych_357, List.forall_mem_cons.mpr ⟨ych_361, List.forall_mem_cons.mpr ⟨ych_369, List.forall_mem_cons.mpr ⟨ych_375, List.forall_mem_cons.mpr ⟨ych_379, List.forall_mem_cons.mpr ⟨ych_391, List.forall_mem_cons.mpr ⟨ych_395, List.forall_mem_cons.mpr ⟨ych_397, List.forall_mem_cons.mpr ⟨ych_415, List.forall_mem_cons.mpr ⟨ych_419, List.forall_mem_cons.mpr ⟨ych_425, List.forall_mem_cons.mpr ⟨ych_433, List.forall_mem_cons.mpr ⟨ych_445, List.forall_mem_cons.mpr ⟨ych_451, List.forall_mem_cons.mpr ⟨ych_463, List.forall_mem_cons.mpr ⟨ych_471, List.forall_mem_cons.mpr ⟨ych_477, List.forall_mem_cons.mpr ⟨ych_487, List.forall_mem_cons.mpr ⟨ych_499, List.forall_mem_cons.mpr ⟨ych_501, List.forall_mem_cons.mpr ⟨ych_505, fun _ h => absurd h (List.not_mem_nil)⟩⟩⟩⟩⟩⟩⟩⟩⟩⟩⟩⟩⟩⟩⟩⟩⟩⟩⟩⟩⟩⟩⟩⟩⟩⟩⟩⟩⟩⟩⟩⟩⟩⟩⟩⟩⟩⟩⟩⟩⟩⟩⟩⟩⟩⟩⟩⟩⟩⟩⟩⟩⟩⟩⟩⟩⟩⟩⟩⟩⟩⟩⟩⟩⟩⟩⟩⟩⟩
