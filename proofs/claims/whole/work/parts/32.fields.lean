/-! the fields: irreducible polynomials of degrees 2 to 8, and a generator of each: checked by program -/
/-- for the kernel: the number first -/
def frc {α : Type} (n : Nat) (f : Nat → α) : α := match n with
  | 0 => f 0
  | k + 1 => f (k + 1)
theorem frc_eq {α : Type} (n : Nat) (f : Nat → α) : frc n f = f n := by cases n <;> rfl
def zmulk (a b : Nat) : Nat → Nat → Nat
  | 0, c => c
  | n + 1, c => frc (Nat.xor c (Nat.mul (Nat.shiftLeft a n) (Nat.mod (Nat.shiftRight b n) 2))) (zmulk a b n)
def zmdk (P d : Nat) : Nat → Nat → Nat
  | 0, r => r
  | n + 1, r => frc (Nat.xor r (Nat.mul (Nat.shiftLeft P n) (Nat.mod (Nat.shiftRight r (Nat.add d n)) 2))) (zmdk P d n)
theorem zsel (b n x : Nat) : Nat.mul x (Nat.mod (Nat.shiftRight b n) 2) = if b.testBit n = true then x else 0 := by
  show x * ((b >>> n) % 2) = _
  rw [Nat.testBit_eq_decide_div_mod_eq, Nat.shiftRight_eq_div_pow]
  rcases Nat.mod_two_eq_zero_or_one (b / 2 ^ n) with h | h <;> simp [h]
theorem zmulk_eq (a b : Nat) : ∀ n c, zmulk a b n c = c ^^^ zmul a b n
  | 0, c => by simp [zmulk, zmul]
  | n + 1, c => by
    simp only [zmulk, frc_eq, zmulk_eq a b n, zmul, zsel]
    show (c ^^^ (if b.testBit n = true then a <<< n else 0)) ^^^ zmul a b n = _
    ac_rfl
theorem zmdk_eq (P d : Nat) : ∀ n r, zmdk P d n r = zmd P d n r
  | 0, r => rfl
  | n + 1, r => by
    simp only [zmdk, frc_eq, zmdk_eq P d n, zmd, zsel]
    congr 1
    show (r ^^^ (if r.testBit (d + n) = true then P <<< n else 0)) = _
    split <;> simp
def fmk (P m a b : Nat) : Nat := frc (zmulk a b 8 0) (zmdk P m 8)
theorem fmk_eq (P m a b : Nat) : fmk P m a b = fm P m a b := by
  unfold fmk fm
  rw [frc_eq, zmdk_eq, zmulk_eq, Nat.zero_xor]
/-- is f true of all below n -/
def zall (f : Nat → Bool) : Nat → Bool
  | 0 => true
  | n + 1 => f n && zall f n
theorem zall_iff {f : Nat → Bool} : ∀ {n : Nat}, zall f n = true → ∀ i, i < n → f i = true
  | 0, _, i, hi => absurd hi (by omega)
  | n + 1, h, i, hi => by
    simp only [zall, Bool.and_eq_true] at h
    by_cases e : i = n
    · rw [e]; exact h.1
    · exact zall_iff h.2 i (by omega)
def fas (P m : Nat) : Bool := zall (fun i => zall (fun j => zall (fun k => Nat.beq (fmk P m (fmk P m (Nat.pow 2 i) (Nat.pow 2 j)) (Nat.pow 2 k)) (fmk P m (Nat.pow 2 i) (fmk P m (Nat.pow 2 j) (Nat.pow 2 k)))) m) m) m
def fpw (P m a : Nat) : Nat → Nat
  | 0 => 1
  | n + 1 => fm P m (fpw P m a n) a
def fpl (P m g : Nat) : Nat → Nat → List Nat
  | 0, _ => []
  | n + 1, a => a :: frc (fmk P m a g) (fpl P m g n)
def zhas (a : Nat) : List Nat → Bool
  | [] => false
  | b :: l => Nat.beq b a || zhas a l
def znd : List Nat → Bool
  | [] => true
  | a :: l => match zhas a l with
    | true => false
    | false => znd l
def zlast : List Nat → Nat → Nat
  | [], d => d
  | a :: l, _ => zlast l a
def zrng (n : Nat) : List Nat → Bool
  | [] => true
  | a :: l => Nat.blt 0 a && Nat.blt a n && zrng n l
/-- the powers of g below 2^m - 1 are unlike, the next one is 1, none is 0 -/
def fcyc (P m g : Nat) : Bool := znd (fpl P m g (2 ^ m - 1) 1) && zrng (2 ^ m) (fpl P m g (2 ^ m - 1) 1) && Nat.beq (zlast (fpl P m g (2 ^ m) 1) 0) 1 && Nat.blt 1 g && Nat.blt g (2 ^ m)
theorem fas_7 : fas 7 2 = true := by decide +kernel
theorem fcyc_7 : fcyc 7 2 2 = true := by decide +kernel
theorem fas_11 : fas 11 3 = true := by decide +kernel
theorem fcyc_11 : fcyc 11 3 2 = true := by decide +kernel
theorem fas_13 : fas 13 3 = true := by decide +kernel
theorem fcyc_13 : fcyc 13 3 2 = true := by decide +kernel
theorem fas_19 : fas 19 4 = true := by decide +kernel
theorem fcyc_19 : fcyc 19 4 2 = true := by decide +kernel
theorem fas_25 : fas 25 4 = true := by decide +kernel
theorem fcyc_25 : fcyc 25 4 2 = true := by decide +kernel
theorem fas_31 : fas 31 4 = true := by decide +kernel
theorem fcyc_31 : fcyc 31 4 3 = true := by decide +kernel
theorem fas_37 : fas 37 5 = true := by decide +kernel
theorem fcyc_37 : fcyc 37 5 2 = true := by decide +kernel
theorem fas_41 : fas 41 5 = true := by decide +kernel
theorem fcyc_41 : fcyc 41 5 2 = true := by decide +kernel
theorem fas_47 : fas 47 5 = true := by decide +kernel
theorem fcyc_47 : fcyc 47 5 2 = true := by decide +kernel
theorem fas_55 : fas 55 5 = true := by decide +kernel
theorem fcyc_55 : fcyc 55 5 2 = true := by decide +kernel
theorem fas_59 : fas 59 5 = true := by decide +kernel
theorem fcyc_59 : fcyc 59 5 2 = true := by decide +kernel
theorem fas_61 : fas 61 5 = true := by decide +kernel
theorem fcyc_61 : fcyc 61 5 2 = true := by decide +kernel
theorem fas_67 : fas 67 6 = true := by decide +kernel
theorem fcyc_67 : fcyc 67 6 2 = true := by decide +kernel
theorem fas_73 : fas 73 6 = true := by decide +kernel
theorem fcyc_73 : fcyc 73 6 3 = true := by decide +kernel
theorem fas_87 : fas 87 6 = true := by decide +kernel
theorem fcyc_87 : fcyc 87 6 3 = true := by decide +kernel
theorem fas_91 : fas 91 6 = true := by decide +kernel
theorem fcyc_91 : fcyc 91 6 2 = true := by decide +kernel
theorem fas_97 : fas 97 6 = true := by decide +kernel
theorem fcyc_97 : fcyc 97 6 2 = true := by decide +kernel
theorem fas_103 : fas 103 6 = true := by decide +kernel
theorem fcyc_103 : fcyc 103 6 2 = true := by decide +kernel
theorem fas_109 : fas 109 6 = true := by decide +kernel
theorem fcyc_109 : fcyc 109 6 2 = true := by decide +kernel
theorem fas_115 : fas 115 6 = true := by decide +kernel
theorem fcyc_115 : fcyc 115 6 2 = true := by decide +kernel
theorem fas_117 : fas 117 6 = true := by decide +kernel
theorem fcyc_117 : fcyc 117 6 3 = true := by decide +kernel
theorem fas_131 : fas 131 7 = true := by decide +kernel
theorem fcyc_131 : fcyc 131 7 2 = true := by decide +kernel
theorem fas_137 : fas 137 7 = true := by decide +kernel
theorem fcyc_137 : fcyc 137 7 2 = true := by decide +kernel
theorem fas_143 : fas 143 7 = true := by decide +kernel
theorem fcyc_143 : fcyc 143 7 2 = true := by decide +kernel
theorem fas_145 : fas 145 7 = true := by decide +kernel
theorem fcyc_145 : fcyc 145 7 2 = true := by decide +kernel
theorem fas_157 : fas 157 7 = true := by decide +kernel
theorem fcyc_157 : fcyc 157 7 2 = true := by decide +kernel
theorem fas_167 : fas 167 7 = true := by decide +kernel
theorem fcyc_167 : fcyc 167 7 2 = true := by decide +kernel
theorem fas_171 : fas 171 7 = true := by decide +kernel
theorem fcyc_171 : fcyc 171 7 2 = true := by decide +kernel
theorem fas_185 : fas 185 7 = true := by decide +kernel
theorem fcyc_185 : fcyc 185 7 2 = true := by decide +kernel
theorem fas_191 : fas 191 7 = true := by decide +kernel
theorem fcyc_191 : fcyc 191 7 2 = true := by decide +kernel
theorem fas_193 : fas 193 7 = true := by decide +kernel
theorem fcyc_193 : fcyc 193 7 2 = true := by decide +kernel
theorem fas_203 : fas 203 7 = true := by decide +kernel
theorem fcyc_203 : fcyc 203 7 2 = true := by decide +kernel
theorem fas_211 : fas 211 7 = true := by decide +kernel
theorem fcyc_211 : fcyc 211 7 2 = true := by decide +kernel
theorem fas_213 : fas 213 7 = true := by decide +kernel
theorem fcyc_213 : fcyc 213 7 2 = true := by decide +kernel
theorem fas_229 : fas 229 7 = true := by decide +kernel
theorem fcyc_229 : fcyc 229 7 2 = true := by decide +kernel
theorem fas_239 : fas 239 7 = true := by decide +kernel
theorem fcyc_239 : fcyc 239 7 2 = true := by decide +kernel
theorem fas_241 : fas 241 7 = true := by decide +kernel
theorem fcyc_241 : fcyc 241 7 2 = true := by decide +kernel
theorem fas_247 : fas 247 7 = true := by decide +kernel
theorem fcyc_247 : fcyc 247 7 2 = true := by decide +kernel
theorem fas_253 : fas 253 7 = true := by decide +kernel
theorem fcyc_253 : fcyc 253 7 2 = true := by decide +kernel
theorem fas_283 : fas 283 8 = true := by decide +kernel
theorem fcyc_283 : fcyc 283 8 3 = true := by decide +kernel
theorem fas_285 : fas 285 8 = true := by decide +kernel
theorem fcyc_285 : fcyc 285 8 2 = true := by decide +kernel
theorem fas_299 : fas 299 8 = true := by decide +kernel
theorem fcyc_299 : fcyc 299 8 2 = true := by decide +kernel
theorem fas_301 : fas 301 8 = true := by decide +kernel
theorem fcyc_301 : fcyc 301 8 2 = true := by decide +kernel
theorem fas_313 : fas 313 8 = true := by decide +kernel
theorem fcyc_313 : fcyc 313 8 3 = true := by decide +kernel
theorem fas_319 : fas 319 8 = true := by decide +kernel
theorem fcyc_319 : fcyc 319 8 3 = true := by decide +kernel
theorem fas_333 : fas 333 8 = true := by decide +kernel
theorem fcyc_333 : fcyc 333 8 2 = true := by decide +kernel
theorem fas_351 : fas 351 8 = true := by decide +kernel
theorem fcyc_351 : fcyc 351 8 2 = true := by decide +kernel
theorem fas_355 : fas 355 8 = true := by decide +kernel
theorem fcyc_355 : fcyc 355 8 2 = true := by decide +kernel
theorem fas_357 : fas 357 8 = true := by decide +kernel
theorem fcyc_357 : fcyc 357 8 2 = true := by decide +kernel
theorem fas_361 : fas 361 8 = true := by decide +kernel
theorem fcyc_361 : fcyc 361 8 2 = true := by decide +kernel
theorem fas_369 : fas 369 8 = true := by decide +kernel
theorem fcyc_369 : fcyc 369 8 2 = true := by decide +kernel
theorem fas_375 : fas 375 8 = true := by decide +kernel
theorem fcyc_375 : fcyc 375 8 3 = true := by decide +kernel
theorem fas_379 : fas 379 8 = true := by decide +kernel
theorem fcyc_379 : fcyc 379 8 9 = true := by decide +kernel
theorem fas_391 : fas 391 8 = true := by decide +kernel
theorem fcyc_391 : fcyc 391 8 2 = true := by decide +kernel
theorem fas_395 : fas 395 8 = true := by decide +kernel
theorem fcyc_395 : fcyc 395 8 6 = true := by decide +kernel
theorem fas_397 : fas 397 8 = true := by decide +kernel
theorem fcyc_397 : fcyc 397 8 2 = true := by decide +kernel
theorem fas_415 : fas 415 8 = true := by decide +kernel
theorem fcyc_415 : fcyc 415 8 3 = true := by decide +kernel
theorem fas_419 : fas 419 8 = true := by decide +kernel
theorem fcyc_419 : fcyc 419 8 3 = true := by decide +kernel
theorem fas_425 : fas 425 8 = true := by decide +kernel
theorem fcyc_425 : fcyc 425 8 2 = true := by decide +kernel
theorem fas_433 : fas 433 8 = true := by decide +kernel
theorem fcyc_433 : fcyc 433 8 6 = true := by decide +kernel
theorem fas_445 : fas 445 8 = true := by decide +kernel
theorem fcyc_445 : fcyc 445 8 7 = true := by decide +kernel
theorem fas_451 : fas 451 8 = true := by decide +kernel
theorem fcyc_451 : fcyc 451 8 2 = true := by decide +kernel
theorem fas_463 : fas 463 8 = true := by decide +kernel
theorem fcyc_463 : fcyc 463 8 2 = true := by decide +kernel
theorem fas_471 : fas 471 8 = true := by decide +kernel
theorem fcyc_471 : fcyc 471 8 7 = true := by decide +kernel
theorem fas_477 : fas 477 8 = true := by decide +kernel
theorem fcyc_477 : fcyc 477 8 6 = true := by decide +kernel
theorem fas_487 : fas 487 8 = true := by decide +kernel
theorem fcyc_487 : fcyc 487 8 2 = true := by decide +kernel
theorem fas_499 : fas 499 8 = true := by decide +kernel
theorem fcyc_499 : fcyc 499 8 6 = true := by decide +kernel
theorem fas_501 : fas 501 8 = true := by decide +kernel
theorem fcyc_501 : fcyc 501 8 2 = true := by decide +kernel
theorem fas_505 : fas 505 8 = true := by decide +kernel
theorem fcyc_505 : fcyc 505 8 3 = true := by decide +kernel
