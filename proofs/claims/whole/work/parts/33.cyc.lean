/-! each field's facts, in words -/
theorem fas_good {P m : Nat} (h2 : 2 ≤ m) (h8 : m ≤ 8) (h3 : 2 ^ m ≤ P) (h4 : P < 2 ^ (m + 1)) (h : fas P m = true) : fgood P m := by
  refine ⟨h2, h8, h3, h4, fun i hi j hj k hk => ?_⟩
  have h5 := zall_iff (zall_iff (zall_iff h i hi) j hj) k hk
  have h6 := Nat.eq_of_beq_eq_true h5
  simp only [fmk_eq] at h6
  exact h6
theorem zhas_iff {a : Nat} : ∀ {l : List Nat}, zhas a l = true ↔ a ∈ l
  | [] => by simp [zhas]
  | b :: l => by
    simp only [zhas, Bool.or_eq_true, zhas_iff (l := l), List.mem_cons, Nat.beq_eq]
    constructor
    · rintro (h | h)
      · exact Or.inl h.symm
      · exact Or.inr h
    · rintro (h | h)
      · exact Or.inl h.symm
      · exact Or.inr h
theorem znd_iff : ∀ {l : List Nat}, znd l = true → l.Nodup
  | [], _ => List.nodup_nil
  | a :: l, h => by
    unfold znd at h
    split at h
    · cases h
    · next e =>
      refine List.nodup_cons.mpr ⟨fun q => ?_, znd_iff h⟩
      rw [zhas_iff.mpr q] at e
      cases e
theorem zrng_iff {n : Nat} : ∀ {l : List Nat}, zrng n l = true → ∀ a ∈ l, 0 < a ∧ a < n
  | [], _, a, h => absurd h List.not_mem_nil
  | b :: l, h, a, ha => by
    simp only [zrng, Bool.and_eq_true, Nat.blt_eq] at h
    rcases List.mem_cons.mp ha with e | e
    · rw [e]; exact h.1
    · exact zrng_iff h.2 a e
/-- unlike numbers below n: at most n -/
theorem zpig : ∀ (n : Nat) (l : List Nat), l.Nodup → (∀ a ∈ l, a < n) → l.length ≤ n
  | 0, l, _, h => by
    cases l with
    | nil => simp
    | cons a l => exact absurd (h a List.mem_cons_self) (by omega)
  | n + 1, l, hd, h => by
    by_cases hn : n ∈ l
    · have h1 := zpig n (l.erase n) (hd.erase n) (fun a ha => by
        have h2 := h a (List.mem_of_mem_erase ha)
        have h3 : a ≠ n := fun e => by
          rw [e] at ha
          exact (List.Nodup.not_mem_erase hd) ha
        omega)
      rw [List.length_erase_of_mem hn] at h1
      omega
    · have h1 := zpig n l hd (fun a ha => by
        have h2 := h a ha
        have h3 : a ≠ n := fun e => hn (e ▸ ha)
        omega)
      omega
theorem zsurj {n : Nat} {l : List Nat} (hd : l.Nodup) (h : ∀ a ∈ l, a < n) (hl : l.length = n) : ∀ a, a < n → a ∈ l := by
  intro a ha
  apply Decidable.byContradiction
  intro hn
  have h1 := zpig n (a :: l) (List.nodup_cons.mpr ⟨hn, hd⟩) (fun b hb => by
    rcases List.mem_cons.mp hb with e | e
    · rw [e]; exact ha
    · exact h b e)
  simp only [List.length_cons] at h1
  omega
theorem fpl_len (P m g : Nat) : ∀ n a, (fpl P m g n a).length = n
  | 0, a => rfl
  | n + 1, a => by simp only [fpl, frc_eq, List.length_cons, fpl_len P m g n]
theorem fpl_get (P m g : Nat) : ∀ n j k, k < n → (fpl P m g n (fpw P m g j))[k]? = some (fpw P m g (j + k))
  | 0, j, k, h => absurd h (by omega)
  | n + 1, j, 0, h => by simp [fpl]
  | n + 1, j, k + 1, h => by
    simp only [fpl, frc_eq, fmk_eq, List.getElem?_cons_succ]
    have h2 := fpl_get P m g n (j + 1) k (by omega)
    rw [show j + 1 + k = j + (k + 1) by omega] at h2
    exact h2
theorem zlast_get : ∀ (l : List Nat) (d n : Nat), l.length = n + 1 → l[n]? = some (zlast l d)
  | [], d, n, h => by simp at h
  | [a], d, n, h => by
    obtain rfl : n = 0 := by simpa using h.symm
    rfl
  | a :: b :: l, d, 0, h => by simp at h
  | a :: b :: l, d, n + 1, h => by
    have h2 := zlast_get (b :: l) a n (by simpa using h)
    rw [List.getElem?_cons_succ]
    exact h2
/-- g's powers are all but 0, each once -/
def fcy (P m g : Nat) : Prop := 1 < g ∧ g < 2 ^ m ∧ fpw P m g (2 ^ m - 1) = 1 ∧ (∀ i, i < 2 ^ m - 1 → ∀ j, j < 2 ^ m - 1 → fpw P m g i = fpw P m g j → i = j) ∧ (∀ i, i < 2 ^ m - 1 → 0 < fpw P m g i ∧ fpw P m g i < 2 ^ m) ∧ ∀ a, 0 < a → a < 2 ^ m → ∃ k, k < 2 ^ m - 1 ∧ fpw P m g k = a
theorem fcyc_cy {P m g : Nat} (h : fcyc P m g = true) : fcy P m g := by
  unfold fcyc at h
  simp only [Bool.and_eq_true, Nat.blt_eq] at h
  obtain ⟨⟨⟨⟨h1, h2⟩, h3⟩, h4⟩, h5⟩ := h
  have hq := Nat.two_pow_pos m
  have hget := fun k hk => fpl_get P m g (2 ^ m - 1) 0 k hk
  have hnd := znd_iff h1
  have hrg := zrng_iff h2
  have hlen := fpl_len P m g (2 ^ m - 1) 1
  have hmem : ∀ k, k < 2 ^ m - 1 → fpw P m g k ∈ fpl P m g (2 ^ m - 1) 1 := fun k hk => by
    have := hget k hk
    rw [Nat.zero_add] at this
    exact List.mem_of_getElem? this
  refine ⟨h4, h5, ?_, fun i hi j hj e => ?_, fun i hi => hrg _ (hmem i hi), fun a ha hb => ?_⟩
  · have h6 := Nat.eq_of_beq_eq_true h3
    have h7 := zlast_get (fpl P m g (2 ^ m) 1) 0 (2 ^ m - 1) (by rw [fpl_len]; omega)
    have h8 := fpl_get P m g (2 ^ m) 0 (2 ^ m - 1) (by omega)
    rw [show fpw P m g 0 = 1 from rfl, h7, h6, Nat.zero_add] at h8
    exact (Option.some.inj h8).symm
  · have g1 := hget i hi
    have g2 := hget j hj
    rw [Nat.zero_add, show fpw P m g 0 = 1 from rfl] at g1 g2
    rw [e] at g1
    exact (List.getElem?_inj (by rw [hlen]; exact hi) hnd).mp (g1.trans g2.symm)
  · have h9 := zsurj (n := 2 ^ m - 1) (l := (fpl P m g (2 ^ m - 1) 1).map (fun x => x - 1)) (by
      refine List.pairwise_map.mpr (List.Pairwise.imp_of_mem (S := fun a b => a - 1 ≠ b - 1) ?_ hnd)
      intro x y hx hy hxy
      have := hrg x hx
      have := hrg y hy
      omega) (fun x hx => by
      obtain ⟨y, hy, rfl⟩ := List.mem_map.mp hx
      have := hrg y hy
      omega) (by rw [List.length_map, hlen]) (a - 1) (by omega)
    obtain ⟨y, hy, e⟩ := List.mem_map.mp h9
    have := hrg y hy
    obtain rfl : y = a := by omega
    obtain ⟨k, hk⟩ := List.getElem?_of_mem hy
    have hk2 : k < 2 ^ m - 1 := by rw [← hlen]; exact (List.getElem?_eq_some_iff.mp hk).1
    have g1 := hget k hk2
    rw [Nat.zero_add, show fpw P m g 0 = 1 from rfl, hk] at g1
    exact ⟨k, hk2, (Option.some.inj g1).symm⟩
def zirrs : List (Nat × Nat × Nat) := [(7, 2, 2), (11, 3, 2), (13, 3, 2), (19, 4, 2), (25, 4, 2), (31, 4, 3), (37, 5, 2), (41, 5, 2), (47, 5, 2), (55, 5, 2), (59, 5, 2), (61, 5, 2), (67, 6, 2), (73, 6, 3), (87, 6, 3), (91, 6, 2), (97, 6, 2), (103, 6, 2), (109, 6, 2), (115, 6, 2), (117, 6, 3), (131, 7, 2), (137, 7, 2), (143, 7, 2), (145, 7, 2), (157, 7, 2), (167, 7, 2), (171, 7, 2), (185, 7, 2), (191, 7, 2), (193, 7, 2), (203, 7, 2), (211, 7, 2), (213, 7, 2), (229, 7, 2), (239, 7, 2), (241, 7, 2), (247, 7, 2), (253, 7, 2), (283, 8, 3), (285, 8, 2), (299, 8, 2), (301, 8, 2), (313, 8, 3), (319, 8, 3), (333, 8, 2), (351, 8, 2), (355, 8, 2), (357, 8, 2), (361, 8, 2), (369, 8, 2), (375, 8, 3), (379, 8, 9), (391, 8, 2), (395, 8, 6), (397, 8, 2), (415, 8, 3), (419, 8, 3), (425, 8, 2), (433, 8, 6), (445, 8, 7), (451, 8, 2), (463, 8, 2), (471, 8, 7), (477, 8, 6), (487, 8, 2), (499, 8, 6), (501, 8, 2), (505, 8, 3)]
set_option maxRecDepth 100000 in
theorem zirrs_ok : ∀ q ∈ zirrs, fgood q.1 q.2.1 ∧ fcy q.1 q.2.1 q.2.2 := List.forall_mem_cons.mpr ⟨⟨fas_good (by decide) (by decide) (by decide) (by decide) fas_7, fcyc_cy fcyc_7⟩, List.forall_mem_cons.mpr ⟨⟨fas_good (by decide) (by decide) (by decide) (by decide) fas_11, fcyc_cy fcyc_11⟩, List.forall_mem_cons.mpr ⟨⟨fas_good (by decide) (by decide) (by decide) (by decide) fas_13, fcyc_cy fcyc_13⟩, List.forall_mem_cons.mpr ⟨⟨fas_good (by decide) (by decide) (by decide) (by decide) fas_19, fcyc_cy fcyc_19⟩, List.forall_mem_cons.mpr ⟨⟨fas_good (by decide) (by decide) (by decide) (by decide) fas_25, fcyc_cy fcyc_25⟩, List.forall_mem_cons.mpr ⟨⟨fas_good (by decide) (by decide) (by decide) (by decide) fas_31, fcyc_cy fcyc_31⟩, List.forall_mem_cons.mpr ⟨⟨fas_good (by decide) (by decide) (by decide) (by decide) fas_37, fcyc_cy fcyc_37⟩, List.forall_mem_cons.mpr ⟨⟨fas_good (by decide) (by decide) (by decide) (by decide) fas_41, fcyc_cy fcyc_41⟩, List.forall_mem_cons.mpr ⟨⟨fas_good (by decide) (by decide) (by decide) (by decide) fas_47, fcyc_cy fcyc_47⟩, List.forall_mem_cons.mpr ⟨⟨fas_good (by decide) (by decide) (by decide) (by decide) fas_55, fcyc_cy fcyc_55⟩, List.forall_mem_cons.mpr ⟨⟨fas_good (by decide) (by decide) (by decide) (by decide) fas_59, fcyc_cy fcyc_59⟩, List.forall_mem_cons.mpr ⟨⟨fas_good (by decide) (by decide) (by decide) (by decide) fas_61, fcyc_cy fcyc_61⟩, List.forall_mem_cons.mpr ⟨⟨fas_good (by decide) (by decide) (by decide) (by decide) fas_67, fcyc_cy fcyc_67⟩, List.forall_mem_cons.mpr ⟨⟨fas_good (by decide) (by decide) (by decide) (by decide) fas_73, fcyc_cy fcyc_73⟩, List.forall_mem_cons.mpr ⟨⟨fas_good (by decide) (by decide) (by decide) (by decide) fas_87, fcyc_cy fcyc_87⟩, List.forall_mem_cons.mpr ⟨⟨fas_good (by decide) (by decide) (by decide) (by decide) fas_91, fcyc_cy fcyc_91⟩, List.forall_mem_cons.mpr ⟨⟨fas_good (by decide) (by decide) (by decide) (by decide) fas_97, fcyc_cy fcyc_97⟩, List.forall_mem_cons.mpr ⟨⟨fas_good (by decide) (by decide) (by decide) (by decide) fas_103, fcyc_cy fcyc_103⟩, List.forall_mem_cons.mpr ⟨⟨fas_good (by decide) (by decide) (by decide) (by decide) fas_109, fcyc_cy fcyc_109⟩, List.forall_mem_cons.mpr ⟨⟨fas_good (by decide) (by decide) (by decide) (by decide) fas_115, fcyc_cy fcyc_115⟩, List.forall_mem_cons.mpr ⟨⟨fas_good (by decide) (by decide) (by decide) (by decide) fas_117, fcyc_cy fcyc_117⟩, List.forall_mem_cons.mpr ⟨⟨fas_good (by decide) (by decide) (by decide) (by decide) fas_131, fcyc_cy fcyc_131⟩, List.forall_mem_cons.mpr ⟨⟨fas_good (by decide) (by decide) (by decide) (by decide) fas_137, fcyc_cy fcyc_137⟩, List.forall_mem_cons.mpr ⟨⟨fas_good (by decide) (by decide) (by decide) (by decide) fas_143, fcyc_cy fcyc_143⟩, List.forall_mem_cons.mpr ⟨⟨fas_good (by decide) (by decide) (by decide) (by decide) fas_145, fcyc_cy fcyc_145⟩, List.forall_mem_cons.mpr ⟨⟨fas_good (by decide) (by decide) (by decide) (by decide) fas_157, fcyc_cy fcyc_157⟩, List.forall_mem_cons.mpr ⟨⟨fas_good (by decide) (by decide) (by decide) (by decide) fas_167, fcyc_cy fcyc_167⟩, List.forall_mem_cons.mpr ⟨⟨fas_good (by decide) (by decide) (by decide) (by decide) fas_171, fcyc_cy fcyc_171⟩, List.forall_mem_cons.mpr ⟨⟨fas_good (by decide) (by decide) (by decide) (by decide) fas_185, fcyc_cy fcyc_185⟩, List.forall_mem_cons.mpr ⟨⟨fas_good (by decide) (by decide) (by decide) (by decide) fas_191, fcyc_cy fcyc_191⟩, List.forall_mem_cons.mpr ⟨⟨fas_good (by decide) (by decide) (by decide) (by decide) fas_193, fcyc_cy fcyc_193⟩, List.forall_mem_cons.mpr ⟨⟨fas_good (by decide) (by decide) (by decide) (by decide) fas_203, fcyc_cy fcyc_203⟩, List.forall_mem_cons.mpr ⟨⟨fas_good (by decide) (by decide) (by decide) (by decide) fas_211, fcyc_cy fcyc_211⟩, List.forall_mem_cons.mpr ⟨⟨fas_good (by decide) (by decide) (by decide) (by decide) fas_213, fcyc_cy fcyc_213⟩, List.forall_mem_cons.mpr ⟨⟨fas_good (by decide) (by decide) (by decide) (by decide) fas_229, fcyc_cy fcyc_229⟩, List.forall_mem_cons.mpr ⟨⟨fas_good (by decide) (by decide) (by decide) (by decide) fas_239, fcyc_cy fcyc_239⟩, List.forall_mem_cons.mpr ⟨⟨fas_good (by decide) (by decide) (by decide) (by decide) fas_241, fcyc_cy fcyc_241⟩, List.forall_mem_cons.mpr ⟨⟨fas_good (by decide) (by decide) (by decide) (by decide) fas_247, fcyc_cy fcyc_247⟩, List.forall_mem_cons.mpr ⟨⟨fas_good (by decide) (by decide) (by decide) (by decide) fas_253, fcyc_cy fcyc_253⟩, List.forall_mem_cons.mpr ⟨⟨fas_good (by decide) (by decide) (by decide) (by decide) fas_283, fcyc_cy fcyc_283⟩, List.forall_mem_cons.mpr ⟨⟨fas_good (by decide) (by decide) (by decide) (by decide) fas_285, fcyc_cy fcyc_285⟩, List.forall_mem_cons.mpr ⟨⟨fas_good (by decide) (by decide) (by decide) (by decide) fas_299, fcyc_cy fcyc_299⟩, List.forall_mem_cons.mpr ⟨⟨fas_good (by decide) (by decide) (by decide) (by decide) fas_301, fcyc_cy fcyc_301⟩, List.forall_mem_cons.mpr ⟨⟨fas_good (by decide) (by decide) (by decide) (by decide) fas_313, fcyc_cy fcyc_313⟩, List.forall_mem_cons.mpr ⟨⟨fas_good (by decide) (by decide) (by decide) (by decide) fas_319, fcyc_cy fcyc_319⟩, List.forall_mem_cons.mpr ⟨⟨fas_good (by decide) (by decide) (by decide) (by decide) fas_333, fcyc_cy fcyc_333⟩, List.forall_mem_cons.mpr ⟨⟨fas_good (by decide) (by decide) (by decide) (by decide) fas_351, fcyc_cy fcyc_351⟩, List.forall_mem_cons.mpr ⟨⟨fas_good (by decide) (by decide) (by decide) (by decide) fas_355, fcyc_cy fcyc_355⟩, List.forall_mem_cons.mpr ⟨⟨fas_good (by decide) (by decide) (by decide) (by decide) fas_357, fcyc_cy fcyc_357⟩, List.forall_mem_cons.mpr ⟨⟨fas_good (by decide) (by decide) (by decide) (by decide) fas_361, fcyc_cy fcyc_361⟩, List.forall_mem_cons.mpr ⟨⟨fas_good (by decide) (by decide) (by decide) (by decide) fas_369, fcyc_cy fcyc_369⟩, List.forall_mem_cons.mpr ⟨⟨fas_good (by decide) (by decide) (by decide) (by decide) fas_375, fcyc_cy fcyc_375⟩, List.forall_mem_cons.mpr ⟨⟨fas_good (by decide) (by decide) (by decide) (by decide) fas_379, fcyc_cy fcyc_379⟩, List.forall_mem_cons.mpr ⟨⟨fas_good (by decide) (by decide) (by decide) (by decide) fas_391, fcyc_cy fcyc_391⟩, List.forall_mem_cons.mpr ⟨⟨fas_good (by decide) (by decide) (by decide) (by decide) fas_395, fcyc_cy fcyc_395⟩, List.forall_mem_cons.mpr ⟨⟨fas_good (by decide) (by decide) (by decide) (by decide) fas_397, fcyc_cy fcyc_397⟩, List.forall_mem_cons.mpr ⟨⟨fas_good (by decide) (by decide) (by decide) (by decide) fas_415, fcyc_cy fcyc_415⟩, List.forall_mem_cons.mpr ⟨⟨fas_good (by decide) (by decide) (by decide) (by decide) fas_419, fcyc_cy fcyc_419⟩, List.forall_mem_cons.mpr ⟨⟨fas_good (by decide) (by decide) (by decide) (by decide) fas_425, fcyc_cy fcyc_425⟩, List.forall_mem_cons.mpr ⟨⟨fas_good (by decide) (by decide) (by decide) (by decide) fas_433, fcyc_cy fcyc_433⟩, List.forall_mem_cons.mpr ⟨⟨fas_good (by decide) (by decide) (by decide) (by decide) fas_445, fcyc_cy fcyc_445⟩, List.forall_mem_cons.mpr ⟨⟨fas_good (by decide) (by decide) (by decide) (by decide) fas_451, fcyc_cy fcyc_451⟩, List.forall_mem_cons.mpr ⟨⟨fas_good (by decide) (by decide) (by decide) (by decide) fas_463, fcyc_cy fcyc_463⟩, List.forall_mem_cons.mpr ⟨⟨fas_good (by decide) (by decide) (by decide) (by decide) fas_471, fcyc_cy fcyc_471⟩, List.forall_mem_cons.mpr ⟨⟨fas_good (by decide) (by decide) (by decide) (by decide) fas_477, fcyc_cy fcyc_477⟩, List.forall_mem_cons.mpr ⟨⟨fas_good (by decide) (by decide) (by decide) (by decide) fas_487, fcyc_cy fcyc_487⟩, List.forall_mem_cons.mpr ⟨⟨fas_good (by decide) (by decide) (by decide) (by decide) fas_499, fcyc_cy fcyc_499⟩, List.forall_mem_cons.mpr ⟨⟨fas_good (by decide) (by decide) (by decide) (by decide) fas_501, fcyc_cy fcyc_501⟩, List.forall_mem_cons.mpr ⟨⟨fas_good (by decide) (by decide) (by decide) (by decide) fas_505, fcyc_cy fcyc_505⟩, fun _ h => absurd h List.not_mem_nil⟩⟩⟩⟩⟩⟩⟩⟩⟩⟩⟩⟩⟩⟩⟩⟩⟩⟩⟩⟩⟩⟩⟩⟩⟩⟩⟩⟩⟩⟩⟩⟩⟩⟩⟩⟩⟩⟩⟩⟩⟩⟩⟩⟩⟩⟩⟩⟩⟩⟩⟩⟩⟩⟩⟩⟩⟩⟩⟩⟩⟩⟩⟩⟩⟩⟩⟩⟩⟩
