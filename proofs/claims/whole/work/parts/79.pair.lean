/-! both sides together -/
/-- the class and the reference hold the same -/
def zBo (σ : zSg) (M : mz_M) : Prop := zQ σ M ∧ zR σ M
section PAIR
variable {M M' : mz_M} {σ : zSg}
theorem zQ.L (h : zQ σ M) (e : zL M M') : zQ σ M' := by
  obtain ⟨a1, a2, a3, a4, a5, a6, a7, a8, a9⟩ := h
  have e1 : ∀ c, c < 77 → M'.1 c = M.1 c := fun c hc => (e c hc).1
  exact ⟨a1, a2.e (e1 _ (by decide)) (e1 _ (by decide)) (e1 _ (by decide)), a3.e (fun b hb => e1 b (by omega)), a4.e (e1 _ (by decide)) (fun b _ _ => e1 b (by omega)), a5.e (fun b _ _ => e1 b (by omega)), a6.e (by rw [e1 _ (by decide)]) (e1 _ (by decide)), a7, by rw [e1 73 (by decide)]; exact a8, fun k hk => by rw [(e 74 (by decide)).2]; exact a9 k hk⟩
theorem zR.H (h : zR σ M) (e : zH M M') : zR σ M' := by
  obtain ⟨a1, a2, a3, a4, a5⟩ := h
  have e1 : ∀ c, 77 ≤ c → M'.1 c = M.1 c := fun c hc => (e c hc).1
  have e7 := e1 77 (by decide)
  exact ⟨a1.k (e1 _ (by decide)) (by rw [e7]) (by rw [e7]), a2.k (e1 _ (by decide)) (by rw [e7]), a3.k (e1 _ (by decide)) (by rw [e7]), a4.k (e1 _ (by decide)) (by rw [e7]), a5.k (e 83 (by decide)).2 (by rw [e7])⟩
/-- one call of each: the same answer, the same deed -/
def zN (J1 J2 : mz_I) (As : List Value) (M : mz_M) (r : Int32 × zSg) : Prop := ∃ M1 M2, mq_C J1 (.ref 0 :: As) M (some (.int r.1), M1) ∧ mq_C J2 (.ref 77 :: As) M1 (some (.int r.1), M2) ∧ zBo r.2 M2
theorem zpair {J1 J2 : mz_I} {As : List Value} {r : Int32 × zSg} (h : zBo σ M) (h1 : ∀ M0 M, zC M0 σ M → zE M0 J1 (.ref 0 :: As) M r) (h2 : ∀ M0 M, zP M0 σ M → zA M0 J2 (.ref 77 :: As) M r) : zN J1 J2 As M r := by
  obtain ⟨M1, a1, a2, a3⟩ := h1 M M ⟨zH.rf M, h.1⟩
  obtain ⟨M2, b1, b2, b3⟩ := h2 M1 M1 ⟨zL.rf M1, h.2.H a2⟩
  exact ⟨M1, M2, a1, b1, a3.L b2, b3⟩
theorem b_sign (h : zBo σ M) (x : Int32) : zN mq_X9_sign mq_X10_sign [.int x] M (k_sign σ x) := zpair h (fun _ _ g => c_X9_sign g x) (fun _ _ g => c_X10_sign g x)
theorem b_end (h : zBo σ M) (x : Int32) : zN mq_X9_end mq_X10_end [.int x] M (k_end σ x) := zpair h (fun _ _ g => c_X9_end g x) (fun _ _ g => c_X10_end g x)
theorem b_field (h : zBo σ M) : zN mq_X9_field mq_X10_field [] M (k_field σ) := zpair h (fun _ _ g => c_X9_field g) (fun _ _ g => c_X10_field g)
theorem b_poly (h : zBo σ M) (x : Int32) : zN mq_X9_poly mq_X10_poly [.int x] M (k_poly σ x) := zpair h (fun _ _ g => c_X9_poly g x) (fun _ _ g => c_X10_poly g x)
theorem b_product (h : zBo σ M) (x : Int32) (y : Int32) : zN mq_X9_product mq_X10_product [.int x, .int y] M (k_product σ x y) := zpair h (fun _ _ g => c_X9_product g x y) (fun _ _ g => c_X10_product g x y)
theorem b_inverse (h : zBo σ M) (x : Int32) : zN mq_X9_inverse mq_X10_inverse [.int x] M (k_inverse σ x) := zpair h (fun _ _ g => c_X9_inverse g x) (fun _ _ g => c_X10_inverse g x)
theorem b_power (h : zBo σ M) (x : Int32) (y : Int32) : zN mq_X9_power mq_X10_power [.int x, .int y] M (k_power σ x y) := zpair h (fun _ _ g => c_X9_power g x y) (fun _ _ g => c_X10_power g x y)
theorem b_order (h : zBo σ M) (x : Int32) : zN mq_X9_order mq_X10_order [.int x] M (k_order σ x) := zpair h (fun _ _ g => c_X9_order g x) (fun _ _ g => c_X10_order g x)
theorem b_conjugate (h : zBo σ M) (x : Int32) (y : Int32) : zN mq_X9_conjugate mq_X10_conjugate [.int x, .int y] M (k_conjugate σ x y) := zpair h (fun _ _ g => c_X9_conjugate g x y) (fun _ _ g => c_X10_conjugate g x y)
theorem b_conjugates (h : zBo σ M) (x : Int32) : zN mq_X9_conjugates mq_X10_conjugates [.int x] M (k_conjugates σ x) := zpair h (fun _ _ g => c_X9_conjugates g x) (fun _ _ g => c_X10_conjugates g x)
theorem b_least (h : zBo σ M) (x : Int32) : zN mq_X9_least mq_X10_least [.int x] M (k_least σ x) := zpair h (fun _ _ g => c_X9_least g x) (fun _ _ g => c_X10_least g x)
theorem b_trace (h : zBo σ M) (x : Int32) (y : Int32) : zN mq_X9_trace mq_X10_trace [.int x, .int y] M (k_trace σ x y) := zpair h (fun _ _ g => c_X9_trace g x y) (fun _ _ g => c_X10_trace g x y)
theorem b_norm (h : zBo σ M) (x : Int32) (y : Int32) : zN mq_X9_norm mq_X10_norm [.int x, .int y] M (k_norm σ x y) := zpair h (fun _ _ g => c_X9_norm g x y) (fun _ _ g => c_X10_norm g x y)
theorem b_root (h : zBo σ M) (x : Int32) : zN mq_X9_root mq_X10_root [.int x] M (k_root σ x) := zpair h (fun _ _ g => c_X9_root g x) (fun _ _ g => c_X10_root g x)
theorem b_solves (h : zBo σ M) (x : Int32) : zN mq_X9_solves mq_X10_solves [.int x] M (k_solves σ x) := zpair h (fun _ _ g => c_X9_solves g x) (fun _ _ g => c_X10_solves g x)
theorem b_log (h : zBo σ M) (x : Int32) (y : Int32) : zN mq_X9_log mq_X10_log [.int x, .int y] M (k_log σ x y) := zpair h (fun _ _ g => c_X9_log g x y) (fun _ _ g => c_X10_log g x y)
theorem b_traced (h : zBo σ M) (x : Int32) (y : Int32) : zN mq_X9_traced mq_X10_traced [.int x, .int y] M (k_traced σ x y) := zpair h (fun _ _ g => c_X9_traced g x y) (fun _ _ g => c_X10_traced g x y)
theorem b_factors (h : zBo σ M) (x : Int32) : zN mq_X9_factors mq_X10_factors [.int x] M (k_factors σ x) := zpair h (fun _ _ g => c_X9_factors g x) (fun _ _ g => c_X10_factors g x)
theorem b_orders (h : zBo σ M) : zN mq_X9_orders mq_X10_orders [] M (k_orders σ) := zpair h (fun _ _ g => c_X9_orders g) (fun _ _ g => c_X10_orders g)
theorem b_quadratic (h : zBo σ M) (x : Int32) (y : Int32) (z : Int32) : zN mq_X9_quadratic mq_X10_quadratic [.int x, .int y, .int z] M (k_quadratic σ x y z) := zpair h (fun _ _ g => c_X9_quadratic g x y z) (fun _ _ g => c_X10_quadratic g x y z)
theorem b_classes (h : zBo σ M) : zN mq_X9_classes mq_X10_classes [] M (k_classes σ) := zpair h (fun _ _ g => c_X9_classes g) (fun _ _ g => c_X10_classes g)
theorem b_generators (h : zBo σ M) : zN mq_X9_generators mq_X10_generators [] M (k_generators σ) := zpair h (fun _ _ g => c_X9_generators g) (fun _ _ g => c_X10_generators g)
theorem b_subfield (h : zBo σ M) (x : Int32) : zN mq_X9_subfield mq_X10_subfield [.int x] M (k_subfield σ x) := zpair h (fun _ _ g => c_X9_subfield g x) (fun _ _ g => c_X10_subfield g x)
theorem b_normal (h : zBo σ M) (x : Int32) : zN mq_X9_normal mq_X10_normal [.int x] M (k_normal σ x) := zpair h (fun _ _ g => c_X9_normal g x) (fun _ _ g => c_X10_normal g x)
theorem b_normals (h : zBo σ M) : zN mq_X9_normals mq_X10_normals [] M (k_normals σ) := zpair h (fun _ _ g => c_X9_normals g) (fun _ _ g => c_X10_normals g)
theorem b_complete (h : zBo σ M) (x : Int32) : zN mq_X9_complete mq_X10_complete [.int x] M (k_complete σ x) := zpair h (fun _ _ g => c_X9_complete g x) (fun _ _ g => c_X10_complete g x)
theorem b_leastNormal (h : zBo σ M) : zN mq_X9_leastNormal mq_X10_leastNormal [] M (k_leastNormal σ) := zpair h (fun _ _ g => c_X9_leastNormal g) (fun _ _ g => c_X10_leastNormal g)
theorem b_leastPowers (h : zBo σ M) : zN mq_X9_leastPowers mq_X10_leastPowers [] M (k_leastPowers σ) := zpair h (fun _ _ g => c_X9_leastPowers g) (fun _ _ g => c_X10_leastPowers g)
theorem b_types (h : zBo σ M) (x : Int32) : zN mq_X9_types mq_X10_types [.int x] M (k_types σ x) := zpair h (fun _ _ g => c_X9_types g x) (fun _ _ g => c_X10_types g x)
theorem b_base (h : zBo σ M) (x : Int32) : zN mq_X9_base mq_X10_base [.int x] M (k_base σ x) := zpair h (fun _ _ g => c_X9_base g x) (fun _ _ g => c_X10_base g x)
theorem b_makes (h : zBo σ M) (x : Int32) (y : Int32) (z : Int32) : zN mq_X9_makes mq_X10_makes [.int x, .int y, .int z] M (k_makes σ x y z) := zpair h (fun _ _ g => c_X9_makes g x y z) (fun _ _ g => c_X10_makes g x y z)
theorem b_copies (h : zBo σ M) (x : Int32) (y : Int32) : zN mq_X9_copies mq_X10_copies [.int x, .int y] M (k_copies σ x y) := zpair h (fun _ _ g => c_X9_copies g x y) (fun _ _ g => c_X10_copies g x y)
theorem b_scales (h : zBo σ M) (x : Int32) (y : Int32) : zN mq_X9_scales mq_X10_scales [.int x, .int y] M (k_scales σ x y) := zpair h (fun _ _ g => c_X9_scales g x y) (fun _ _ g => c_X10_scales g x y)
theorem b_moves (h : zBo σ M) (x : Int32) (y : Int32) (z : Int32) : zN mq_X9_moves mq_X10_moves [.int x, .int y, .int z] M (k_moves σ x y z) := zpair h (fun _ _ g => c_X9_moves g x y z) (fun _ _ g => c_X10_moves g x y z)
theorem b_adds (h : zBo σ M) (x : Int32) (y : Int32) (z : Int32) : zN mq_X9_adds mq_X10_adds [.int x, .int y, .int z] M (k_adds σ x y z) := zpair h (fun _ _ g => c_X9_adds g x y z) (fun _ _ g => c_X10_adds g x y z)
theorem b_at (h : zBo σ M) (x : Int32) (y : Int32) : zN mq_X9_at mq_X10_at [.int x, .int y] M (k_at σ x y) := zpair h (fun _ _ g => c_X9_at g x y) (fun _ _ g => c_X10_at g x y)
theorem b_coordinates (h : zBo σ M) (x : Int32) (y : Int32) : zN mq_X9_coordinates mq_X10_coordinates [.int x, .int y] M (k_coordinates σ x y) := zpair h (fun _ _ g => c_X9_coordinates g x y) (fun _ _ g => c_X10_coordinates g x y)
theorem b_made (h : zBo σ M) (x : Int32) (y : Int32) : zN mq_X9_made mq_X10_made [.int x, .int y] M (k_made σ x y) := zpair h (fun _ _ g => c_X9_made g x y) (fun _ _ g => c_X10_made g x y)
theorem b_change (h : zBo σ M) (x : Int32) (y : Int32) : zN mq_X9_change mq_X10_change [.int x, .int y] M (k_change σ x y) := zpair h (fun _ _ g => c_X9_change g x y) (fun _ _ g => c_X10_change g x y)
theorem b_table (h : zBo σ M) (x : Int32) (y : Int32) (z : Int32) : zN mq_X9_table mq_X10_table [.int x, .int y, .int z] M (k_table σ x y z) := zpair h (fun _ _ g => c_X9_table g x y z) (fun _ _ g => c_X10_table g x y z)
theorem b_complexity (h : zBo σ M) (x : Int32) : zN mq_X9_complexity mq_X10_complexity [.int x] M (k_complexity σ x) := zpair h (fun _ _ g => c_X9_complexity g x) (fun _ _ g => c_X10_complexity g x)
theorem b_by (h : zBo σ M) (x : Int32) (y : Int32) : zN mq_X9_by mq_X10_by [.int x, .int y] M (k_by σ x y) := zpair h (fun _ _ g => c_X9_by g x y) (fun _ _ g => c_X10_by g x y)
theorem b_squares (h : zBo σ M) (x : Int32) : zN mq_X9_squares mq_X10_squares [.int x] M (k_squares σ x) := zpair h (fun _ _ g => c_X9_squares g x) (fun _ _ g => c_X10_squares g x)
theorem b_productIn (h : zBo σ M) (x : Int32) (y : Int32) (z : Int32) : zN mq_X9_productIn mq_X10_productIn [.int x, .int y, .int z] M (k_productIn σ x y z) := zpair h (fun _ _ g => c_X9_productIn g x y z) (fun _ _ g => c_X10_productIn g x y z)
theorem b_far (h : zBo σ M) (x : Int32) (y : Int32) (z : Int32) : zN mq_X9_far mq_X10_far [.int x, .int y, .int z] M (k_far σ x y z) := zpair h (fun _ _ g => c_X9_far g x y z) (fun _ _ g => c_X10_far g x y z)
theorem b_steady (h : zBo σ M) (x : Int32) : zN mq_X9_steady mq_X10_steady [.int x] M (k_steady σ x) := zpair h (fun _ _ g => c_X9_steady g x) (fun _ _ g => c_X10_steady g x)
theorem b_bestScale (h : zBo σ M) (x : Int32) : zN mq_X9_bestScale mq_X10_bestScale [.int x] M (k_bestScale σ x) := zpair h (fun _ _ g => c_X9_bestScale g x) (fun _ _ g => c_X10_bestScale g x)
theorem b_same (h : zBo σ M) (x : Int32) (y : Int32) : zN mq_X9_same mq_X10_same [.int x, .int y] M (k_same σ x y) := zpair h (fun _ _ g => c_X9_same g x y) (fun _ _ g => c_X10_same g x y)
theorem b_dual (h : zBo σ M) (x : Int32) (y : Int32) : zN mq_X9_dual mq_X10_dual [.int x, .int y] M (k_dual σ x y) := zpair h (fun _ _ g => c_X9_dual g x y) (fun _ _ g => c_X10_dual g x y)
theorem b_weakly (h : zBo σ M) (x : Int32) : zN mq_X9_weakly mq_X10_weakly [.int x] M (k_weakly σ x) := zpair h (fun _ _ g => c_X9_weakly g x) (fun _ _ g => c_X10_weakly g x)
theorem b_traces (h : zBo σ M) (x : Int32) : zN mq_X9_traces mq_X10_traces [.int x] M (k_traces σ x) := zpair h (fun _ _ g => c_X9_traces g x) (fun _ _ g => c_X10_traces g x)
theorem b_tower (h : zBo σ M) (x : Int32) (y : Int32) (z : Int32) : zN mq_X9_tower mq_X10_tower [.int x, .int y, .int z] M (k_tower σ x y z) := zpair h (fun _ _ g => c_X9_tower g x y z) (fun _ _ g => c_X10_tower g x y z)
theorem b_fits (h : zBo σ M) (x : Int32) : zN mq_X9_fits mq_X10_fits [.int x] M (k_fits σ x) := zpair h (fun _ _ g => c_X9_fits g x) (fun _ _ g => c_X10_fits g x)
theorem b_maps (h : zBo σ M) (x : Int32) (y : Int32) (z : Int32) : zN mq_X9_maps mq_X10_maps [.int x, .int y, .int z] M (k_maps σ x y z) := zpair h (fun _ _ g => c_X9_maps g x y z) (fun _ _ g => c_X10_maps g x y z)
theorem b_irreducibles (h : zBo σ M) (x : Int32) : zN mq_X9_irreducibles mq_X10_irreducibles [.int x] M (k_irreducibles σ x) := zpair h (fun _ _ g => c_X9_irreducibles g x) (fun _ _ g => c_X10_irreducibles g x)
theorem b_undo (h : zBo σ M) : zN mq_X9_undo mq_X10_undo [] M (k_undo σ) := zpair h (fun _ _ g => c_X9_undo g) (fun _ _ g => c_X10_undo g)
theorem b_keeps (h : zBo σ M) : zN mq_X9_keeps mq_X10_keeps [] M (k_keeps σ) := zpair h (fun _ _ g => c_X9_keeps g) (fun _ _ g => c_X10_keeps g)
theorem b_back (h : zBo σ M) : zN mq_X9_back mq_X10_back [] M (k_back σ) := zpair h (fun _ _ g => c_X9_back g) (fun _ _ g => c_X10_back g)
theorem b_written (h : zBo σ M) (x : Int32) : zN mq_X9_written mq_X10_written [.int x] M (k_written σ x) := zpair h (fun _ _ g => c_X9_written g x) (fun _ _ g => c_X10_written g x)
theorem b_count (h : zBo σ M) (x : Int32) : zN mq_X9_count mq_X10_count [.int x] M (k_count σ x) := zpair h (fun _ _ g => c_X9_count g x) (fun _ _ g => c_X10_count g x)
end PAIR
