/-! the parts' cells as places of the whole -/
theorem q_parts : mq_sk77 = [.inr (7, [some 1, some 2, some 5, some 8, some 14, some 20, some 70, some 73, some 75, some 76, none])] ++ (sk_X2.map (shE 1) ++ (sk_X7.map (shE 8) ++ (sk_X7.map (shE 14) ++ (sk_X3.map (shE 20) ++ (sk_X8.map (shE 70) ++ (sk_X6.map (shE 73) ++ [.inl (0, 8, []), .inl (0, 8, [])])))))) := by decide +kernel
theorem q_tys {cA : Nat → Nat} {SK : List mz_E} (h : SK.all (fun e => match e with
    | .inl (t, _, _) => decide (t < 5)
    | .inr _ => true) = true) : mz_tys cA (qT cA) SK := by
  refine ⟨rfl, rfl, rfl, fun r t n rs hr => ?_⟩
  have h1 : t + 3 < 5 := of_decide_eq_true (List.all_eq_true.mp h _ (mz_nth_mem hr))
  rcases (show t = 0 ∨ t = 1 by omega) with rfl | rfl
  · exact ⟨.object RX7, rfl, rfl⟩
  · exact ⟨.array .int, rfl, rfl⟩
theorem q_tys_all (cA : Nat → Nat) : mz_tys cA (qT cA) mq_sk := q_tys (by decide +kernel)
theorem q_tys_77 (cA : Nat → Nat) : mz_tys cA (qT cA) mq_sk77 := q_tys (by decide +kernel)
