/-! COLOURS: only colours that there are can be out of balance. -/
theorem sur_0 {d : Co} {c : Nat} : ∀ n, (∀ e, e < n → d.2.2.2 e ≠ c) → sur d c n = 0
  | 0, _ => rfl
  | n + 1, h => by
    show sur d c n + (if d.2.2.2 n = c then _ else nI 0) = 0
    rw [sur_0 n (fun e he => h e (by omega)), if_neg (h n (by omega))]
    rfl
theorem bal_K {d : Co} {K : Nat} (hK : K ≤ 72) (h : ∀ e, e < d.1 → d.2.2.2 e < K) : bal d = allB K (fun c => decide (sur d c d.1 = 0)) := by
  refine bool_iff ?_
  unfold bal
  rw [allB_iff, allB_iff]
  constructor
  · intro q c hc; exact q c (by omega)
  · intro q c _
    by_cases hc : c < K
    · exact q c hc
    · rw [decide_eq_true_iff]
      exact sur_0 d.1 (fun e he => by have := h e he; omega)
