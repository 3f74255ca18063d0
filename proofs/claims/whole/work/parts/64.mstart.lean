/-! COLOURS: the reference's first likeness is the class's. -/
theorem lcd_is {u : Wd} (hu : wwf u) (f s : Nat) : lcd u f s = 64 * bd u f s + (8 * lk u s + lk u f) := by
  have l1 := lk_lt hu f
  have l2 := lk_lt hu s
  unfold lcd
  rw [or_add (m := 3) (show lk u f < 2 ^ 3 from l1), or_add (m := 6) (show 2 ^ 3 * lk u s + lk u f < 2 ^ 6 by omega)]
theorem lcd_lt {u : Wd} (hu : wwf u) (f s : Nat) : lcd u f s < 512 := by
  have l1 := lk_lt hu f
  have l2 := lk_lt hu s
  have l3 := bd_lt (u := u) f s
  rw [lcd_is hu]; omega
theorem lcd_eq {u v : Wd} (hu : wwf u) (hv : wwf v) {f s f' s' : Nat} : lcd u f s = lcd v f' s' ↔ lk u f = lk v f' ∧ lk u s = lk v s' ∧ bd u f s = bd v f' s' := by
  have l1 := lk_lt hu f
  have l2 := lk_lt hu s
  have l4 := lk_lt hv f'
  have l5 := lk_lt hv s'
  rw [lcd_is hu, lcd_is hv]
  constructor
  · intro h; refine ⟨?_, ?_, ?_⟩ <;> omega
  · intro h; omega
theorem lk_iff {u v : Wd} (hu : wwf u) (hv : wwf v) {f f' : Nat} : lk u f = lk v f' ↔ u.2.1 f = v.2.1 f' ∧ eb u f f = eb v f' f' := lk_inj _ (hu.2.1 f) _ (hv.2.1 f') _ _
theorem bd_iff {u v : Wd} {f s f' s' : Nat} (h1 : f < u.1) (h2 : s < u.1) (h3 : f' < v.1) (h4 : s' < v.1) : bd u f s = bd v f' s' ↔ decide (f = s) = decide (f' = s') ∧ eb u f s = eb v f' s' ∧ eb u s f = eb v s' f' := by
  unfold bd
  rw [if_pos ⟨h1, h2⟩, if_pos ⟨h3, h4⟩]
  exact bd_inj _ _ _ _ _ _
theorem alk2 {u v : Wd} (hu : wwf u) (hv : wwf v) {f s f' s' : Nat} (h1 : f < u.1) (h2 : s < u.1) (h3 : f' < v.1) (h4 : s' < v.1) : alk u v [(s, s'), (f, f')] = true ↔ lk u f = lk v f' ∧ lk u s = lk v s' ∧ bd u f s = bd v f' s' := by
  rw [lk_iff hu hv, lk_iff hu hv, bd_iff h1 h2 h3 h4]
  simp only [alk, pla, pl1, List.all_cons, List.all_nil, Bool.and_true, Bool.true_and, Bool.and_eq_true, decide_eq_true_eq, beq_iff_eq]
  have e1 : decide (s = f) = decide (f = s) := decide_eq_decide.mpr ⟨Eq.symm, Eq.symm⟩
  have e2 : decide (s' = f') = decide (f' = s') := decide_eq_decide.mpr ⟨Eq.symm, Eq.symm⟩
  first
  | (rw [e1, e2]; constructor
     · intro h; simp_all
     · intro h; simp_all)
  | (constructor
     · intro h; simp_all
     · intro h; simp_all)
