/-! COLOURS: the two later likenesses are one, for things. -/
/-- the colours of the things of e's world -/
def glI (b : Bool) (u : Wd) (g : Nat → Nat) (e : Nat) : Nat → Nat := fun y => g ((if e < csz b u.1 then 0 else csz b u.1) + y)
theorem tO_step {A B : Bool} {G : Prop} [Decidable G] {a c : Nat} : (16 * a + c) + (if G then (if A = true then 16 else 0) + (if B = true then 1 else 0) else 0) = 16 * (a + (if A = true ∧ G then 1 else 0)) + (c + (if B = true ∧ G then 1 else 0)) := by
  by_cases hG : G
  · cases A <;> cases B <;> simp [hG] <;> omega
  · simp [hG]
theorem tO_is {u v : Wd} {g : Nat → Nat} {e : Nat} (he : e < itN false u v) (c : Nat) : tO false u v g e c (itN false u v) = 16 * cnt (fun y => eb (wdI false u v e) (fT false u v e) y) (glI false u g e) c (wdI false u v e).1 + cnt (fun y => eb (wdI false u v e) y (fT false u v e)) (glI false u g e) c (wdI false u v e).1 := by
  have hcz : csz false u.1 = u.1 := rfl
  have hN : itN false u v = u.1 + v.1 := rfl
  have d1 : ∀ x, x < u.1 → sdI false u x = 0 ∧ fT false u v x = x := fun x hx => by
    have hx' : x < csz false u.1 := hx
    unfold sdI fT lcI
    rw [if_pos hx', if_pos hx', if_neg (by decide)]
    exact ⟨rfl, rfl⟩
  have d2 : ∀ z, sdI false u (u.1 + z) = 1 ∧ fT false u v (u.1 + z) = z := fun z => by
    have hx' : ¬ u.1 + z < csz false u.1 := by omega
    unfold sdI fT lcI
    rw [if_neg hx', if_neg hx', if_neg (by decide)]
    exact ⟨rfl, by omega⟩
  by_cases hs : e < u.1
  · have w : wdI false u v e = u := by unfold wdI; rw [if_pos (show e < csz false u.1 from hs)]
    have gl : ∀ y, glI false u g e y = g y := fun y => by unfold glI; rw [if_pos (show e < csz false u.1 from hs), Nat.zero_add]
    have A : ∀ x, x ≤ u.1 → tO false u v g e c x = 16 * cnt (fun y => eb (wdI false u v e) (fT false u v e) y) (glI false u g e) c x + cnt (fun y => eb (wdI false u v e) y (fT false u v e)) (glI false u g e) c x := by
      intro x
      induction x with
      | zero => intro _; rfl
      | succ x ih =>
        intro hx
        obtain ⟨s1, s2⟩ := d1 x (by omega)
        unfold tO cnt
        rw [ih (by omega), s1, s2, (d1 e hs).1, gl x]
        simp only [true_and]
        exact tO_step
    have B : ∀ z, tO false u v g e c (u.1 + z) = tO false u v g e c u.1 := by
      intro z
      induction z with
      | zero => rfl
      | succ z ih =>
        show tO false u v g e c (u.1 + z) + (if sdI false u (u.1 + z) = sdI false u e ∧ g (u.1 + z) = c then _ else 0) = _
        rw [if_neg (fun q => by rw [(d2 z).1, (d1 e hs).1] at q; exact absurd q.1 (by decide)), ih]
        rfl
    rw [hN, B v.1, A u.1 (Nat.le_refl _)]
    rw [show (wdI false u v e).1 = u.1 by rw [w]]
  · obtain ⟨z0, rfl⟩ : ∃ z0, e = u.1 + z0 := ⟨e - u.1, by omega⟩
    have w : wdI false u v (u.1 + z0) = v := by unfold wdI; rw [if_neg (show ¬ u.1 + z0 < csz false u.1 by omega)]
    have gl : ∀ y, glI false u g (u.1 + z0) y = g (u.1 + y) := fun y => by unfold glI; rw [if_neg (show ¬ u.1 + z0 < csz false u.1 by omega)]; rfl
    have A : ∀ x, x ≤ u.1 → tO false u v g (u.1 + z0) c x = 0 := by
      intro x
      induction x with
      | zero => intro _; rfl
      | succ x ih =>
        intro hx
        show tO false u v g (u.1 + z0) c x + (if sdI false u x = sdI false u (u.1 + z0) ∧ g x = c then _ else 0) = _
        rw [if_neg (fun q => by rw [(d2 z0).1, (d1 x (by omega)).1] at q; exact absurd q.1 (by decide)), ih (by omega)]
    have B : ∀ z, tO false u v g (u.1 + z0) c (u.1 + z) = 16 * cnt (fun y => eb (wdI false u v (u.1 + z0)) (fT false u v (u.1 + z0)) y) (glI false u g (u.1 + z0)) c z + cnt (fun y => eb (wdI false u v (u.1 + z0)) y (fT false u v (u.1 + z0))) (glI false u g (u.1 + z0)) c z := by
      intro z
      induction z with
      | zero => exact A u.1 (Nat.le_refl _)
      | succ z ih =>
        show tO false u v g (u.1 + z0) c (u.1 + z) + (if sdI false u (u.1 + z) = sdI false u (u.1 + z0) ∧ g (u.1 + z) = c then (if eb (wdI false u v (u.1 + z0)) (fT false u v (u.1 + z0)) (fT false u v (u.1 + z)) = true then 16 else 0) + (if eb (wdI false u v (u.1 + z0)) (fT false u v (u.1 + z)) (fT false u v (u.1 + z0)) = true then 1 else 0) else 0) = _
        unfold cnt
        rw [ih, (d2 z).1, (d2 z).2, (d2 z0).1, gl z]
        simp only [true_and]
        exact tO_step
    rw [hN, B v.1]
    rw [show (wdI false u v (u.1 + z0)).1 = v.1 by rw [w]]
theorem sgM0_is {u v : Wd} {g : Nat → Nat} {e w : Nat} : sgM false u v g e w = if w = 0 then ctS (fun y => eb (wdI false u v e) (fT false u v e) y) (glI false u g e) (wdI false u v e).1 else if w = 1 then ctS (fun y => eb (wdI false u v e) y (fT false u v e)) (glI false u g e) (wdI false u v e).1 else 0 := by
  unfold sgM sgN wdI fT lcI glI
  by_cases hs : e < csz false u.1
  · simp only [if_pos hs, Nat.zero_add]
    rfl
  · simp only [if_neg hs]
    rfl
theorem gl_lt {u v : Wd} {g : Nat → Nat} {K : Nat} (h : ∀ e, e < itN false u v → g e < K) {e : Nat} (_he : e < itN false u v) : ∀ y, y < (wdI false u v e).1 → glI false u g e y < K := by
  intro y hy
  have hcz : csz false u.1 = u.1 := rfl
  have hN : itN false u v = u.1 + v.1 := rfl
  unfold glI
  unfold wdI at hy
  by_cases hs : e < csz false u.1
  · rw [if_pos hs] at hy ⊢; exact h _ (by omega)
  · rw [if_neg hs] at hy ⊢; exact h _ (by omega)
theorem stM0 {u v : Wd} (hu : wwf u) (hv : wwf v) {g : Nat → Nat} {K : Nat} (hK : K ≤ 12) (h : ∀ e, e < itN false u v → g e < K) {e q : Nat} (he : e < itN false u v) (hq : q < itN false u v) : stM false u v g e q = (decide (g e = g q) && allB K (fun c => decide (tO false u v g e c (itN false u v) = tO false u v g q c (itN false u v)))) := by
  have w1 := (wdI_wf (b := false) hu hv e).1
  have w2 := (wdI_wf (b := false) hu hv q).1
  have k1 := gl_lt h he
  have k2 := gl_lt h hq
  refine bool_iff ?_
  rw [stM_iff, Bool.and_eq_true, decide_eq_true_iff, allB_iff]
  refine and_congr_right (fun _ => ?_)
  constructor
  · intro hw c hc
    have s0 := hw 0 (by decide)
    have s1 := hw 1 (by decide)
    rw [sgM0_is, sgM0_is, if_pos rfl, if_pos rfl, ctS_iff hK w1 w2 k1 k2] at s0
    rw [sgM0_is, sgM0_is, if_neg (show ¬ (1 : Nat) = 0 by decide), if_pos rfl, if_neg (show ¬ (1 : Nat) = 0 by decide), if_pos rfl, ctS_iff hK w1 w2 k1 k2] at s1
    rw [decide_eq_true_iff, tO_is he, tO_is hq, s0 c hc, s1 c hc]
  · intro hc w _
    have both : ∀ c, c < K → cnt (fun y => eb (wdI false u v e) (fT false u v e) y) (glI false u g e) c (wdI false u v e).1 = cnt (fun y => eb (wdI false u v q) (fT false u v q) y) (glI false u g q) c (wdI false u v q).1 ∧ cnt (fun y => eb (wdI false u v e) y (fT false u v e)) (glI false u g e) c (wdI false u v e).1 = cnt (fun y => eb (wdI false u v q) y (fT false u v q)) (glI false u g q) c (wdI false u v q).1 := by
      intro c hcK
      have t := of_decide_eq_true (hc c hcK)
      rw [tO_is he, tO_is hq] at t
      have c1 := cnt_le (f := fun y => eb (wdI false u v e) y (fT false u v e)) (g := glI false u g e) (c := c) (wdI false u v e).1
      have c2 := cnt_le (f := fun y => eb (wdI false u v q) y (fT false u v q)) (g := glI false u g q) (c := c) (wdI false u v q).1
      omega
    rw [sgM0_is, sgM0_is, (ctS_iff hK w1 w2 k1 k2).mpr (fun c hc => (both c hc).1), (ctS_iff hK w1 w2 k1 k2).mpr (fun c hc => (both c hc).2)]
