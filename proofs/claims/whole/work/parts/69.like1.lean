/-! COLOURS: the two later likenesses are one, for pairs. -/
def R2 (u v : Wd) (g : Nat → Nat) (e c : Nat) : Bool := anyB (itN true u v) (fun o => decide (sdI true u o = sdI true u e) && (decide (sT true u v o = sT true u v e) && decide (g o = c)))
def R1 (u v : Wd) (g : Nat → Nat) (e c : Nat) : Bool := anyB (itN true u v) (fun o => decide (sdI true u o = sdI true u e) && (decide (fT true u v o = fT true u v e) && decide (g o = c)))
theorem sgM1_is {u v : Wd} {g : Nat → Nat} {e w : Nat} : sgM true u v g e w = sg1 (wdI true u v e).1 (glI true u g e) (fT true u v e) (sT true u v e) w (wdI true u v e).1 := by
  unfold sgM sgN wdI fT sT lcI glI wdI
  by_cases hs : e < csz true u.1
  · simp only [if_pos hs, Nat.zero_add]
    rfl
  · simp only [if_neg hs]
    rfl
/-- an item's place, out of its world's pair -/
theorem it_at {u v : Wd} {e x z : Nat} (he : e < itN true u v) (hx : x < (wdI true u v e).1) (hz : z < (wdI true u v e).1) : (if e < csz true u.1 then 0 else csz true u.1) + (x * (wdI true u v e).1 + z) < itN true u v ∧ sdI true u ((if e < csz true u.1 then 0 else csz true u.1) + (x * (wdI true u v e).1 + z)) = sdI true u e ∧ fT true u v ((if e < csz true u.1 then 0 else csz true u.1) + (x * (wdI true u v e).1 + z)) = x ∧ sT true u v ((if e < csz true u.1 then 0 else csz true u.1) + (x * (wdI true u v e).1 + z)) = z := by
  have hN : itN true u v = csz true u.1 + csz true v.1 := rfl
  by_cases hs : e < csz true u.1
  · have w : wdI true u v e = u := by unfold wdI; rw [if_pos hs]
    rw [w] at hx hz ⊢
    have hsq : x * u.1 + z < csz true u.1 := pr_sq hx hz
    rw [if_pos hs, Nat.zero_add]
    unfold sdI fT sT lcI wdI
    rw [if_pos hs]
    simp only [if_pos hsq, if_true]
    exact ⟨by omega, trivial, (md_dv hz).1, (md_dv hz).2⟩
  · have w : wdI true u v e = v := by unfold wdI; rw [if_neg hs]
    rw [w] at hx hz ⊢
    have hsq : x * v.1 + z < csz true v.1 := pr_sq hx hz
    have hn : ¬ csz true u.1 + (x * v.1 + z) < csz true u.1 := by omega
    rw [if_neg hs]
    unfold sdI fT sT lcI wdI
    rw [if_neg hs]
    simp only [if_neg hn, if_true, Nat.add_sub_cancel_left]
    exact ⟨by omega, trivial, (md_dv hz).1, (md_dv hz).2⟩
theorem it_of {u v : Wd} {e o : Nat} (ho : o < itN true u v) (hs : sdI true u o = sdI true u e) : wdI true u v o = wdI true u v e ∧ o = (if e < csz true u.1 then 0 else csz true u.1) + (fT true u v o * (wdI true u v e).1 + sT true u v o) := by
  have hN : itN true u v = csz true u.1 + csz true v.1 := rfl
  have hw : wdI true u v o = wdI true u v e := by
    unfold sdI at hs
    unfold wdI
    by_cases h1 : o < csz true u.1 <;> by_cases h2 : e < csz true u.1 <;> simp [h1, h2] at hs ⊢
  refine ⟨hw, ?_⟩
  rw [← hw]
  unfold sdI at hs
  by_cases h1 : o < csz true u.1
  · have h2 : e < csz true u.1 := by
      by_cases h2 : e < csz true u.1
      · exact h2
      · rw [if_pos h1, if_neg h2] at hs; cases hs
    rw [if_pos h2]
    unfold fT sT lcI wdI
    simp only [if_pos h1, if_true]
    have := (dv_mod (show o < u.1 * u.1 from h1)).2.2
    omega
  · have h2 : ¬ e < csz true u.1 := by
      intro h2
      rw [if_neg h1, if_pos h2] at hs; cases hs
    rw [if_neg h2]
    unfold fT sT lcI wdI
    simp only [if_neg h1, if_true]
    have := (dv_mod (show o - csz true u.1 < v.1 * v.1 by have : csz true v.1 = v.1 * v.1 := rfl; omega)).2.2
    omega
theorem R2_is {u v : Wd} {g : Nat → Nat} {e c : Nat} (he : e < itN true u v) : R2 u v g e c = anyB (wdI true u v e).1 (fun x => decide (glI true u g e (x * (wdI true u v e).1 + sT true u v e) = c)) := by
  obtain ⟨f1, f2⟩ := fs_lt he
  refine bool_iff ?_
  unfold R2
  rw [anyB_iff, anyB_iff]
  constructor
  · intro ⟨o, ho, hp⟩
    rw [Bool.and_eq_true, Bool.and_eq_true, decide_eq_true_iff, decide_eq_true_iff, decide_eq_true_iff] at hp
    obtain ⟨w1, w2⟩ := it_of ho hp.1
    have := (fs_lt ho).1
    rw [w1] at this
    refine ⟨fT true u v o, this, ?_⟩
    rw [decide_eq_true_iff]
    unfold glI
    rw [← hp.2.1, ← w2]
    exact hp.2.2
  · intro ⟨x, hx, hp⟩
    rw [decide_eq_true_iff] at hp
    obtain ⟨a1, a2, a3, a4⟩ := it_at he hx f2
    refine ⟨_, a1, ?_⟩
    rw [Bool.and_eq_true, Bool.and_eq_true, decide_eq_true_iff, decide_eq_true_iff, decide_eq_true_iff]
    exact ⟨a2, a4, hp⟩
theorem R1_is {u v : Wd} {g : Nat → Nat} {e c : Nat} (he : e < itN true u v) : R1 u v g e c = anyB (wdI true u v e).1 (fun x => decide (glI true u g e (fT true u v e * (wdI true u v e).1 + x) = c)) := by
  obtain ⟨f1, f2⟩ := fs_lt he
  refine bool_iff ?_
  unfold R1
  rw [anyB_iff, anyB_iff]
  constructor
  · intro ⟨o, ho, hp⟩
    rw [Bool.and_eq_true, Bool.and_eq_true, decide_eq_true_iff, decide_eq_true_iff, decide_eq_true_iff] at hp
    obtain ⟨w1, w2⟩ := it_of ho hp.1
    have := (fs_lt ho).2
    rw [w1] at this
    refine ⟨sT true u v o, this, ?_⟩
    rw [decide_eq_true_iff]
    unfold glI
    rw [← hp.2.1, ← w2]
    exact hp.2.2
  · intro ⟨x, hx, hp⟩
    rw [decide_eq_true_iff] at hp
    obtain ⟨a1, a2, a3, a4⟩ := it_at he f1 hx
    refine ⟨_, a1, ?_⟩
    rw [Bool.and_eq_true, Bool.and_eq_true, decide_eq_true_iff, decide_eq_true_iff, decide_eq_true_iff]
    exact ⟨a2, a3, hp⟩
theorem gl1_lt {u v : Wd} {g : Nat → Nat} (h : ∀ e, e < itN true u v → g e < 72) {e x z : Nat} (he : e < itN true u v) (hx : x < (wdI true u v e).1) (hz : z < (wdI true u v e).1) : glI true u g e (x * (wdI true u v e).1 + z) < 72 := h _ (it_at he hx hz).1
theorem stM1 {u v : Wd} {g : Nat → Nat} (h : ∀ e, e < itN true u v → g e < 72) {e q : Nat} (he : e < itN true u v) (hq : q < itN true u v) : stM true u v g e q = true ↔ g e = g q ∧ (∀ c, c < 72 → R2 u v g e c = R2 u v g q c) ∧ (∀ c, c < 72 → R1 u v g e c = R1 u v g q c) := by
  obtain ⟨f1, f2⟩ := fs_lt he
  obtain ⟨g1, g2⟩ := fs_lt hq
  rw [stM_iff]
  refine and_congr_right (fun _ => ?_)
  have A := orS_iff (g := fun y => glI true u g e (y * (wdI true u v e).1 + sT true u v e)) (g' := fun y => glI true u g q (y * (wdI true u v q).1 + sT true u v q)) (n := (wdI true u v e).1) (n' := (wdI true u v q).1) (fun x hx => gl1_lt h he hx f2) (fun x hx => gl1_lt h hq hx g2)
  have B := orS_iff (g := fun y => glI true u g e (fT true u v e * (wdI true u v e).1 + y)) (g' := fun y => glI true u g q (fT true u v q * (wdI true u v q).1 + y)) (n := (wdI true u v e).1) (n' := (wdI true u v q).1) (fun x hx => gl1_lt h he f1 hx) (fun x hx => gl1_lt h hq g1 hx)
  have A2 : sameC (fun y => glI true u g e (y * (wdI true u v e).1 + sT true u v e)) (fun y => glI true u g q (y * (wdI true u v q).1 + sT true u v q)) (wdI true u v e).1 (wdI true u v q).1 ↔ (∀ c, c < 72 → R2 u v g e c = R2 u v g q c) := by
    unfold sameC
    refine forall_congr' (fun c => forall_congr' (fun _ => ?_))
    rw [R2_is he, R2_is hq]
  have B2 : sameC (fun y => glI true u g e (fT true u v e * (wdI true u v e).1 + y)) (fun y => glI true u g q (fT true u v q * (wdI true u v q).1 + y)) (wdI true u v e).1 (wdI true u v q).1 ↔ (∀ c, c < 72 → R1 u v g e c = R1 u v g q c) := by
    unfold sameC
    refine forall_congr' (fun c => forall_congr' (fun _ => ?_))
    rw [R1_is he, R1_is hq]
  rw [← A2, ← B2, ← A, ← B]
  constructor
  · intro hw
    have s0 := hw 0 (by decide)
    have s1 := hw 1 (by decide)
    have s2 := hw 2 (by decide)
    have s3 := hw 3 (by decide)
    rw [sgM1_is, sgM1_is] at s0 s1 s2 s3
    exact ⟨⟨s0, s1⟩, ⟨s2, s3⟩⟩
  · intro ⟨⟨s0, s1⟩, ⟨s2, s3⟩⟩ w hw
    rw [sgM1_is, sgM1_is]
    have : w = 0 ∨ w = 1 ∨ w = 2 ∨ w = 3 := by omega
    rcases this with rfl | rfl | rfl | rfl
    · exact s0
    · exact s1
    · exact s2
    · exact s3
