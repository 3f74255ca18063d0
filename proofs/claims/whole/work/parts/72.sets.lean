/-! COLOURS: what is gathered says which colours there are. -/
theorem gb_bL : ∀ c, c < 72 → ∀ i, i < 64 → gb (bL c) i = decide (c < 36 ∧ c = i) := by decide +kernel
theorem gb_bH : ∀ c, c < 72 → ∀ i, i < 64 → gb (bH c) i = decide (36 ≤ c ∧ c = 36 + i) := by decide +kernel
theorem gb_if {P Q : Prop} [Decidable P] [Decidable Q] {z : Int64} {i : Nat} (hi : i < 64) : gb (if P then (if Q then z else 0) else 0) i = true ↔ P ∧ Q ∧ gb z i = true := by
  by_cases hP : P
  · by_cases hQ : Q
    · rw [if_pos hP, if_pos hQ]; exact ⟨fun h => ⟨hP, hQ, h⟩, fun h => h.2.2⟩
    · rw [if_pos hP, if_neg hQ, gb_0 i hi]; exact ⟨fun h => (by cases h), fun h => absurd h.2.1 hQ⟩
  · rw [if_neg hP, gb_0 i hi]; exact ⟨fun h => (by cases h), fun h => absurd h.1 hP⟩
section S1
variable {u v : Wd} {g : Nat → Nat}
theorem gb_A (hg7 : ∀ e, e < itN true u v → g e < 72) {e i : Nat} (hi : i < 64) : gb (orG (kA u v g e) (itN true u v)) i = (decide (i < 36) && R2 u v g e i) := by
  refine bool_iff ?_
  unfold R2
  rw [gb_orG hi, Bool.and_eq_true, anyB_iff, anyB_iff, decide_eq_true_iff]
  constructor
  · intro ⟨o, ho, hp⟩
    unfold kA at hp
    obtain ⟨p1, p2, p3⟩ := (gb_if hi).mp hp
    rw [gb_bL _ (hg7 o ho) i hi, decide_eq_true_iff] at p3
    refine ⟨by omega, o, ho, ?_⟩
    rw [decide_eq_true p1, decide_eq_true p2, decide_eq_true p3.2]; rfl
  · intro ⟨h36, o, ho, hp⟩
    rw [Bool.and_eq_true, Bool.and_eq_true, decide_eq_true_iff, decide_eq_true_iff, decide_eq_true_iff] at hp
    refine ⟨o, ho, ?_⟩
    unfold kA
    refine (gb_if hi).mpr ⟨hp.1, hp.2.1, ?_⟩
    rw [gb_bL _ (hg7 o ho) i hi, decide_eq_true_iff]
    exact ⟨by omega, hp.2.2⟩
theorem gb_B (hg7 : ∀ e, e < itN true u v → g e < 72) {e i : Nat} (hi : i < 64) : gb (orG (kB u v g e) (itN true u v)) i = R2 u v g e (36 + i) := by
  refine bool_iff ?_
  unfold R2
  rw [gb_orG hi, anyB_iff, anyB_iff]
  refine exists_congr (fun o => and_congr_right (fun ho => ?_))
  unfold kB
  rw [gb_if hi, gb_bH _ (hg7 o ho) i hi, decide_eq_true_iff, Bool.and_eq_true, Bool.and_eq_true, decide_eq_true_iff, decide_eq_true_iff, decide_eq_true_iff]
  constructor
  · intro h; exact ⟨h.1, h.2.1, h.2.2.2⟩
  · intro h; exact ⟨h.1, h.2.1, by omega, h.2.2⟩
theorem gb_C (hg7 : ∀ e, e < itN true u v → g e < 72) {e i : Nat} (hi : i < 64) : gb (orG (kC u v g e) (itN true u v)) i = (decide (i < 36) && R1 u v g e i) := by
  refine bool_iff ?_
  unfold R1
  rw [gb_orG hi, Bool.and_eq_true, anyB_iff, anyB_iff, decide_eq_true_iff]
  constructor
  · intro ⟨o, ho, hp⟩
    unfold kC at hp
    obtain ⟨p1, p2, p3⟩ := (gb_if hi).mp hp
    rw [gb_bL _ (hg7 o ho) i hi, decide_eq_true_iff] at p3
    refine ⟨by omega, o, ho, ?_⟩
    rw [decide_eq_true p1, decide_eq_true p2, decide_eq_true p3.2]; rfl
  · intro ⟨h36, o, ho, hp⟩
    rw [Bool.and_eq_true, Bool.and_eq_true, decide_eq_true_iff, decide_eq_true_iff, decide_eq_true_iff] at hp
    refine ⟨o, ho, ?_⟩
    unfold kC
    refine (gb_if hi).mpr ⟨hp.1, hp.2.1, ?_⟩
    rw [gb_bL _ (hg7 o ho) i hi, decide_eq_true_iff]
    exact ⟨by omega, hp.2.2⟩
theorem gb_D (hg7 : ∀ e, e < itN true u v → g e < 72) {e i : Nat} (hi : i < 64) : gb (orG (kD u v g e) (itN true u v)) i = R1 u v g e (36 + i) := by
  refine bool_iff ?_
  unfold R1
  rw [gb_orG hi, anyB_iff, anyB_iff]
  refine exists_congr (fun o => and_congr_right (fun ho => ?_))
  unfold kD
  rw [gb_if hi, gb_bH _ (hg7 o ho) i hi, decide_eq_true_iff, Bool.and_eq_true, Bool.and_eq_true, decide_eq_true_iff, decide_eq_true_iff, decide_eq_true_iff]
  constructor
  · intro h; exact ⟨h.1, h.2.1, h.2.2.2⟩
  · intro h; exact ⟨h.1, h.2.1, by omega, h.2.2⟩
theorem R_big (hg7 : ∀ e, e < itN true u v → g e < 72) {e c : Nat} (hc : 72 ≤ c) : R2 u v g e c = false ∧ R1 u v g e c = false := by
  constructor
  · cases h : R2 u v g e c with
    | false => rfl
    | true =>
      obtain ⟨o, ho, hp⟩ := anyB_iff.mp h
      rw [Bool.and_eq_true, Bool.and_eq_true, decide_eq_true_iff, decide_eq_true_iff, decide_eq_true_iff] at hp
      have := hg7 o ho
      omega
  · cases h : R1 u v g e c with
    | false => rfl
    | true =>
      obtain ⟨o, ho, hp⟩ := anyB_iff.mp h
      rw [Bool.and_eq_true, Bool.and_eq_true, decide_eq_true_iff, decide_eq_true_iff, decide_eq_true_iff] at hp
      have := hg7 o ho
      omega
theorem setsAB (hg7 : ∀ e, e < itN true u v → g e < 72) {e q : Nat} : (orG (kA u v g e) (itN true u v) = orG (kA u v g q) (itN true u v) ∧ orG (kB u v g e) (itN true u v) = orG (kB u v g q) (itN true u v)) ↔ ∀ c, c < 72 → R2 u v g e c = R2 u v g q c := by
  rw [gb_ext, gb_ext]
  constructor
  · intro ⟨h1, h2⟩ c hc
    by_cases h36 : c < 36
    · have := h1 c (by omega)
      rw [gb_A hg7 (by omega), gb_A hg7 (by omega), decide_eq_true h36, Bool.true_and, Bool.true_and] at this
      exact this
    · have := h2 (c - 36) (by omega)
      rw [gb_B hg7 (by omega), gb_B hg7 (by omega), show 36 + (c - 36) = c by omega] at this
      exact this
  · intro h
    refine ⟨fun i hi => ?_, fun i hi => ?_⟩
    · rw [gb_A hg7 hi, gb_A hg7 hi, h i (by omega)]
    · rw [gb_B hg7 hi, gb_B hg7 hi]
      by_cases h36 : 36 + i < 72
      · exact h _ h36
      · rw [(R_big hg7 (by omega)).1, (R_big hg7 (by omega)).1]
theorem setsCD (hg7 : ∀ e, e < itN true u v → g e < 72) {e q : Nat} : (orG (kC u v g e) (itN true u v) = orG (kC u v g q) (itN true u v) ∧ orG (kD u v g e) (itN true u v) = orG (kD u v g q) (itN true u v)) ↔ ∀ c, c < 72 → R1 u v g e c = R1 u v g q c := by
  rw [gb_ext, gb_ext]
  constructor
  · intro ⟨h1, h2⟩ c hc
    by_cases h36 : c < 36
    · have := h1 c (by omega)
      rw [gb_C hg7 (by omega), gb_C hg7 (by omega), decide_eq_true h36, Bool.true_and, Bool.true_and] at this
      exact this
    · have := h2 (c - 36) (by omega)
      rw [gb_D hg7 (by omega), gb_D hg7 (by omega), show 36 + (c - 36) = c by omega] at this
      exact this
  · intro h
    refine ⟨fun i hi => ?_, fun i hi => ?_⟩
    · rw [gb_C hg7 hi, gb_C hg7 hi, h i (by omega)]
    · rw [gb_D hg7 hi, gb_D hg7 hi]
      by_cases h36 : 36 + i < 72
      · exact h _ h36
      · rw [(R_big hg7 (by omega)).2, (R_big hg7 (by omega)).2]
end S1
