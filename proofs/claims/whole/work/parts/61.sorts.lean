/-! COLOURS: sorting by a likeness. -/
def Eqv (S : Nat → Nat → Bool) : Prop := (∀ i, S i i = true) ∧ (∀ i j, S i j = true → S j i = true) ∧ (∀ i j k, S i j = true → S j k = true → S i k = true)
theorem cl_inv {S : Nat → Nat → Bool} (h : Eqv S) : ∀ n, (∀ q, q < n → S ((cl S n).2.1 ((cl S n).2.2 q)) q = true) ∧ (∀ k l, k < (cl S n).1 → l < (cl S n).1 → S ((cl S n).2.1 k) ((cl S n).2.1 l) = true → k = l)
  | 0 => ⟨fun q hq => absurd hq (Nat.not_lt_zero q), fun k l hk => absurd hk (Nat.not_lt_zero k)⟩
  | n + 1 => by
    obtain ⟨h1, h2⟩ := cl_inv h n
    obtain ⟨l1, l2, l3⟩ := cl_le S n
    simp only [cl]
    cases hf : ff (fun j => S ((cl S n).2.1 j) n) 0 (cl S n).1 with
    | none =>
      have fn := ff_none hf
      simp only [Option.isNone_none, if_true, Option.getD_none]
      refine ⟨fun q hq => ?_, fun k l hk hl hs => ?_⟩
      · by_cases hqn : q = n
        · subst hqn
          simp only [up1, if_true]
          exact h.1 q
        · have := l3 q (by omega)
          simp only [up1, if_neg hqn, if_neg (Nat.ne_of_lt this)]
          exact h1 q (by omega)
      · by_cases hk2 : k = (cl S n).1
        · by_cases hl2 : l = (cl S n).1
          · omega
          · subst hk2
            simp only [up1, if_true, if_neg hl2] at hs
            have := fn l (Nat.zero_le _) (by omega)
            rw [h.2.1 _ _ hs] at this
            cases this
        · by_cases hl2 : l = (cl S n).1
          · subst hl2
            simp only [up1, if_true, if_neg hk2] at hs
            have := fn k (Nat.zero_le _) (by omega)
            rw [hs] at this
            cases this
          · simp only [up1, if_neg hk2, if_neg hl2] at hs
            exact h2 k l (by omega) (by omega) hs
    | some k =>
      have fs := ff_some hf
      simp only [Option.isNone_some, Bool.false_eq_true, if_false, Option.getD_some]
      refine ⟨fun q hq => ?_, h2⟩
      by_cases hqn : q = n
      · subst hqn
        simp only [up1, if_true]
        exact fs.2.2
      · simp only [up1, if_neg hqn]
        exact h1 q (by omega)
theorem cl_iff {S : Nat → Nat → Bool} (h : Eqv S) {n i j : Nat} (hi : i < n) (hj : j < n) : (cl S n).2.2 i = (cl S n).2.2 j ↔ S i j = true := by
  obtain ⟨h1, h2⟩ := cl_inv h n
  obtain ⟨l1, l2, l3⟩ := cl_le S n
  have a := h1 i hi
  have b := h1 j hj
  constructor
  · intro e
    rw [e] at a
    exact h.2.2 _ _ _ (h.2.1 _ _ a) b
  · intro s
    exact h2 _ _ (l3 i hi) (l3 j hj) (h.2.2 _ _ _ a (h.2.2 _ _ _ s (h.2.1 _ _ b)))
theorem rg_cl {S : Nat → Nat → Bool} (h : Eqv S) : ∀ n, (rg S n).1 = (cl S n).1 ∧ ∀ q, q < n → (rg S n).2 q = (cl S n).2.2 q
  | 0 => ⟨rfl, fun q hq => absurd hq (Nat.not_lt_zero q)⟩
  | n + 1 => by
    obtain ⟨e1, e2⟩ := rg_cl h n
    obtain ⟨h1, h2⟩ := cl_inv h n
    obtain ⟨l1, l2, l3⟩ := cl_le S n
    simp only [cl, rg]
    cases hf : ff (fun j => S ((cl S n).2.1 j) n) 0 (cl S n).1 with
    | none =>
      have fn := ff_none hf
      have hg : ff (fun j => S j n) 0 n = none := by
        cases hg : ff (fun j => S j n) 0 n with
        | none => rfl
        | some j =>
          have gs := ff_some hg
          have := fn ((cl S n).2.2 j) (Nat.zero_le _) (by have := l3 j (by omega); omega)
          rw [h.2.2 _ _ _ (h1 j (by omega)) gs.2.2] at this
          cases this
      rw [hg]
      simp only [Option.isNone_none, if_true, Option.getD_none]
      refine ⟨by omega, fun q hq => ?_⟩
      unfold up1
      by_cases hqn : q = n
      · rw [if_pos hqn, if_pos hqn, e1]
      · rw [if_neg hqn, if_neg hqn]; exact e2 q (by omega)
    | some k =>
      have fs := ff_some hf
      cases hg : ff (fun j => S j n) 0 n with
      | none =>
        have := ff_none hg ((cl S n).2.1 k) (Nat.zero_le _) (by have := l2 k (by omega); omega)
        rw [fs.2.2] at this
        cases this
      | some j =>
        have gs := ff_some hg
        simp only [Option.isNone_some, Bool.false_eq_true, if_false, Option.getD_some]
        refine ⟨e1, fun q hq => ?_⟩
        unfold up1
        by_cases hqn : q = n
        · rw [if_pos hqn, if_pos hqn, e2 j (by omega)]
          exact h2 _ _ (l3 j (by omega)) (by omega) (h.2.2 _ _ _ (h1 j (by omega)) (h.2.2 _ _ _ gs.2.2 (h.2.1 _ _ fs.2.2)))
        · rw [if_neg hqn, if_neg hqn]; exact e2 q (by omega)
theorem rg_iff {S : Nat → Nat → Bool} (h : Eqv S) {n i j : Nat} (hi : i < n) (hj : j < n) : (rg S n).2 i = (rg S n).2 j ↔ S i j = true := by
  rw [(rg_cl h n).2 i hi, (rg_cl h n).2 j hj]
  exact cl_iff h hi hj
theorem rg_mono {S R : Nat → Nat → Bool} : ∀ n, (∀ j i, j < n → i < n → R j i = true → S j i = true) → (rg S n).1 ≤ (rg R n).1
  | 0, _ => Nat.le_refl _
  | n + 1, h => by
    have ih := rg_mono n (fun j i hj hi => h j i (by omega) (by omega))
    simp only [rg]
    cases hf : ff (fun j => S j n) 0 n with
    | none =>
      have hg : ff (fun j => R j n) 0 n = none := by
        cases hg : ff (fun j => R j n) 0 n with
        | none => rfl
        | some j =>
          have gs := ff_some hg
          have := ff_none hf j (Nat.zero_le _) (by omega)
          rw [h j n (by omega) (by omega) gs.2.2] at this
          cases this
      rw [hg]
      simp only [Option.isNone_none, if_true]
      omega
    | some k =>
      simp only [Option.isNone_some, Bool.false_eq_true, if_false]
      split
      · omega
      · omega
theorem stS_eqv (b : Bool) (u v : Wd) : Eqv (stS b u v) := by
  unfold stS
  refine ⟨fun i => decide_eq_true rfl, fun i j h => ?_, fun i j k h g => ?_⟩
  · rw [decide_eq_true_iff] at h ⊢; exact h.symm
  · rw [decide_eq_true_iff] at h g ⊢; exact h.trans g
theorem stM_iff {b : Bool} {u v : Wd} {g : Nat → Nat} {j i : Nat} : stM b u v g j i = true ↔ g j = g i ∧ ∀ w, w < 4 → sgM b u v g j w = sgM b u v g i w := by
  unfold stM
  rw [Bool.and_eq_true, decide_eq_true_iff, allB_iff]
  constructor
  · intro h; exact ⟨h.1, fun w hw => of_decide_eq_true (h.2 w hw)⟩
  · intro h; exact ⟨h.1, fun w hw => decide_eq_true (h.2 w hw)⟩
theorem stM_eqv (b : Bool) (u v : Wd) (g : Nat → Nat) : Eqv (stM b u v g) := by
  refine ⟨fun i => stM_iff.mpr ⟨rfl, fun _ _ => rfl⟩, fun i j h => ?_, fun i j k h l => ?_⟩
  · rw [stM_iff] at h ⊢; exact ⟨h.1.symm, fun w hw => (h.2 w hw).symm⟩
  · rw [stM_iff] at h l ⊢; exact ⟨h.1.trans l.1, fun w hw => (h.2 w hw).trans (l.2 w hw)⟩
theorem cit_mono {b : Bool} {u v : Wd} (t : Nat) : (cit b u v t).1 ≤ (cit b u v (t + 1)).1 := by
  cases t with
  | zero => exact rg_mono _ (fun j i hj hi h => (rg_iff (stS_eqv b u v) hj hi).mp (stM_iff.mp h).1)
  | succ t => exact rg_mono _ (fun j i hj hi h => (rg_iff (stM_eqv b u v _) hj hi).mp (stM_iff.mp h).1)
theorem ff_no {f : Nat → Bool} : ∀ {c i : Nat}, (∀ k, i ≤ k → k < i + c → f k = false) → ff f i c = none
  | 0, i, _ => rfl
  | c + 1, i, h => by
    unfold ff
    rw [if_neg (by rw [h i (Nat.le_refl _) (by omega)]; decide)]
    exact ff_no (fun k h1 h2 => h k (by omega) (by omega))
theorem rg_pos {S : Nat → Nat → Bool} {n : Nat} (h : 0 < n) : 0 < (rg S n).1 := by
  have := (rg_le S n).2 0 h
  omega
/-- it comes to rest -/
theorem cit_rest {b : Bool} {u v : Wd} (hu : wwf u) (hv : wwf v) : ∃ T, ff (fun t => decide ((cit b u v (t + 1)).1 = (cit b u v t).1)) 0 72 = some T ∧ T < 72 := by
  have hN := itN_le (b := b) hu hv
  cases hf : ff (fun t => decide ((cit b u v (t + 1)).1 = (cit b u v t).1)) 0 72 with
  | some T => exact ⟨T, rfl, by have := ff_some hf; omega⟩
  | none =>
    exfalso
    have fn := ff_none hf
    have grow : ∀ t, t ≤ 72 → (cit b u v 0).1 + t ≤ (cit b u v t).1 := by
      intro t
      induction t with
      | zero => intro _; exact Nat.le_refl _
      | succ t ih =>
        intro ht
        have i := ih (by omega)
        have m := cit_mono (b := b) (u := u) (v := v) t
        have n := of_decide_eq_false (fn t (Nat.zero_le _) (by omega))
        omega
    have g := grow 72 (Nat.le_refl _)
    have l := (cit_le (b := b) (u := u) (v := v) 72).1
    rcases Nat.eq_zero_or_pos (itN b u v) with z | z
    · omega
    · have : 0 < (cit b u v 0).1 := rg_pos z
      omega
