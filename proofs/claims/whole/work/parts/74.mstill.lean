/-! COLOURS: the reference's coloured and still. -/
def MC (d : Co) (M : jM) : Prop := rI M 65 52 = nI d.1 ∧ (d.1 = 0 → rI M 65 51 = -1) ∧ (d.1 ≠ 0 → (∃ K, K ≤ 72 ∧ rI M 65 51 = nI K) ∧ rI M 65 53 = nI d.2.2.1 ∧ rI M 65 54 = bI (bal d)) ∧ ∀ e, e < d.1 → rI M 95 e = nI (d.2.2.2 e)
theorem m_coloured {M : jM} (h : Sh M) {d : Co} (hd : CV d) (f : MC d M) (i : Int32) : f_X12_coloured 65 i M = some (sp_coloured d i, M) := by
  have hd1 := hd.1
  obtain ⟨f1, f2, f3, f4⟩ := f
  unfold f_X12_coloured sp_coloured
  rw [gI_n (t65 h), Option.bind_some]
  by_cases hz : d.1 = 0
  · rw [f2 hz, if_pos (by decide), hz, (ixo_none (by decide)).mpr (by
      by_cases q : i < 0
      · exact Or.inl q
      · exact Or.inr (by rcases nI_of q with ⟨j, hj, rfl⟩; exact nI_le (Nat.zero_le _) hj))]
    rfl
  · obtain ⟨⟨K, hK, k1⟩, k2, k3⟩ := f3 hz
    rw [k1, if_neg (nI_pos (by omega)), gI_n (t65 h), Option.bind_some, f1, pk_sub (show 1 ≤ d.1 by omega), m_in0 (by omega) (by omega), jb2_some]
    cases hi : ixo i d.1 with
    | none => rw [if_pos (show bI (none : Option Nat).isSome = 0 from rfl)]; rfl
    | some q =>
      obtain ⟨hq, rfl⟩ := (ixo_some (by omega)).mp hi
      rw [if_neg (show ¬ bI (some q).isSome = 0 from (by decide : ¬ bI true = 0)), q65_55 h, Option.bind_some, ldI_n (t95 h) (by omega) (by decide), Option.bind_some, f4 q hq]
      rfl
theorem m_still {M : jM} (h : Sh M) {d : Co} (f : MC d M) (x : Int32) : f_X12_still 65 x M = some (sp_still d x, M) := by
  obtain ⟨f1, f2, f3, f4⟩ := f
  unfold f_X12_still sp_still
  rw [show (nI 1 : Int32) = nI (2 - 1) from rfl, m_in0 (x := x) (n := 2) (by decide) (by decide), jb2_some]
  cases hi : ixo x 2 with
  | none => rw [if_pos (show bI (none : Option Nat).isSome = 0 from rfl)]; rfl
  | some q =>
    obtain ⟨hq, rfl⟩ := (ixo_some (by decide)).mp hi
    rw [if_neg (show ¬ bI (some q).isSome = 0 from (by decide : ¬ bI true = 0)), gI_n (t65 h), Option.bind_some]
    by_cases hz : d.1 = 0
    · rw [f2 hz, if_neg (by decide)]
      simp only [if_pos hz]
      rfl
    · obtain ⟨⟨K, hK, k1⟩, k2, k3⟩ := f3 hz
      rw [k1, if_pos (nI_pos' (by omega))]
      simp only [if_neg hz]
      by_cases hq0 : q = 0
      · subst hq0
        rw [if_pos (show nI 0 = 0 from rfl), gI_n (t65 h), Option.bind_some, k2, if_pos rfl]
        rfl
      · rw [if_neg (nI_ne0 (by omega) (by omega)), gI_n (t65 h), Option.bind_some, k3, if_neg hq0]
        cases bal d <;> rfl
