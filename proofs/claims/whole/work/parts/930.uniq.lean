/-! WRITING: no two formulas have one text. -/
theorem wf0_cases {q : Nat} {g : Fm} (h : wf 0 q g) : (∃ c, g = .leaf c ∧ aok q c) ∨ (∃ l, g = .branch 45 l (.leaf 0) ∧ wf 0 q l) ∨ (∃ k l, (k = 64 ∨ k = 63) ∧ g = .branch k l (.leaf 0) ∧ q < 8 ∧ wf 0 (q + 1) l) ∨ (∃ k l, (k = 38 ∨ k = 124) ∧ g = .branch k l (.leaf 0) ∧ wf 2 q l) := by
  cases g with
  | leaf c => exact Or.inl ⟨c, rfl, h.2.2⟩
  | branch k l r =>
    have hk : k ≠ 0 := fun e => wf0_nb h l r (by rw [e])
    simp only [wf] at h
    rw [if_neg hk] at h
    obtain ⟨-, rfl, h⟩ := h
    by_cases h1 : k = 45
    · rw [if_pos h1] at h; subst h1; exact Or.inr (Or.inl ⟨l, rfl, h⟩)
    · rw [if_neg h1] at h
      by_cases h2 : isQ k = true
      · rw [if_pos h2] at h; exact Or.inr (Or.inr (Or.inl ⟨k, l, by simpa [isQ] using h2, rfl, h⟩))
      · rw [if_neg h2] at h
        by_cases h3 : k = 38 ∨ k = 124
        · rw [if_pos h3] at h; exact Or.inr (Or.inr (Or.inr ⟨k, l, h3, rfl, h⟩))
        · rw [if_neg h3] at h; exact absurd h id
theorem wf1_cases {q : Nat} {g : Fm} (h : wf 1 q g) : wf 0 q g ∨ ∃ l r, g = .branch 0 l r ∧ wf 0 q l ∧ wf 1 q r := by
  cases g with
  | leaf c => exact Or.inl ⟨by decide, h.2⟩
  | branch k l r =>
    simp only [wf] at h
    by_cases hk : k = 0
    · rw [if_pos hk] at h; subst hk; exact Or.inr ⟨l, r, rfl, h.2⟩
    · rw [if_neg hk] at h
      refine Or.inl ?_
      simp only [wf]
      rw [if_neg hk]
      exact ⟨by decide, h.2⟩
theorem wf2_cases {q : Nat} {g : Fm} (h : wf 2 q g) : ∃ l r, g = .branch 0 l r ∧ wf 0 q l ∧ wf 1 q r := by
  cases g with
  | leaf c => exact absurd rfl h.1
  | branch k l r =>
    simp only [wf] at h
    by_cases hk : k = 0
    · rw [if_pos hk] at h; subst hk; exact ⟨l, r, rfl, h.2⟩
    · rw [if_neg hk] at h; exact absurd rfl h.1
theorem wa_h {q c : Nat} (ok : aok q c) : ∃ s t, wa c = s :: t ∧ (s = 65 ∨ s = 66 ∨ s = 69 ∨ s = 61 ∨ s = 84 ∨ s = 70) := by
  refine ⟨aS c, _, rfl, ?_⟩
  unfold aS
  rcases ok with ⟨s, a, hs, ha, hb, rfl⟩ | ⟨s, a, b, hs, ha, hb, hc, hd, rfl⟩ | rfl | rfl <;> omega
theorem wa_is {q c : Nat} (hq : q ≤ 8) (ok : aok q c) : (∃ s a, (s = 65 ∨ s = 66) ∧ c = s + 256 * a ∧ wa c = [s, 96 + a]) ∨ (∃ s a b, (s = 69 ∨ s = 61) ∧ c = s + 256 * a + 4096 * b ∧ wa c = [s, 96 + a, 96 + b]) ∨ (c = 84 ∧ wa c = [84]) ∨ (c = 70 ∧ wa c = [70]) := by
  rcases ok with ⟨s, a, hs, ha, hb, hcc⟩ | ⟨s, a, b, hs, ha, hb, hb1, hb2, hcc⟩ | hcc | hcc
  · refine Or.inl ⟨s, a, hs, hcc, ?_⟩
    have z1 : aS c = s := by unfold aS; omega
    have z2 : aA c = a := by unfold aA; omega
    have z3 : aB c = 0 := by unfold aB; omega
    unfold wa; rw [z1, z2, z3, if_neg (by omega), if_pos rfl]; rfl
  · refine Or.inr (Or.inl ⟨s, a, b, hs, hcc, ?_⟩)
    have z1 : aS c = s := by unfold aS; omega
    have z2 : aA c = a := by unfold aA; omega
    have z3 : aB c = b := by unfold aB; omega
    unfold wa; rw [z1, z2, z3, if_neg (by omega), if_neg (by omega)]; rfl
  · exact Or.inr (Or.inr (Or.inl ⟨hcc, by rw [hcc]; rfl⟩))
  · exact Or.inr (Or.inr (Or.inr ⟨hcc, by rw [hcc]; rfl⟩))
theorem wa_inj {q c c' : Nat} (hq : q ≤ 8) (ok : aok q c) (ok' : aok q c') {r s : List Nat} (h : wa c ++ r = wa c' ++ s) : c = c' ∧ r = s := by
  rcases wa_is hq ok with ⟨s1, a, hs, hc, hw⟩ | ⟨s1, a, b, hs, hc, hw⟩ | ⟨hc, hw⟩ | ⟨hc, hw⟩ <;>
  rcases wa_is hq ok' with ⟨s2, a', hs', hc', hw'⟩ | ⟨s2, a', b', hs', hc', hw'⟩ | ⟨hc', hw'⟩ | ⟨hc', hw'⟩ <;>
  rw [hw, hw'] at h <;> simp only [List.cons_append, List.nil_append, List.cons.injEq] at h <;> first | omega | (refine ⟨by omega, ?_⟩; first | exact h.2 | exact h.2.2 | exact h.2.2.2)
def UP (q : Nat) (f : Fm) : Prop := ∀ (sg sg' : Nat) (g : Fm) (r s : List Nat), wf 0 q g → wr q true sg f ++ r = wr q true sg' g ++ s → f = g ∧ r = s
def UB (q : Nat) (f : Fm) : Prop := ∀ (k k' : Nat) (g : Fm) (r s : List Nat), (k = 38 ∨ k = 124) → (k' = 38 ∨ k' = 124) → wf 1 q g → wr q true k f ++ 41 :: r = wr q true k' g ++ 41 :: s → f = g ∧ r = s ∧ ∀ a b, f = .branch 0 a b → k = k'
/-- how a part's text begins -/
theorem wr_h {q sg : Nat} {f : Fm} (h : wf 0 q f) : ∃ x t, wr q true sg f = x :: t ∧ ((∃ c, f = .leaf c ∧ (x = 65 ∨ x = 66 ∨ x = 69 ∨ x = 61 ∨ x = 84 ∨ x = 70)) ∨ ((∃ l, f = .branch 45 l (.leaf 0)) ∧ x = 45) ∨ (∃ k l, f = .branch k l (.leaf 0) ∧ x = k ∧ (k = 64 ∨ k = 63)) ∨ ((∃ k l, f = .branch k l (.leaf 0) ∧ (k = 38 ∨ k = 124)) ∧ x = 40)) := by
  rcases wf0_cases h with ⟨c, rfl, ok⟩ | ⟨l, rfl, hl⟩ | ⟨k, l, hk, rfl, hl⟩ | ⟨k, l, hk, rfl, hl⟩
  · obtain ⟨s, t, h1, h2⟩ := wa_h ok
    exact ⟨s, t, h1, Or.inl ⟨c, rfl, h2⟩⟩
  · exact ⟨45, _, wr_n, Or.inr (Or.inl ⟨⟨l, rfl⟩, rfl⟩)⟩
  · exact ⟨k, _, wr_q hk, Or.inr (Or.inr (Or.inl ⟨k, l, rfl, rfl, hk⟩))⟩
  · exact ⟨40, _, by rw [wr_l hk, if_pos rfl]; rfl, Or.inr (Or.inr (Or.inr ⟨⟨k, l, rfl, hk⟩, rfl⟩))⟩
theorem up_all : ∀ f q, (wf 0 q f → UP q f) ∧ (wf 1 q f → UB q f) := by
  refine fm_ind (P := UP) (B := UB) ?_ ?_ ?_ ?_ ?_ ?_
  · intro q c hq ok sg sg' g r s hg h
    obtain ⟨x, t, h1, h2⟩ := wa_h ok
    obtain ⟨x', t', k1, k2⟩ := wr_h (sg := sg') hg
    have hx : x = x' := by
      have h : wa c ++ r = _ := h
      rw [h1, k1] at h
      exact (List.cons.inj h).1
    subst hx
    rcases k2 with ⟨c', rfl, -⟩ | ⟨-, z⟩ | ⟨k, l, -, z, zk⟩ | ⟨-, z⟩
    · have := wa_inj hq ok hg.2.2 h
      exact ⟨by rw [this.1], this.2⟩
    · omega
    · omega
    · omega
  · intro q l hl ih sg sg' g r s hg h
    rw [wr_n] at h
    obtain ⟨x', t', k1, k2⟩ := wr_h (sg := sg') hg
    have hx : 45 = x' := by rw [k1] at h; exact (List.cons.inj h).1
    subst hx
    rcases k2 with ⟨c', rfl, z⟩ | ⟨⟨l', rfl⟩, z⟩ | ⟨k, l, -, z, zk⟩ | ⟨-, z⟩
    · omega
    · rw [wr_n] at h
      have hl' : wf 0 q l' := by simp only [wf] at hg; rw [if_neg (by decide)] at hg; exact hg.2.2
      obtain ⟨a1, a2⟩ := ih sg sg' l' r s hl' (List.cons.inj h).2
      exact ⟨by rw [a1], a2⟩
    · omega
    · omega
  · intro q k l hk hq hl ih sg sg' g r s hg h
    rw [wr_q hk] at h
    obtain ⟨x', t', k1, k2⟩ := wr_h (sg := sg') hg
    have hx : k = x' := by rw [k1] at h; exact (List.cons.inj h).1
    subst hx
    rcases k2 with ⟨c', rfl, z⟩ | ⟨⟨l', rfl⟩, z⟩ | ⟨k', l', rfl, rfl, zk⟩ | ⟨-, z⟩
    · omega
    · omega
    · rw [wr_q hk] at h
      have hl' : wf 0 (q + 1) l' := by
        simp only [wf] at hg
        rw [if_neg (by omega), if_neg (by omega), if_pos (hk_Q hk)] at hg
        exact hg.2.2.2
      obtain ⟨a1, a2⟩ := ih sg sg' l' r s hl' (List.cons.inj (List.cons.inj h).2).2
      exact ⟨by rw [a1], a2⟩
    · omega
  · intro q k l hk hl ih sg sg' g r s hg h
    rw [wr_l hk, if_pos rfl, if_pos rfl] at h
    obtain ⟨x', t', k1, k2⟩ := wr_h (sg := sg') hg
    have hx : 40 = x' := by rw [k1] at h; exact (List.cons.inj h).1
    subst hx
    rcases k2 with ⟨c', rfl, z⟩ | ⟨⟨l', rfl⟩, z⟩ | ⟨k', l', rfl, z, zk⟩ | ⟨⟨k', l', rfl, hk'⟩, -⟩
    · omega
    · omega
    · omega
    · rw [wr_l hk', if_pos rfl, if_pos rfl] at h
      have hl' : wf 2 q l' := by
        simp only [wf] at hg
        rw [if_neg (by omega), if_neg (by omega), if_neg (hk_L hk'), if_pos hk'] at hg
        exact hg.2.2
      have h' : wr q true k l ++ 41 :: r = wr q true k' l' ++ 41 :: s := by
        simp only [List.cons_append, List.nil_append, List.append_assoc, List.cons.injEq, true_and] at h
        exact h
      obtain ⟨a1, a2, a3⟩ := ih k k' l' r s hk hk' (wf_21 hl') h'
      obtain ⟨la, lb, hla, -⟩ := wf2_cases hl
      exact ⟨by rw [a1, a3 la lb hla], a2⟩
  · intro q f hf ih k k' g r s hk hk' hg h
    rcases wf1_cases hg with h0 | ⟨a, b, rfl, ha, hb⟩
    · obtain ⟨a1, a2⟩ := ih k k' g _ _ h0 h
      exact ⟨a1, (List.cons.inj a2).2, fun x y e => absurd e (wf0_nb hf x y)⟩
    · rw [wr_c, List.append_assoc] at h
      obtain ⟨-, a2⟩ := ih k k' a _ _ ha h
      have := (List.cons.inj a2).1
      omega
  · intro q l r0 hl hr ih ih2 k k' g r s hk hk' hg h
    rw [wr_c, List.append_assoc] at h
    rcases wf1_cases hg with h0 | ⟨a, b, rfl, ha, hb⟩
    · obtain ⟨-, a2⟩ := ih k k' g _ _ h0 h
      have := (List.cons.inj a2).1
      omega
    · rw [wr_c, List.append_assoc] at h
      obtain ⟨a1, a2⟩ := ih k k' a _ _ ha h
      obtain ⟨b1, b2⟩ := List.cons.inj a2
      obtain ⟨c1, c2, -⟩ := ih2 k k' b r s hk hk' hb b2
      exact ⟨by rw [a1, c1], c2, fun _ _ _ => b1⟩
theorem wr_root {q sg : Nat} {f : Fm} (h : wf 0 q f) : (∃ k l, (k = 38 ∨ k = 124) ∧ f = .branch k l (.leaf 0) ∧ wf 2 q l ∧ wr q false sg f = wr q true k l) ∨ (wr q false sg f = wr q true sg f ∧ ∀ k l, f = .branch k l (.leaf 0) → ¬ (k = 38 ∨ k = 124)) := by
  rcases wf0_cases h with ⟨c, rfl, ok⟩ | ⟨l, rfl, hl⟩ | ⟨k, l, hk, rfl, hl⟩ | ⟨k, l, hk, rfl, hl⟩
  · exact Or.inr ⟨rfl, fun k l e => nomatch e⟩
  · exact Or.inr ⟨by rw [wr_n, wr_n], fun k l e => by cases e; decide⟩
  · exact Or.inr ⟨by rw [wr_q hk, wr_q hk], fun k l e => by cases e; omega⟩
  · exact Or.inl ⟨k, l, hk, rfl, hl, by rw [wr_l hk, if_neg (by decide), if_neg (by decide), List.append_nil]; rfl⟩
theorem wr_inj {f g : Fm} (hf : wf 0 0 f) (hg : wf 0 0 g) (h : wr 0 false 0 f = wr 0 false 0 g) : f = g := by
  rcases wr_root (sg := 0) hf with ⟨k, l, hk, rfl, hl, e1⟩ | ⟨e1, n1⟩ <;> rcases wr_root (sg := 0) hg with ⟨k', l', hk', rfl, hl', e2⟩ | ⟨e2, n2⟩
  · rw [e1, e2] at h
    obtain ⟨a, b, hab, -⟩ := wf2_cases hl
    obtain ⟨a1, a2, a3⟩ := (up_all l 0).2 (wf_21 hl) k k' l' [] [] hk hk' (wf_21 hl') (by rw [h])
    rw [a1, a3 a b hab]
  · rw [e1, e2] at h
    obtain ⟨a, b, rfl, ha, hb⟩ := wf2_cases hl
    rw [wr_c] at h
    have := ((up_all a 0).1 ha k 0 g (k :: wr 0 true k b) [] hg (by rw [List.append_nil]; exact h)).2
    cases this
  · rw [e1, e2] at h
    obtain ⟨a, b, rfl, ha, hb⟩ := wf2_cases hl'
    rw [wr_c] at h
    have := ((up_all f 0).1 hf 0 k' a [] (k' :: wr 0 true k' b) ha (by rw [List.append_nil]; exact h)).2
    cases this
  · rw [e1, e2] at h
    exact ((up_all f 0).1 hf 0 0 g [] [] hg (by rw [h])).1
