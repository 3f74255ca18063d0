/-! READING: what the parser's trees are. -/
theorem rmap_r {α β : Type} {r : Rs α} {g : α → Nat → Rs β} {b : β} {p : Nat} (h : rmap r g = .inr (b, p)) : ∃ a p1, r = .inr (a, p1) ∧ g a p1 = .inr (b, p) := by
  cases r with
  | inl w => cases h
  | inr x => exact ⟨x.1, x.2, rfl, h⟩
/-- what is known of a part read from p on -/
def RO (t : Tp) (s q : Nat) (p : Nat) (f : Fm) (p' : Nat) : Prop := p' ≤ t.1 ∧ wf 0 q f ∧ p + sz f ≤ p' ∧ (∀ sg, p + (wr q true sg f).length ≤ p') ∧ dp f ≤ 2 * (12 - s)
def RF (t : Tp) (s q : Nat) (p : Nat) (f : Fm) (p' : Nat) : Prop := p' ≤ t.1 ∧ wf 0 q f ∧ p + sz f ≤ p' ∧ (∀ sg, p + (wr q false sg f).length ≤ p') ∧ dp f ≤ 2 * (12 - s) + 1
section PZ
variable {t : Tp} {q s : Nat} {ow : Nat → Nat}
theorem pb_lt {p : Nat} (h : pb t p < 256) : sk t p < t.1 := tb_lt h
theorem pOwn_ok {p a p' : Nat} (hq : ∀ j, ow j ≤ q) (h : pOwn t ow p = .inr (a, p')) : 1 ≤ a ∧ a ≤ q ∧ p + 1 ≤ p' ∧ p' ≤ t.1 := by
  unfold pOwn at h
  split at h
  · rename_i hc
    have := pb_lt (t := t) (p := p) (by omega)
    have hs := (sk_ge (t := t) (p := p)).1
    cases h
    exact ⟨by omega, hq _, by omega, by omega⟩
  · cases h
theorem wr_leaf {c sg : Nat} {ip : Bool} : wr q ip sg (.leaf c) = wa c := rfl
theorem pAtom_ok {p p' : Nat} {f : Fm} (hq8 : q ≤ 8) (hq : ∀ j, ow j ≤ q) (h : pAtom t ow p = .inr (f, p')) : RO t s q p f p' := by
  have hs := (sk_ge (t := t) (p := p)).1
  unfold pAtom at h
  by_cases h1 : pb t p = 69 ∨ pb t p = 61
  · rw [if_pos h1] at h
    obtain ⟨a, p1, h2, h3⟩ := rmap_r h
    obtain ⟨b, p2, h4, h5⟩ := rmap_r h3
    obtain ⟨a1, a2, a3, a4⟩ := pOwn_ok hq h2
    obtain ⟨b1, b2, b3, b4⟩ := pOwn_ok hq h4
    cases h5
    refine ⟨b4, ⟨by decide, hq8, Or.inr (Or.inl ⟨_, a, b, h1, a1, a2, b1, b2, rfl⟩)⟩, by show p + 1 ≤ p'; omega, fun sg => ?_, Nat.zero_le _⟩
    rw [wr_leaf]
    rcases wa_is hq8 (show aok q (pb t p + 256 * a + 4096 * b) from Or.inr (Or.inl ⟨_, a, b, h1, a1, a2, b1, b2, rfl⟩)) with ⟨s1, a', -, -, hw⟩ | ⟨s1, a', b', -, -, hw⟩ | ⟨-, hw⟩ | ⟨-, hw⟩ <;> rw [hw] <;> simp only [List.length_cons, List.length_nil] <;> omega
  · rw [if_neg h1] at h
    by_cases h2 : pb t p = 65 ∨ pb t p = 66
    · rw [if_pos h2] at h
      obtain ⟨a, p1, h3, h4⟩ := rmap_r h
      obtain ⟨a1, a2, a3, a4⟩ := pOwn_ok hq h3
      cases h4
      have ok : aok q (pb t p + 256 * a) := Or.inl ⟨_, a, h2, a1, a2, rfl⟩
      refine ⟨a4, ⟨by decide, hq8, ok⟩, by show p + 1 ≤ p'; omega, fun sg => ?_, Nat.zero_le _⟩
      have z1 : aS (pb t p + 256 * a) = pb t p := by unfold aS; omega
      have z2 : aA (pb t p + 256 * a) = a := by unfold aA; omega
      have z3 : aB (pb t p + 256 * a) = 0 := by unfold aB; omega
      rw [wr_leaf]
      unfold wa
      rw [z1, z2, z3, if_neg (by omega), if_pos rfl]
      show p + 2 ≤ p'
      omega
    · rw [if_neg h2] at h
      by_cases h3 : pb t p = 84 ∨ pb t p = 70
      · rw [if_pos h3] at h
        have := pb_lt (t := t) (p := p) (by omega)
        cases h
        refine ⟨by omega, ⟨by decide, hq8, Or.inr (Or.inr h3)⟩, by show p + 1 ≤ _; omega, fun sg => ?_, Nat.zero_le _⟩
        rw [wr_leaf]
        rcases h3 with h3 | h3 <;> rw [h3] <;> (show p + 1 ≤ _; omega)
      · rw [if_neg h3] at h; cases h
theorem wr_tf {f : Fm} (h : wf 0 q f) (sg : Nat) : (wr q true sg f).length ≤ (wr q false sg f).length + 2 := by
  rcases wf0_cases h with ⟨c, rfl, ok⟩ | ⟨l, rfl, hl⟩ | ⟨k, l, hk, rfl, hl⟩ | ⟨k, l, hk, rfl, hl⟩
  · rw [wr_leaf, wr_leaf]; omega
  · rw [wr_n, wr_n]; omega
  · rw [wr_q hk, wr_q hk]; omega
  · rw [wr_l hk, wr_l hk]; simp
theorem wr_ft {f : Fm} (h : wf 0 q f) (sg : Nat) : (wr q false sg f).length ≤ (wr q true sg f).length := by
  rcases wf0_cases h with ⟨c, rfl, ok⟩ | ⟨l, rfl, hl⟩ | ⟨k, l, hk, rfl, hl⟩ | ⟨k, l, hk, rfl, hl⟩
  · rw [wr_leaf, wr_leaf]; omega
  · rw [wr_n, wr_n]; omega
  · rw [wr_q hk, wr_q hk]; omega
  · rw [wr_l hk, wr_l hk]; simp; omega
theorem pList_ok {rec_ : Nat → Rs Fm} {c : Nat} (hr : ∀ p f p', rec_ p = .inr (f, p') → RO t s q p f p') : ∀ (n p : Nat) (r : Fm) (p' : Nat), pList t rec_ c n p = .inr (r, p') → p' ≤ t.1 ∧ wf 1 q r ∧ p + 1 + sz r ≤ p' ∧ (p + 1 + (wr q true c r).length ≤ p') ∧ dp r ≤ 2 * (12 - s)
  | 0, p, r, p', h => by cases h
  | n + 1, p, r, p', h => by
    have hs := (sk_ge (t := t) (p := p)).1
    rw [pList] at h
    obtain ⟨f, p1, h1, h2⟩ := rmap_r h
    obtain ⟨a1, a2, a3, a4, a5⟩ := hr _ f p1 h1
    have a4 := a4 c
    by_cases hc : pb t p1 = c
    · rw [if_pos hc] at h2
      obtain ⟨r', p2, h3, h4⟩ := rmap_r h2
      obtain ⟨b1, b2, b3, b4, b5⟩ := pList_ok hr n p1 r' p2 h3
      cases h4
      refine ⟨b1, ?_, by rw [sz_c]; omega, by rw [wr_c, List.length_append, List.length_cons]; omega, by rw [dp_c]; omega⟩
      simp only [wf]
      exact ⟨by decide, a2, b2⟩
    · rw [if_neg hc] at h2
      cases h2
      exact ⟨a1, wf_01 a2, by omega, by omega, a5⟩
theorem pForm_ok {rec_ : Nat → Rs Fm} (hr : ∀ p f p', rec_ p = .inr (f, p') → RO t s q p f p') {p p' : Nat} {f : Fm} (h : pForm t rec_ p = .inr (f, p')) : RF t s q p f p' := by
  unfold pForm at h
  obtain ⟨g, p1, h1, h2⟩ := rmap_r h
  obtain ⟨a1, a2, a3, a4, a5⟩ := hr p g p1 h1
  by_cases hc : pb t p1 = 38 ∨ pb t p1 = 124
  · rw [if_pos hc] at h2
    obtain ⟨r, p2, h3, h4⟩ := rmap_r h2
    obtain ⟨b1, b2, b3, b4, b5⟩ := pList_ok hr 801 p1 r p2 h3
    cases h4
    have a4 := a4 (pb t p1)
    have hb : wf 2 q (.branch 0 g r) := by simp only [wf]; exact ⟨by decide, a2, b2⟩
    refine ⟨b1, ?_, ?_, fun sg => ?_, ?_⟩
    · simp only [wf]
      rw [if_neg (by omega), if_neg (by omega), if_neg (hk_L hc), if_pos hc]
      exact ⟨by decide, trivial, hb⟩
    · rw [sz_u (by omega), sz_c]; omega
    · rw [wr_l hc, if_neg (by decide), if_neg (by decide), List.append_nil, List.nil_append, wr_c, List.length_append, List.length_cons]; omega
    · rw [dp_u (by omega), dp_c]; omega
  · rw [if_neg hc] at h2
    cases h2
    exact ⟨a1, a2, a3, fun sg => by have := wr_ft a2 sg; have := a4 sg; omega, by omega⟩
theorem pPart_ok : ∀ (n s q : Nat) (ow : Nat → Nat) (p : Nat) (f : Fm) (p' : Nat), q ≤ 8 → (∀ j, ow j ≤ q) → s ≤ 12 → pPart t n s q ow p = .inr (f, p') → RO t s q p f p'
  | 0, s, q, ow, p, f, p', _, _, _, h => by cases h
  | n + 1, s, q, ow, p, f, p', hq8, hq, hs12, h => by
    have hs := (sk_ge (t := t) (p := p)).1
    rw [pPart] at h
    by_cases h1 : isQ (pb t p) = true
    · rw [if_pos h1] at h
      have hk : pb t p = 64 ∨ pb t p = 63 := by simpa [isQ] using h1
      by_cases h2 : 12 ≤ s ∨ 8 ≤ q
      · rw [if_pos h2] at h; cases h
      · rw [if_neg h2] at h
        by_cases h3 : 97 ≤ pb t (sk t p + 1) ∧ pb t (sk t p + 1) ≤ 104
        · rw [if_pos h3] at h
          obtain ⟨g, p1, h4, h5⟩ := rmap_r h
          have hs2 := (sk_ge (t := t) (p := sk t p + 1)).1
          obtain ⟨a1, a2, a3, a4, a5⟩ := pPart_ok n (s + 1) (q + 1) _ _ g p1 (by omega) (fun j => by
            unfold up1
            split
            · omega
            · have := hq j; omega) (by omega) h4
          cases h5
          refine ⟨a1, ?_, by rw [sz_u (by omega)]; omega, fun sg => by rw [wr_q hk, List.length_cons, List.length_cons]; have := a4 sg; omega, by rw [dp_u (by omega)]; omega⟩
          simp only [wf]
          rw [if_neg (by omega), if_neg (by omega), if_pos h1]
          exact ⟨by decide, trivial, by omega, a2⟩
        · rw [if_neg h3] at h; cases h
    · rw [if_neg h1] at h
      by_cases h2 : pb t p = 45
      · rw [if_pos h2] at h
        by_cases h3 : 12 ≤ s
        · rw [if_pos h3] at h; cases h
        · rw [if_neg h3] at h
          obtain ⟨g, p1, h4, h5⟩ := rmap_r h
          obtain ⟨a1, a2, a3, a4, a5⟩ := pPart_ok n (s + 1) q ow _ g p1 hq8 hq (by omega) h4
          cases h5
          refine ⟨a1, ?_, by rw [sz_u (by decide)]; omega, fun sg => by rw [wr_n, List.length_cons]; have := a4 sg; omega, by rw [dp_u (by decide)]; omega⟩
          simp only [wf]
          rw [if_neg (by decide)]
          exact ⟨by decide, trivial, a2⟩
      · rw [if_neg h2] at h
        by_cases h3 : pb t p = 40
        · rw [if_pos h3] at h
          by_cases h4 : 12 ≤ s
          · rw [if_pos h4] at h; cases h
          · rw [if_neg h4] at h
            obtain ⟨g, p1, h5, h6⟩ := rmap_r h
            obtain ⟨a1, a2, a3, a4, a5⟩ := pForm_ok (s := s + 1) (q := q) (fun p f p' hh => pPart_ok n (s + 1) q ow p f p' hq8 hq (by omega) hh) h5
            have hs2 := (sk_ge (t := t) (p := p1)).1
            by_cases h7 : pb t p1 = 41
            · rw [if_pos h7] at h6
              have := pb_lt (t := t) (p := p1) (by omega)
              cases h6
              exact ⟨by omega, a2, by omega, fun sg => by have := wr_tf a2 sg; have := a4 sg; omega, by omega⟩
            · rw [if_neg h7] at h6; cases h6
        · rw [if_neg h3] at h
          exact pAtom_ok hq8 hq h
/-- a text that is read -/
theorem pText_ok {f : Fm} (h : pText t = .inr f) : wf 0 0 f ∧ sz f ≤ t.1 ∧ (tx f).length ≤ t.1 ∧ dp f ≤ 25 := by
  unfold pText at h
  cases hf : pForm t (pPart t 13 0 0 (fun _ => 0)) 0 with
  | inl w => rw [hf] at h; cases h
  | inr x =>
    obtain ⟨g, p⟩ := x
    rw [hf] at h
    obtain ⟨a1, a2, a3, a4, a5⟩ := pForm_ok (s := 0) (q := 0) (fun p f p' hh => pPart_ok 13 0 0 _ p f p' (by decide) (fun _ => Nat.le_refl _) (by decide) hh) hf
    have h' : (if pb t p = 256 then Sum.inr g else Sum.inl (sk t p) : Sum Nat Fm) = .inr f := h
    split at h'
    · cases h'
      have := a4 0
      exact ⟨a2, by omega, by unfold tx; omega, by omega⟩
    · cases h'
end PZ
