/-! PARTINGS: no two formulas have one row of nodes; the class looks whether a part stands earlier. -/
theorem aok_m {q c : Nat} (hq : q ≤ 8) (h : aok q c) : c < 65536 ∧ (c % 256 = 65 ∨ c % 256 = 66 ∨ c % 256 = 69 ∨ c % 256 = 61 ∨ c % 256 = 84 ∨ c % 256 = 70) := by
  rcases h with ⟨s, a, hs, h1, h2, rfl⟩ | ⟨s, a, b, hs, h1, h2, h3, h4, rfl⟩ | rfl | rfl <;> omega
/-- the code at the head -/
def hdc (q : Nat) : Fm → Nat
  | .leaf c => c + 65536
  | .branch k l _ => if isQ k = true then k + 256 * (q + 1) + 65536 * (sz l + 1) else k + 65536 * (sz l + 1)
theorem Nx_hdc {g : Nat → Int32} {q p : Nat} {f : Fm} (h : wf 0 q f) (n : Nx g p q f) : g p = nI (hdc q f) := by
  rcases wf0_cases h with ⟨c, rfl, ok⟩ | ⟨l, rfl, hl⟩ | ⟨k, l, hk, rfl, hl⟩ | ⟨k, l, hk, rfl, hl⟩
  · exact n
  · rw [Nx_n] at n; rw [n.1, hdc, if_neg (by decide)]
  · rw [Nx_q hk] at n; rw [n.1, hdc, if_pos (hk_Q hk)]
  · rw [Nx_l hk] at n; rw [n.1, hdc, if_neg (hk_L hk)]
theorem hdc_lt {q : Nat} {f : Fm} (h : wf 0 q f) (h8 : sz f ≤ 800) : hdc q f < 2 ^ 31 := by
  have hq := wf_q f 0 q h
  rcases wf0_cases h with ⟨c, rfl, ok⟩ | ⟨l, rfl, hl⟩ | ⟨k, l, hk, rfl, hl⟩ | ⟨k, l, hk, rfl, hl⟩
  · have := (aok_m hq ok).1; rw [hdc]; omega
  · rw [sz_u (by decide)] at h8; rw [hdc, if_neg (by decide)]; omega
  · rw [sz_u (by omega)] at h8; rw [hdc, if_pos (hk_Q hk)]; omega
  · rw [sz_u (by omega)] at h8; rw [hdc, if_neg (hk_L hk)]; omega
/-- what the head's code tells -/
theorem hdc_inj {q : Nat} {f f' : Fm} (h : wf 0 q f) (h' : wf 0 q f') (e : hdc q f = hdc q f') : (∃ c, f = .leaf c ∧ f' = .leaf c) ∨ (∃ l l', f = .branch 45 l (.leaf 0) ∧ f' = .branch 45 l' (.leaf 0) ∧ sz l = sz l' ∧ wf 0 q l ∧ wf 0 q l') ∨ (∃ k l l', (k = 64 ∨ k = 63) ∧ f = .branch k l (.leaf 0) ∧ f' = .branch k l' (.leaf 0) ∧ sz l = sz l' ∧ wf 0 (q + 1) l ∧ wf 0 (q + 1) l') ∨ (∃ k l l', (k = 38 ∨ k = 124) ∧ f = .branch k l (.leaf 0) ∧ f' = .branch k l' (.leaf 0) ∧ sz l = sz l' ∧ wf 2 q l ∧ wf 2 q l') := by
  have hq := wf_q f 0 q h
  rcases wf0_cases h with ⟨c, rfl, ok⟩ | ⟨l, rfl, hl⟩ | ⟨k, l, hk, rfl, hl⟩ | ⟨k, l, hk, rfl, hl⟩ <;> rcases wf0_cases h' with ⟨c', rfl, ok'⟩ | ⟨l', rfl, hl'⟩ | ⟨k', l', hk', rfl, hl'⟩ | ⟨k', l', hk', rfl, hl'⟩ <;> simp only [hdc] at e
  · exact Or.inl ⟨c, rfl, by rw [show c' = c by omega]⟩
  · have := aok_m hq ok; rw [if_neg (by decide)] at e; omega
  · have := aok_m hq ok; rw [if_pos (hk_Q hk')] at e; omega
  · have := aok_m hq ok; rw [if_neg (hk_L hk')] at e; omega
  · have := aok_m hq ok'; rw [if_neg (by decide)] at e; omega
  · rw [if_neg (by decide), if_neg (by decide)] at e
    exact Or.inr (Or.inl ⟨l, l', rfl, rfl, by omega, hl, hl'⟩)
  · rw [if_neg (by decide), if_pos (hk_Q hk')] at e; omega
  · rw [if_neg (by decide), if_neg (hk_L hk')] at e; omega
  · have := aok_m hq ok'; rw [if_pos (hk_Q hk)] at e; omega
  · rw [if_pos (hk_Q hk), if_neg (by decide)] at e; omega
  · rw [if_pos (hk_Q hk), if_pos (hk_Q hk')] at e
    have hkk : k' = k := by omega
    subst hkk
    exact Or.inr (Or.inr (Or.inl ⟨k', l, l', hk, rfl, rfl, by omega, hl.2, hl'.2⟩))
  · rw [if_pos (hk_Q hk), if_neg (hk_L hk')] at e; omega
  · have := aok_m hq ok'; rw [if_neg (hk_L hk)] at e; omega
  · rw [if_neg (hk_L hk), if_neg (by decide)] at e; omega
  · rw [if_neg (hk_L hk), if_pos (hk_Q hk')] at e; omega
  · rw [if_neg (hk_L hk), if_neg (hk_L hk')] at e
    have hkk : k' = k := by omega
    subst hkk
    exact Or.inr (Or.inr (Or.inr ⟨k', l, l', hk, rfl, rfl, by omega, hl, hl'⟩))
theorem Nx_inj (g g' : Nat → Int32) : ∀ f q, (wf 0 q f → ∀ f' p p', wf 0 q f' → sz f ≤ 800 → sz f' ≤ 800 → Nx g p q f → Nx g' p' q f' → (∀ i, i < sz f' → g (p + i) = g' (p' + i)) → f = f') ∧ (wf 1 q f → ∀ f' p p', wf 1 q f' → sz f = sz f' → sz f' ≤ 800 → Nx g p q f → Nx g' p' q f' → (∀ i, i < sz f' → g (p + i) = g' (p' + i)) → f = f') := by
  have hd : ∀ q f f' p p', wf 0 q f → wf 0 q f' → sz f ≤ 800 → sz f' ≤ 800 → Nx g p q f → Nx g' p' q f' → (∀ i, i < sz f' → g (p + i) = g' (p' + i)) → hdc q f = hdc q f' := by
    intro q f f' p p' h h' h8 h8' n n' e
    have z := e 0 (sz_pos f')
    rw [Nat.add_zero, Nat.add_zero, Nx_hdc h n, Nx_hdc h' n'] at z
    exact (nI_eq (hdc_lt h h8) (hdc_lt h' h8')).mp z
  refine fm_ind (P := fun q f => ∀ f' p p', wf 0 q f' → sz f ≤ 800 → sz f' ≤ 800 → Nx g p q f → Nx g' p' q f' → (∀ i, i < sz f' → g (p + i) = g' (p' + i)) → f = f') (B := fun q f => ∀ f' p p', wf 1 q f' → sz f = sz f' → sz f' ≤ 800 → Nx g p q f → Nx g' p' q f' → (∀ i, i < sz f' → g (p + i) = g' (p' + i)) → f = f') ?_ ?_ ?_ ?_ ?_ ?_
  · intro q c hq ok f' p p' h' h8 h8' n n' e
    have w : wf 0 q (.leaf c) := ⟨by decide, hq, ok⟩
    rcases hdc_inj w h' (hd q _ f' p p' w h' h8 h8' n n' e) with ⟨c1, e1, e2⟩ | ⟨l, l', e1, _⟩ | ⟨k, l, l', _, e1, _⟩ | ⟨k, l, l', _, e1, _⟩
    · rw [e1, e2]
    · cases e1
    · cases e1
    · cases e1
  · intro q l hl ih f' p p' h' h8 h8' n n' e
    have w : wf 0 q (.branch 45 l (.leaf 0)) := by simp only [wf]; rw [if_neg (by decide)]; exact ⟨by decide, trivial, hl⟩
    rcases hdc_inj w h' (hd q _ f' p p' w h' h8 h8' n n' e) with ⟨c1, e1, e2⟩ | ⟨l1, l', e1, e2, e3, e4, e5⟩ | ⟨k, l1, l', hk, e1, _⟩ | ⟨k, l1, l', hk, e1, _⟩
    · cases e1
    · cases e1
      subst e2
      rw [Nx_n] at n n'
      rw [sz_u (by decide)] at h8 h8' e
      rw [ih l' (p + 1) (p' + 1) e5 (by omega) (by omega) n.2 n'.2 (fun i hi => by rw [Nat.add_assoc, Nat.add_assoc]; exact e _ (by omega))]
    · cases e1; omega
    · cases e1; omega
  · intro q k l hk hq hl ih f' p p' h' h8 h8' n n' e
    have w : wf 0 q (.branch k l (.leaf 0)) := by simp only [wf]; rw [if_neg (by omega), if_neg (by omega), if_pos (hk_Q hk)]; exact ⟨by decide, trivial, hq, hl⟩
    rcases hdc_inj w h' (hd q _ f' p p' w h' h8 h8' n n' e) with ⟨c1, e1, e2⟩ | ⟨l1, l', e1, _⟩ | ⟨k1, l1, l', hk1, e1, e2, e3, e4, e5⟩ | ⟨k1, l1, l', hk1, e1, _⟩
    · cases e1
    · cases e1; omega
    · cases e1
      subst e2
      rw [Nx_q hk] at n n'
      rw [sz_u (by omega)] at h8 h8' e
      rw [ih l' (p + 1) (p' + 1) e5 (by omega) (by omega) n.2 n'.2 (fun i hi => by rw [Nat.add_assoc, Nat.add_assoc]; exact e _ (by omega))]
    · cases e1; omega
  · intro q k l hk hl ih f' p p' h' h8 h8' n n' e
    have w : wf 0 q (.branch k l (.leaf 0)) := by simp only [wf]; rw [if_neg (by omega), if_neg (by omega), if_neg (hk_L hk), if_pos hk]; exact ⟨by decide, trivial, hl⟩
    rcases hdc_inj w h' (hd q _ f' p p' w h' h8 h8' n n' e) with ⟨c1, e1, e2⟩ | ⟨l1, l', e1, _⟩ | ⟨k1, l1, l', hk1, e1, _⟩ | ⟨k1, l1, l', hk1, e1, e2, e3, e4, e5⟩
    · cases e1
    · cases e1; omega
    · cases e1; omega
    · cases e1
      subst e2
      rw [Nx_l hk] at n n'
      rw [sz_u (by omega)] at h8 h8' e
      rw [ih l' (p + 1) (p' + 1) (wf_21 e5) e3 (by omega) n.2 n'.2 (fun i hi => by rw [Nat.add_assoc, Nat.add_assoc]; exact e _ (by omega))]
  · intro q f hf ih f' p p' h' hs h8 n n' e
    cases f' with
    | leaf c => exact ih _ p p' ⟨by decide, h'.2⟩ (by omega) h8 n n' e
    | branch k l r =>
      by_cases h0 : k = 0
      · subst h0
        simp only [wf] at h'
        rw [Nx_c] at n'
        rw [sz_c] at hs h8 e
        have hr := sz_pos r
        have z := ih l p p' h'.2.1 (by omega) (by omega) n n'.1 (fun i hi => e i (by omega))
        rw [z] at hs
        omega
      · have w' : wf 0 q (.branch k l r) := by
          simp only [wf] at h' ⊢
          rw [if_neg h0] at h' ⊢
          exact ⟨by decide, h'.2⟩
        exact ih _ p p' w' (by omega) h8 n n' e
  · intro q l r hl hr ih ih2 f' p p' h' hs h8 n n' e
    rw [Nx_c] at n
    rw [sz_c] at hs
    have hrp := sz_pos r
    have one : ∀ f0, wf 0 q f0 → sz l + sz r = sz f0 → Nx g' p' q f0 → (∀ i, i < sz f0 → g (p + i) = g' (p' + i)) → sz f0 ≤ 800 → False := by
      intro f0 h0 hs0 n0 e0 h80
      have z := ih f0 p p' h0 (by omega) h80 n.1 n0 (fun i hi => e0 i hi)
      rw [z] at hs0
      omega
    cases f' with
    | leaf c =>
      have w : wf 0 q (.leaf c) := ⟨by decide, h'.2⟩
      exact absurd (one _ w hs n' e h8) id
    | branch k l' r' =>
      by_cases h0 : k = 0
      · subst h0
        simp only [wf] at h'
        rw [Nx_c] at n'
        rw [sz_c] at hs h8 e
        have z := ih l' p p' h'.2.1 (by omega) (by omega) n.1 n'.1 (fun i hi => e i (by omega))
        subst z
        rw [ih2 r' (p + sz l) (p' + sz l) h'.2.2 (by omega) (by omega) n.2 n'.2 (fun i hi => by rw [Nat.add_assoc, Nat.add_assoc]; exact e _ (by omega))]
      · have w' : wf 0 q (.branch k l' r') := by
          simp only [wf] at h' ⊢
          rw [if_neg h0] at h' ⊢
          exact ⟨by decide, h'.2⟩
        exact absurd (one _ w' hs n' e h8) id
/-- a row of formulas from p on -/
def NxL (g : Nat → Int32) (q : Nat) : Nat → List Fm → Prop
  | _, [] => True
  | p, f :: fs => Nx g p q f ∧ NxL g q (p + sz f) fs
theorem szL_c {f : Fm} {fs : List Fm} : szL (f :: fs) = sz f + szL fs := by unfold szL; simp
theorem szL_a {f : Fm} {fs : List Fm} : szL (fs ++ [f]) = szL fs + sz f := by unfold szL; simp
theorem NxL_congr {g g' : Nat → Int32} {q : Nat} : ∀ (fs : List Fm) (p p' : Nat), (∀ i, i < szL fs → g' (p' + i) = g (p + i)) → NxL g q p fs → NxL g' q p' fs
  | [], _, _, _, _ => trivial
  | f :: fs, p, p', e, h => by
    rw [szL_c] at e
    exact ⟨Nx_congr f p p' q (fun i hi => e i (by omega)) h.1, NxL_congr fs (p + sz f) (p' + sz f) (fun i hi => by rw [Nat.add_assoc, Nat.add_assoc]; exact e _ (by omega)) h.2⟩
theorem NxL_app {g : Nat → Int32} {q : Nat} {f : Fm} : ∀ (fs : List Fm) (p : Nat), NxL g q p fs → Nx g (p + szL fs) q f → NxL g q p (fs ++ [f])
  | [], p, _, h => ⟨h, trivial⟩
  | x :: fs, p, h, k => by
    rw [szL_c, ← Nat.add_assoc] at k
    exact ⟨h.1, NxL_app fs (p + sz x) h.2 k⟩
theorem NxL_tr {g : Nat → Int32} {q : Nat} : ∀ (fs : List Fm) (p : Nat), fs ≠ [] → NxL g q p fs → Nx g p q (tr fs)
  | [], _, h, _ => absurd rfl h
  | [f], p, _, h => h.1
  | f :: x :: fs, p, _, h => by
    rw [tr_2, Nx_c]
    exact ⟨h.1, NxL_tr (x :: fs) (p + sz f) (by simp) h.2⟩
section XE
variable {M : jM} {q : Nat}
theorem like_l (h : Sh M) {part last many : Nat} (h8 : last + many ≤ 800) (hp : part ≤ last) : ∀ (F i : Nat), i ≤ many → many - i < F → (∀ j, j < i → rI M 33 (part + j) = rI M 33 (last + j)) → ∃ b, l_X4_isLike_40 F 32 (nI part) (nI last) (nI many) (nI i) M = some (bI b, M) ∧ (b = true ↔ ∀ j, j < many → rI M 33 (part + j) = rI M 33 (last + j)) := by
  intro F
  induction F with
  | zero => intro i _ z; omega
  | succ F ih =>
    intro i hi hF hj
    show ∃ b, b_X4_isLike_40 (l_X4_isLike_40 F) 32 (nI part) (nI last) (nI many) (nI i) M = _ ∧ _
    unfold b_X4_isLike_40
    by_cases hm : many ≤ i
    · have : i = many := by omega
      subst this
      rw [if_pos (nI_le hm (by omega))]
      exact ⟨true, rfl, fun _ => hj, fun _ => rfl⟩
    · rw [if_neg (nI_ge (by omega) (by omega)), q32_0 h, Option.bind_some, nI_add, ldI_n (t33 h) (by omega) (by decide), Option.bind_some, Option.bind_some, nI_add, ldI_n (t33 h) (by omega) (by decide), Option.bind_some]
      by_cases he : rI M 33 (part + i) = rI M 33 (last + i)
      · rw [if_pos he, nI_add]
        exact ih (i + 1) (by omega) (by omega) (fun j hj2 => by
          by_cases hji : j = i
          · rw [hji]; exact he
          · exact hj j (by omega))
      · rw [if_neg he]
        exact ⟨false, rfl, fun z => absurd z (by decide), fun z => absurd (z i (by omega)) he⟩
theorem x_nlike (h : Sh M) {part last many : Nat} (hc : rI M 32 1 = nI (last + many)) (h8 : last + many ≤ 800) (hp : part ≤ last) : ∃ b, f_X4_isLike 32 (nI part) (nI last) M = some (bI b, M) ∧ (b = true ↔ part + many ≤ last ∧ ∀ j, j < many → rI M 33 (part + j) = rI M 33 (last + j)) := by
  obtain ⟨n0, hn0⟩ := jF_is
  unfold f_X4_isLike
  rw [gI_n (t32 h), Option.bind_some, hc, nI_sb (by omega), Nat.add_sub_cancel_left, jv_b, if_neg (nI_pos (by omega)), if_neg (nI_nlt hp (by omega)), nI_add]
  by_cases hl : part + many ≤ last
  · rw [if_neg (nI_nlt hl (by omega)), Option.bind_some, q32_0 h, Option.bind_some, ln_n (t33 h) (by decide) (by decide), Option.bind_some, if_pos (nI_le h8 (by decide))]
    obtain ⟨b, b1, b2⟩ := like_l h h8 hp jF0 0 (Nat.zero_le _) (by omega) (fun j hj => by omega)
    exact ⟨b, b1, by rw [b2]; exact ⟨fun z => ⟨hl, z⟩, fun z => z.2⟩⟩
  · rw [if_pos (nI_lt (by omega) (by omega))]
    exact ⟨false, rfl, fun z => absurd z (by decide), fun z => absurd z.1 hl⟩
theorem stands_l (h : Sh M) {last : Nat} {f : Fm} (hf : wf 0 q f) (hc : rI M 32 1 = nI (last + sz f)) (h8 : last + sz f ≤ 800) (hN : Nx (rI M 33) last q f) : ∀ (fs : List Fm) (F part : Nat), (∀ x ∈ fs, wf 0 q x) → part + szL fs = last → NxL (rI M 33) q part fs → fs.length < F → ∃ b, l_X4_standsEarlier_20 F 32 (nI last) (nI part) M = some (bI b, M) ∧ (b = true ↔ f ∈ fs) := by
  have hsf := sz_pos f
  intro fs
  induction fs with
  | nil =>
    intro F part _ hp _ hF
    obtain ⟨F, rfl⟩ : ∃ G, F = G + 1 := ⟨F - 1, by have : ([] : List Fm).length = 0 := rfl; omega⟩
    have hp' : part = last := hp
    show ∃ b, b_X4_standsEarlier_20 (l_X4_standsEarlier_20 F) 32 (nI last) (nI part) M = _ ∧ _
    unfold b_X4_standsEarlier_20
    rw [if_pos (nI_le (by omega) (by omega))]
    exact ⟨false, rfl, fun z => absurd z (by decide), fun z => absurd z (by simp)⟩
  | cons x fs ih =>
    intro F part hw hp hL hF
    rw [szL_c] at hp
    rw [List.length_cons] at hF
    obtain ⟨F, rfl⟩ : ∃ G, F = G + 1 := ⟨F - 1, by omega⟩
    have hx := hw x (by simp)
    have hxp := sz_pos x
    obtain ⟨b, b1, b2⟩ := x_nlike h hc h8 (show part ≤ last by omega)
    show ∃ b, b_X4_standsEarlier_20 (l_X4_standsEarlier_20 F) 32 (nI last) (nI part) M = _ ∧ _
    unfold b_X4_standsEarlier_20
    rw [if_neg (nI_ge (by omega) (by omega)), gI_n (t32 h), Option.bind_some, hc, if_neg (nI_ge (by omega) (by omega)), jiv_n (t32 h), b1, jb2_some]
    have hbx : b = true ↔ f = x := by
      rw [b2]
      constructor
      · intro z
        exact ((Nx_inj (rI M 33) (rI M 33) x q).1 hx f part last hf (by omega) (by omega) hL.1 hN z.2).symm
      · intro z
        subst z
        refine ⟨by omega, fun j hj => ?_⟩
        have : ∀ (f : Fm) (q p p' : Nat) (g : Nat → Int32), Nx g p q f → Nx g p' q f → ∀ j, j < sz f → g (p + j) = g (p' + j) := by
          intro f
          induction f with
          | leaf c =>
            intro q p p' g n n' j hj
            have : j = 0 := by have : sz (.leaf c) = 1 := rfl; omega
            subst this
            simp only [Nx] at n n'
            rw [Nat.add_zero, Nat.add_zero, n, n']
          | branch k l r ihl ihr =>
            intro q p p' g n n' j hj
            simp only [Nx] at n n'
            by_cases h0 : k = 0
            · rw [if_pos h0] at n n'
              subst h0
              rw [sz_c] at hj
              by_cases hjl : j < sz l
              · exact ihl q p p' g n.1 n'.1 j hjl
              · have z := ihr q (p + sz l) (p' + sz l) g n.2 n'.2 (j - sz l) (by omega)
                rw [Nat.add_assoc, Nat.add_assoc, Nat.add_sub_cancel' (by omega)] at z
                exact z
            · rw [if_neg h0] at n n'
              rw [sz_u h0] at hj
              by_cases h2 : isQ k = true
              · rw [if_pos h2] at n n'
                cases j with
                | zero => rw [Nat.add_zero, Nat.add_zero, n.1, n'.1]
                | succ j =>
                  have z := ihl (q + 1) (p + 1) (p' + 1) g n.2 n'.2 j (by omega)
                  rw [Nat.add_assoc, Nat.add_assoc, Nat.add_comm 1] at z
                  exact z
              · rw [if_neg h2] at n n'
                cases j with
                | zero => rw [Nat.add_zero, Nat.add_zero, n.1, n'.1]
                | succ j =>
                  have z := ihl q (p + 1) (p' + 1) g n.2 n'.2 j (by omega)
                  rw [Nat.add_assoc, Nat.add_assoc, Nat.add_comm 1] at z
                  exact z
        exact this f q part last (rI M 33) hL.1 hN j hj
    cases b with
    | true =>
      rw [if_neg (by decide)]
      exact ⟨true, rfl, fun _ => by rw [hbx.mp rfl]; simp, fun _ => rfl⟩
    | false =>
      have hne : f ≠ x := fun z => by have := hbx.mpr z; cases this
      obtain ⟨c, c1, c2⟩ := Nx_head (by decide) (fun l r z => by subst z; simp only [wf] at hx; exact absurd rfl hx.1) hx hL.1
      rw [if_pos (show bI false = 0 from rfl), q32_0 h, Option.bind_some, ldI_n (t33 h) (by omega) (by decide), Option.bind_some, c1, n_span hxp (by omega) c2, jb2_some, jv_b, nI_add]
      obtain ⟨b', d1, d2⟩ := ih F (part + sz x) (fun y hy => hw y (by simp [hy])) (by omega) hL.2 (by omega)
      exact ⟨b', d1, by rw [d2]; simp [hne]⟩
theorem x_stands (h : Sh M) {first last : Nat} {f : Fm} {fs : List Fm} (hf : wf 0 q f) (hc : rI M 32 1 = nI (last + sz f)) (h8 : last + sz f ≤ 800) (hN : Nx (rI M 33) last q f) (hw : ∀ x ∈ fs, wf 0 q x) (hp : first + szL fs = last) (hL : NxL (rI M 33) q first fs) (h6 : fs.length ≤ 6) : ∃ b, f_X4_standsEarlier 32 (nI first) (nI last) M = some (bI b, M) ∧ (b = true ↔ f ∈ fs) := by
  obtain ⟨n0, hn0⟩ := jF_is
  unfold f_X4_standsEarlier
  rw [if_neg (nI_pos (by omega)), gI_n (t32 h), Option.bind_some, hc, q32_0 h, Option.bind_some, ln_n (t33 h) (by decide) (by decide), Option.bind_some, if_pos (nI_le h8 (by decide))]
  exact stands_l h hf hc h8 hN fs jF0 first hw hp hL (by omega)
end XE
