/-! PARTINGS: the class parts rows by an atom. -/
theorem ff_s {f : Nat → Bool} {i c : Nat} : ff f i (c + 1) = if f i = true then some i else ff f (i + 1) c := rfl
section XB6
variable {M : jM} {u v : Wd} {r : Rw} {c q f : Nat}
theorem pba_41 (f : Nat) {m : Nat} (hm : m < 3) (N : jM) : j_X5_partByAtom_41 6 32 (nI f) (nI (m + 1)) (bI true) N = some ((), N) := by
  obtain ⟨n0, hn0⟩ := jF_is
  unfold j_X5_partByAtom_41 j_X5_partByAtom_59 j_X5_partByAtom_64 j_X5_partByAtom_84 j_X5_partByAtom_89
  rw [if_neg (by decide), if_neg (by decide)]
  obtain ⟨F, hF⟩ : ∃ F, jF0 = F + 1 := ⟨jF0 - 1, by omega⟩
  rw [hF]
  show b_X5_partByAtom_94 (l_X5_partByAtom_94 F) 6 32 (nI f) (nI (m + 1)) (nI 1) (nI 1) N = _
  unfold b_X5_partByAtom_94
  rw [if_neg (nI_nlt (by omega) (by omega)), if_neg (by decide)]
  rfl
theorem pba_94e {k94 : Nat → Nat → Int32 → Int32 → Int32 → Int32 → jM → jO Unit} (f : Nat) {m n : Nat} (N : jM) : b_X5_partByAtom_94 k94 6 32 (nI f) (nI (m + 1)) (nI 1) (nI n) N = some ((), N) := by
  unfold b_X5_partByAtom_94
  rw [if_neg (show ¬ nI 1 = 0 by decide)]
  split <;> rfl
theorem pba_94 (hS : Sh M) (hu : wwf u) (hv : wwf v) (hr : rv u v r) (h : MS M 6 u v) (mr : MR M 6 r) (hf : f < 2) (hc : rI M 32 1 = nI c) (h8 : c + 2 ≤ 800) {m : Nat} (hm : r.length = m + 1) : ∀ (d n F : Nat), n + d = m + 1 → d + 1 < F → (∃ k, ff (fun n => df (vU f u v) (vU (1 - f) u v) (vR f r) 69 n m || df (vU f u v) (vU (1 - f) u v) (vR f r) 69 m n) n d = some k) → ∃ N, l_X5_partByAtom_94 F 6 32 (nI f) (nI (m + 1)) (nI 0) (nI (n + 1)) M = some ((), N) ∧ XO u v r q c (match ff (fun n => df (vU f u v) (vU (1 - f) u v) (vR f r) 69 n m || df (vU f u v) (vU (1 - f) u v) (vR f r) 69 m n) n d with
      | some n => if df (vU f u v) (vU (1 - f) u v) (vR f r) 69 n m = true then lit (vU f u v) (vR f r) 69 n m else lit (vU f u v) (vR f r) 69 m n
      | none => .leaf 84) M N := by
  have h3 := mr.2.1
  intro d
  induction d with
  | zero => intro n F _ _ h; obtain ⟨k, hk⟩ := h; cases hk
  | succ d ih =>
    intro n F hnd hF hex
    obtain ⟨F, rfl⟩ : ∃ G, F = G + 2 := ⟨F - 2, by omega⟩
    show ∃ N, b_X5_partByAtom_94 (l_X5_partByAtom_94 (F + 1)) 6 32 (nI f) (nI (m + 1)) (nI 0) (nI (n + 1)) M = _ ∧ _
    unfold b_X5_partByAtom_94 j_X5_partByAtom_138 j_X5_partByAtom_133 j_X5_partByAtom_138
    rw [if_neg (nI_nlt (by omega) (by omega)), if_pos (show nI 0 = 0 from rfl)]
    obtain ⟨p1, p2⟩ := x_aip (q := q) hS hu hv hr h mr hf hc h8 (s := 69) (n := n) (k := m) (by simp) (by omega) (by omega) (by omega) rfl (B := nI (m + 1)) (by rw [if_neg (by decide)])
    obtain ⟨p3, p4⟩ := x_aip (q := q) hS hu hv hr h mr hf hc h8 (s := 69) (n := m) (k := n) (by simp) (by omega) (by omega) (by omega) rfl (B := nI (n + 1)) (by rw [if_neg (by decide)])
    rw [ff_s] at hex ⊢
    have nxt : ∀ N, l_X5_partByAtom_94 (F + 1) 6 32 (nI f) (nI (m + 1)) (nI 1) (nI (n + 1) + nI 1) N = some ((), N) := fun N => by
      rw [nI_add]
      exact pba_94e f N
    cases h1 : df (vU f u v) (vU (1 - f) u v) (vR f r) 69 n m with
    | true =>
      obtain ⟨N, n1, n2⟩ := p2 h1
      rw [if_pos (by rfl), n1, jb2_some, if_neg (by decide)]
      dsimp only
      rw [if_pos h1]
      exact ⟨N, nxt N, n2⟩
    | false =>
      rw [p1 h1, jb2_some, if_pos (show bI false = 0 from rfl)]
      cases h2 : df (vU f u v) (vU (1 - f) u v) (vR f r) 69 m n with
      | true =>
        obtain ⟨N, n1, n2⟩ := p4 h2
        rw [if_pos (by rfl), n1, jb2_some, if_neg (by decide)]
        dsimp only
        rw [h1, if_neg (by decide)]
        exact ⟨N, nxt N, n2⟩
      | false =>
        have hz : ¬ ((df (vU f u v) (vU (1 - f) u v) (vR f r) 69 n m || df (vU f u v) (vU (1 - f) u v) (vR f r) 69 m n) = true) := by rw [h1, h2]; decide
        rw [if_neg hz] at hex
        rw [if_neg (show ¬ ((false || false) = true) by decide)]
        rw [p3 h2, jb2_some, if_pos (show bI false = 0 from rfl), nI_add]
        exact ih (n + 1) (F + 1) (by omega) (by omega) hex
theorem pba_11 (hS : Sh M) (hu : wwf u) (hv : wwf v) (hr : rv u v r) (h : MS M 6 u v) (mr : MR M 6 r) (hf : f < 2) (hc : rI M 32 1 = nI c) (h8 : c + 2 ≤ 800) {m : Nat} (hm : r.length = m + 1) : ∀ (d n F : Nat), n + d = m → d + 1 < F → match ff (fun n => df (vU f u v) (vU (1 - f) u v) (vR f r) 61 n m) n d with
      | some k => ∃ N, l_X5_partByAtom_11 F 6 32 (nI f) (nI (m + 1)) (nI 0) (nI (n + 1)) M = some ((), N) ∧ XO u v r q c (lit (vU f u v) (vR f r) 61 k m) M N
      | none => l_X5_partByAtom_11 F 6 32 (nI f) (nI (m + 1)) (nI 0) (nI (n + 1)) M = j_X5_partByAtom_41 6 32 (nI f) (nI (m + 1)) (nI 0) M := by
  have h3 := mr.2.1
  intro d
  induction d with
  | zero =>
    intro n F hnd hF
    obtain ⟨F, rfl⟩ : ∃ G, F = G + 1 := ⟨F - 1, by omega⟩
    show b_X5_partByAtom_11 (l_X5_partByAtom_11 F) 6 32 (nI f) (nI (m + 1)) (nI 0) (nI (n + 1)) M = _
    unfold b_X5_partByAtom_11
    rw [if_pos (nI_le (by omega) (by omega))]
  | succ d ih =>
    intro n F hnd hF
    obtain ⟨F, rfl⟩ : ∃ G, F = G + 2 := ⟨F - 2, by omega⟩
    have un : l_X5_partByAtom_11 (F + 2) 6 32 (nI f) (nI (m + 1)) (nI 0) (nI (n + 1)) M = jb2 (f_X5_addIfParting 6 32 (nI f) (nI 61) (nI (n + 1)) (nI (m + 1)) M) fun x2 M1 => l_X5_partByAtom_11 (F + 1) 6 32 (nI f) (nI (m + 1)) x2 (nI (n + 1 + 1)) M1 := by
      show b_X5_partByAtom_11 (l_X5_partByAtom_11 (F + 1)) 6 32 (nI f) (nI (m + 1)) (nI 0) (nI (n + 1)) M = _
      unfold b_X5_partByAtom_11
      rw [if_neg (nI_ge (by omega) (by omega)), if_pos (show nI 0 = 0 from rfl), nI_add]
    obtain ⟨p1, p2⟩ := x_aip (q := q) hS hu hv hr h mr hf hc h8 (s := 61) (n := n) (k := m) (by simp) (by omega) (by omega) (by omega) rfl (B := nI (m + 1)) (by rw [if_neg (by decide)])
    rw [ff_s, un]
    cases h1 : df (vU f u v) (vU (1 - f) u v) (vR f r) 61 n m with
    | true =>
      obtain ⟨N, n1, n2⟩ := p2 h1
      rw [if_pos rfl, n1, jb2_some]
      refine ⟨N, ?_, n2⟩
      show b_X5_partByAtom_11 (l_X5_partByAtom_11 F) 6 32 (nI f) (nI (m + 1)) (bI true) (nI (n + 1 + 1)) N = _
      unfold b_X5_partByAtom_11
      rw [pba_41 f (by omega) N, if_neg (show ¬ bI true = 0 by decide)]
      split <;> rfl
    | false =>
      rw [if_neg (by decide), p1 h1, jb2_some]
      exact ih (n + 1) (F + 1) (by omega) (by omega)
theorem x_pba {p : Nat × Nat} (hS : Sh M) (hu : wwf u) (hv : wwf v) (hr : rv u v (p :: r)) (h : MS M 6 u v) (mr : MR M 6 (p :: r)) (hf : f < 2) (hc : rI M 32 1 = nI c) (h8 : c + 2 ≤ 800) (hp : pla u v r p = false) : ∃ N, f_X5_partByAtom 6 32 (nI f) M = some ((), N) ∧ XO u v (p :: r) q c (ptT (vU f u v) (vU (1 - f) u v) (vR f (p :: r)) r.length) M N := by
  have h3 := mr.2.1
  rw [List.length_cons] at h3
  obtain ⟨n0, hn0⟩ := jF_is
  have ht := h.1.1
  have hl : (p :: r).length = r.length + 1 := rfl
  have hU : wwf (vU f u v) := by unfold vU; split <;> assumption
  have hV : wwf (vU (1 - f) u v) := by unfold vU; split <;> assumption
  -- some atom parts them
  have some_ : ¬ ((∀ n, n < r.length → df (vU f u v) (vU (1 - f) u v) (vR f (p :: r)) 61 n r.length = false) ∧ df (vU f u v) (vU (1 - f) u v) (vR f (p :: r)) 65 r.length r.length = false ∧ df (vU f u v) (vU (1 - f) u v) (vR f (p :: r)) 66 r.length r.length = false ∧ ∀ n, n < r.length + 1 → (df (vU f u v) (vU (1 - f) u v) (vR f (p :: r)) 69 n r.length || df (vU f u v) (vU (1 - f) u v) (vR f (p :: r)) 69 r.length n) = false) := by
    intro ⟨a1, a2, a3, a4⟩
    have : f = 0 ∨ f = 1 := by omega
    rcases this with rfl | rfl
    · have := pla_of hU hV (r := r) (p := p) a1 a2 a3 a4
      rw [show pla (vU 0 u v) (vU (1 - 0) u v) r p = pla u v r p from rfl, hp] at this
      cases this
    · have e : vR 1 (p :: r) = (p.2, p.1) :: swp r := rfl
      rw [e] at a1 a2 a3 a4
      have el : (swp r).length = r.length := swp_len
      rw [← el] at a1 a2 a3 a4
      have := pla_of hU hV (r := swp r) (p := (p.2, p.1)) a1 a2 a3 a4
      rw [show pla (vU 1 u v) (vU (1 - 1) u v) (swp r) (p.2, p.1) = pla v u (swp r) (p.2, p.1) from rfl, pla_sw, hp] at this
      cases this
  unfold f_X5_partByAtom f_X3_length
  rw [jiv_n ht, gI_n ht, Option.bind_some, mr.1, hl]
  show ∃ N, l_X5_partByAtom_11 jF0 6 32 (nI f) (nI (r.length + 1)) (nI 0) (nI (0 + 1)) M = _ ∧ _
  have z := pba_11 (q := q) hS hu hv hr h mr hf hc h8 hl r.length 0 jF0 (by omega) (by omega)
  unfold ptT
  cases h1 : ff (fun n => df (vU f u v) (vU (1 - f) u v) (vR f (p :: r)) 61 n r.length) 0 r.length with
  | some k =>
    rw [h1] at z
    exact z
  | none =>
    rw [h1] at z
    have z : l_X5_partByAtom_11 jF0 6 32 (nI f) (nI (r.length + 1)) (nI 0) (nI (0 + 1)) M = j_X5_partByAtom_41 6 32 (nI f) (nI (r.length + 1)) (nI 0) M := z
    rw [z]
    dsimp only
    obtain ⟨p1, p2⟩ := x_aip (q := q) hS hu hv hr h mr hf hc h8 (s := 65) (n := r.length) (k := r.length) (by simp) (by omega) (by omega) (fun _ => rfl) rfl (B := nI 0) (by rw [if_pos (by decide)])
    obtain ⟨p3, p4⟩ := x_aip (q := q) hS hu hv hr h mr hf hc h8 (s := 66) (n := r.length) (k := r.length) (by simp) (by omega) (by omega) (fun _ => rfl) rfl (B := nI 0) (by rw [if_pos (by decide)])
    have after : ∀ N, j_X5_partByAtom_59 6 32 (nI f) (nI (r.length + 1)) N = some ((), N) := fun N => by
      have := pba_41 f (show r.length < 3 by omega) N
      unfold j_X5_partByAtom_41 at this
      rw [if_neg (by decide)] at this
      exact this
    have after2 : ∀ N, j_X5_partByAtom_84 6 32 (nI f) (nI (r.length + 1)) N = some ((), N) := fun N => by
      have := after N
      unfold j_X5_partByAtom_59 j_X5_partByAtom_64 at this
      rw [if_neg (by decide)] at this
      exact this
    unfold j_X5_partByAtom_41
    rw [if_pos (show nI 0 = 0 from rfl)]
    cases h2 : df (vU f u v) (vU (1 - f) u v) (vR f (p :: r)) 65 r.length r.length with
    | true =>
      obtain ⟨N, n1, n2⟩ := p2 h2
      rw [n1, jb2_some, if_neg (by decide), after, if_pos rfl]
      exact ⟨N, rfl, n2⟩
    | false =>
      rw [p1 h2, jb2_some, if_pos (show bI false = 0 from rfl), if_neg (show ¬ (false = true) by decide)]
      unfold j_X5_partByAtom_64
      rw [if_pos (show nI 0 = 0 from rfl)]
      cases h4 : df (vU f u v) (vU (1 - f) u v) (vR f (p :: r)) 66 r.length r.length with
      | true =>
        obtain ⟨N, n1, n2⟩ := p4 h4
        rw [n1, jb2_some, if_neg (by decide), after2, if_pos rfl]
        exact ⟨N, rfl, n2⟩
      | false =>
        rw [p3 h4, jb2_some, if_pos (show bI false = 0 from rfl), if_neg (show ¬ (false = true) by decide)]
        unfold j_X5_partByAtom_89
        refine pba_94 hS hu hv hr h mr hf hc h8 hl (r.length + 1) 0 jF0 (by omega) (by omega) ?_
        cases h5 : ff (fun n => df (vU f u v) (vU (1 - f) u v) (vR f (p :: r)) 69 n r.length || df (vU f u v) (vU (1 - f) u v) (vR f (p :: r)) 69 r.length n) 0 (r.length + 1) with
        | some k => exact ⟨k, rfl⟩
        | none => exact absurd ⟨fun n hn => ff_none h1 n (by omega) (by omega), h2, h4, fun n hn => ff_none h5 n (by omega) (by omega)⟩ some_
end XB6
