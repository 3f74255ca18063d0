/-! READING: the class reads atoms. -/
section XW
variable {M : jM} {t : Tp} {p c q w : Nat} {ow : Nat → Nat}
/-- the atom is put down -/
theorem at_104 (ht : VT t) {p' k a b : Nat} (h : AL t p' c ow M) (h8 : c < 800) (hk : k < 128) (ha : a < 16) (hb : b < 16) : ∃ N, j_X8_parseAtom_104 32 (nI k) (nI a) (nI b) M = some ((), N) ∧ Ey PNo M N ∧ AL t p' (c + 1) ow N ∧ rI N 33 c = nI (k + 256 * a + 4096 * b + 65536) ∧ ∀ i, i < c → rI N 33 i = rI M 33 i := by
  obtain ⟨z1, z2, z3, z4, z5⟩ := al_add h h8 (enc_2 k hk a ha b hb M)
  unfold j_X8_parseAtom_104
  rw [jiv_n (t32 h.1), z1, jb2_some]
  exact ⟨_, rfl, z2, z3, z4, z5⟩
theorem at_104D (d : DE t w M) (k a b : Int32) : ∃ N, j_X8_parseAtom_104 32 k a b M = some ((), N) ∧ Ey PNo M N ∧ DE t w N := by
  obtain ⟨N, r, n1, n2, n3⟩ := de_add d k a b
  unfold j_X8_parseAtom_104
  rw [jiv_n (t32 d.1), n1, jb2_some]
  exact ⟨N, rfl, n2, n3⟩
theorem at_90D (ht : VT t) (d : DE t w M) (k v3 a : Int32) : ∃ N, j_X8_parseAtom_90 29 32 k v3 a M = some ((), N) ∧ Ey PQ M N ∧ DE t w N := by
  unfold j_X8_parseAtom_90
  by_cases h : v3 = 0
  · rw [if_pos h]
    obtain ⟨N, n1, n2, n3⟩ := at_104D d k a (nI 0)
    exact ⟨N, n1, n2.mono fun _ _ => PNo_Q, n3⟩
  · obtain ⟨N, v, n1, n2, n3⟩ := de_own ht d
    obtain ⟨O, o1, o2, o3⟩ := at_104D n3 k a v
    rw [if_neg h, jiv_n (t29 d.1), n1, jb2_some]
    exact ⟨O, o1, (n2.mono fun _ _ => P23_Q).tr (o2.mono fun _ _ => PNo_Q), o3⟩
theorem ow_16 (ho : ∀ j, ow j ≤ 8) {p b p' : Nat} (h : pOwn t ow p = .inr (b, p')) : b < 16 ∧ p < p' := by
  unfold pOwn at h
  split at h
  · cases h
    have := ho (pb t p - 97)
    have := (sk_ge (t := t) (p := p)).1
    exact ⟨by omega, by omega⟩
  · cases h
/-- what an atom's end leaves -/
theorem PO_atom {p' k a b : Nat} {N O : jM} (e1 : Ey PQ M N) (n1 : ∀ i, i < c → rI N 33 i = rI M 33 i) (e : Ey PNo N O) (h : AL t p' (c + 1) ow O) (hx : rI O 33 c = nI (k + 256 * a + 4096 * b + 65536)) (hs : ∀ i, i < c → rI O 33 i = rI N 33 i) : PO t q c ow (.inr (.leaf (k + 256 * a + 4096 * b), p')) M O :=
  ⟨e1.tr (e.mono fun _ _ => PNo_Q), p', h, rfl, Nat.le_refl _, hx, fun i hi => (hs i hi).trans (n1 i hi)⟩
theorem c33 {N : jM} {P : Nat → Nat → Prop} (e : Ey P M N) (h : ∀ k, ¬ P 33 k) : ∀ i, i < c → rI N 33 i = rI M 33 i := fun i _ => ey_rI e (h i)
theorem x_atom (ht : VT t) (ho : ∀ j, ow j ≤ 8) (hcp : c ≤ sk t p) (a : AL t (sk t p) c ow M) : ∃ N, f_X8_parseAtom 29 32 (pbI t p) M = some ((), N) ∧ PO t q c ow (pAtom t ow p) M N := by
  have h800 := ht.1
  have hpt : sk t p ≤ t.1 := a.2.2.2.1
  have hS := a.1
  have pz : ∀ {k}, k < 256 → (pbI t p = nI k ↔ pb t p = k) := fun hk => pbI_eq ht hk
  -- what comes behind the sign
  have go : pb t p < 128 → ((gI 7 M 29 2).bind fun x => pI 7 M 29 2 (x + nI 1)) = some (wI M 29 2 (nI (sk t p + 1))) ∧ AL t (sk t p + 1) c ow (wI M 29 2 (nI (sk t p + 1))) := fun h => al_next ht a (pb_lt (by omega))
  have eN : Ey P23 M (wI M 29 2 (nI (sk t p + 1))) := ey_wI Ey.rf ⟨rfl, Or.inl rfl⟩
  have p33 : ∀ k, ¬ P23 33 k := fun k => by unfold P23; omega
  unfold f_X8_parseAtom j_X8_parseAtom_12 j_X8_parseAtom_17 j_X8_parseAtom_30 j_X8_parseAtom_35 j_X8_parseAtom_63
  by_cases h2 : pb t p = 69 ∨ pb t p = 61
  · obtain ⟨z1, z2⟩ := go (by omega)
    have hv : pbI t p = nI (pb t p) := (pz (by omega)).mpr rfl
    have hc8 : c < 800 := by have := pb_lt (t := t) (p := p) (by omega); omega
    have key : ∃ N, j_X8_parseAtom_82 29 32 (pbI t p) (nI 1) (wI M 29 2 (nI (sk t p + 1))) = some ((), N) ∧ PO t q c ow (pAtom t ow p) M N := by
      unfold j_X8_parseAtom_82 pAtom
      rw [if_pos h2, jiv_n (t29 z2.1)]
      obtain ⟨N, v, n1, n2, n3⟩ := al_own ht (by omega) ho z2
      rw [n1, jb2_some]
      cases hr : pOwn t ow (sk t p + 1) with
      | inl x =>
        rw [hr] at n3
        obtain ⟨O, o1, o2, o3⟩ := at_90D ht n3 (pbI t p) (nI 1) v
        exact ⟨O, o1, ((eN.tr n2).mono fun _ _ => P23_Q).tr o2, o3⟩
      | inr x =>
        obtain ⟨b1, p1⟩ := x
        rw [hr] at n3
        obtain ⟨rfl, n3⟩ := n3
        obtain ⟨O, v2, o1, o2, o3⟩ := al_own ht (by omega) ho n3
        unfold j_X8_parseAtom_90
        rw [if_neg (by decide), jiv_n (t29 n3.1), o1, jb2_some]
        show ∃ N, _ ∧ PO t q c ow (rmap (pOwn t ow p1) _) M N
        have e3 := ((eN.tr n2).tr o2)
        cases hr2 : pOwn t ow p1 with
        | inl x =>
          rw [hr2] at o3
          obtain ⟨Q, q1, q2, q3⟩ := at_104D o3 (pbI t p) (nI b1) v2
          exact ⟨Q, q1, (e3.mono fun _ _ => P23_Q).tr (q2.mono fun _ _ => PNo_Q), q3⟩
        | inr x =>
          obtain ⟨b2, p2⟩ := x
          rw [hr2] at o3
          obtain ⟨rfl, o3⟩ := o3
          rw [hv]
          obtain ⟨Q, q1, q2, q3, q4, q5⟩ := at_104 ht o3 hc8 (k := pb t p) (by omega) (ow_16 ho hr).1 (ow_16 ho hr2).1
          exact ⟨Q, q1, PO_atom (e3.mono fun _ _ => P23_Q) (c33 e3 p33) q2 q3 q4 q5⟩
    rw [gI_n (t29 hS), Option.bind_some] at z1
    have n10 : ¬ (nI 1 = 0) := by decide
    have w65 : ¬ pbI t p = nI 65 := fun z => by have := (pz (by decide)).mp z; omega
    have w66 : ¬ pbI t p = nI 66 := fun z => by have := (pz (by decide)).mp z; omega
    rcases h2 with h2 | h2
    · rw [if_pos ((pz (by decide)).mpr h2), if_neg w65, if_neg w66, if_neg n10, gI_n (t29 hS), Option.bind_some, z1, Option.bind_some, if_neg n10]
      exact key
    · rw [if_neg (fun z => by have := (pz (by decide)).mp z; omega), if_pos ((pz (by decide)).mpr h2), if_neg w65, if_neg w66, if_neg n10, gI_n (t29 hS), Option.bind_some, z1, Option.bind_some, if_neg n10]
      exact key
  · have w69 : ¬ pbI t p = nI 69 := fun z => by have := (pz (by decide)).mp z; omega
    have w61 : ¬ pbI t p = nI 61 := fun z => by have := (pz (by decide)).mp z; omega
    have y0 : nI 0 = (0 : Int32) := rfl
    have n10 : ¬ (nI 1 = 0) := by decide
    rw [if_neg w69, if_neg w61]
    by_cases h1 : pb t p = 65 ∨ pb t p = 66
    · obtain ⟨z1, z2⟩ := go (by omega)
      have hv : pbI t p = nI (pb t p) := (pz (by omega)).mpr rfl
      have hc8 : c < 800 := by have := pb_lt (t := t) (p := p) (by omega); omega
      have key : ∃ N, j_X8_parseAtom_82 29 32 (pbI t p) (nI 0) (wI M 29 2 (nI (sk t p + 1))) = some ((), N) ∧ PO t q c ow (pAtom t ow p) M N := by
        unfold j_X8_parseAtom_82 pAtom
        rw [if_neg h2, if_pos h1, jiv_n (t29 z2.1)]
        obtain ⟨N, v, n1, n2, n3⟩ := al_own ht (by omega) ho z2
        rw [n1, jb2_some]
        cases hr : pOwn t ow (sk t p + 1) with
        | inl x =>
          rw [hr] at n3
          obtain ⟨O, o1, o2, o3⟩ := at_90D ht n3 (pbI t p) (nI 0) v
          exact ⟨O, o1, ((eN.tr n2).mono fun _ _ => P23_Q).tr o2, o3⟩
        | inr x =>
          obtain ⟨b1, p1⟩ := x
          rw [hr] at n3
          obtain ⟨rfl, n3⟩ := n3
          unfold j_X8_parseAtom_90
          rw [if_pos y0, hv]
          have e3 := eN.tr n2
          obtain ⟨Q, q1, q2, q3, q4, q5⟩ := at_104 ht n3 hc8 (k := pb t p) (by omega) (ow_16 ho hr).1 (b := 0) (by decide)
          exact ⟨Q, q1, PO_atom (b := 0) (e3.mono fun _ _ => P23_Q) (c33 e3 p33) q2 q3 q4 q5⟩
      rw [gI_n (t29 hS), Option.bind_some] at z1
      rcases h1 with h1 | h1
      · rw [if_pos ((pz (by decide)).mpr h1), if_pos y0, if_neg n10, gI_n (t29 hS), Option.bind_some, z1, Option.bind_some, if_pos y0, if_neg n10]
        exact key
      · rw [if_neg (fun z => by have := (pz (by decide)).mp z; omega), if_pos ((pz (by decide)).mpr h1), if_pos y0, if_neg n10, gI_n (t29 hS), Option.bind_some, z1, Option.bind_some, if_pos y0, if_neg n10]
        exact key
    · have w65 : ¬ pbI t p = nI 65 := fun z => by have := (pz (by decide)).mp z; omega
      have w66 : ¬ pbI t p = nI 66 := fun z => by have := (pz (by decide)).mp z; omega
      rw [if_neg w65, if_neg w66, if_pos y0, if_pos y0]
      by_cases h0 : pb t p = 84 ∨ pb t p = 70
      · obtain ⟨z1, z2⟩ := go (by omega)
        have hv : pbI t p = nI (pb t p) := (pz (by omega)).mpr rfl
        have hc8 : c < 800 := by have := pb_lt (t := t) (p := p) (by omega); omega
        have key : ∃ N, j_X8_parseAtom_90 29 32 (pbI t p) (nI 0) (nI 0) (wI M 29 2 (nI (sk t p + 1))) = some ((), N) ∧ PO t q c ow (pAtom t ow p) M N := by
          unfold j_X8_parseAtom_90 pAtom
          rw [if_neg h2, if_neg h1, if_pos h0, if_pos y0, hv]
          obtain ⟨Q, q1, q2, q3, q4, q5⟩ := at_104 ht z2 hc8 (k := pb t p) (by omega) (a := 0) (by decide) (b := 0) (by decide)
          exact ⟨Q, q1, PO_atom (a := 0) (b := 0) (eN.mono fun _ _ => P23_Q) (c33 eN p33) q2 q3 q4 q5⟩
        rw [gI_n (t29 hS), Option.bind_some] at z1
        rcases h0 with h0 | h0
        · rw [if_pos ((pz (by decide)).mpr h0), gI_n (t29 hS), Option.bind_some, z1, Option.bind_some, if_pos y0, if_pos y0]
          exact key
        · rw [if_neg (fun z => by have := (pz (by decide)).mp z; omega), if_pos ((pz (by decide)).mpr h0), gI_n (t29 hS), Option.bind_some, z1, Option.bind_some, if_pos y0, if_pos y0]
          exact key
      · obtain ⟨N, n1, n2, n3⟩ := al_fail ht (by omega) a
        unfold pAtom
        rw [if_neg (fun z => by have := (pz (by decide)).mp z; omega), if_neg (fun z => by have := (pz (by decide)).mp z; omega), jiv_n (t29 hS), n1, jb2_some, if_neg h2, if_neg h1, if_neg h0]
        exact ⟨N, rfl, n2.mono fun _ _ h => P23_Q (P3_23 h), n3⟩
end XW
