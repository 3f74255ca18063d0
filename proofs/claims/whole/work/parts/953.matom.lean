/-! READING: the reference reads atoms. -/
def AtQ (t : Tp) (b q0 q c : Nat) (l : Nat → Nat) (ia : Option Nat) (r : Rs Fm) (o : jO Unit) (M : jM) : Prop := match r with
  | .inl w => ∃ N, o = some ((), N) ∧ Ey PGr M N ∧ BW w N
  | .inr (f, p') => ∃ N, o = some ((), N) ∧ BS t p' (c + 1) b q0 l N ∧ Ey PGr M N ∧ Nr (rI N 80) (rI N 81) (rI N 82) c q f ∧ sz f = 1 ∧ LoS b M N ∧ LoN c ia M N
section MA9
variable {M : jM} {t : Tp} {a c s q b q0 m p w : Nat} {l : Nat → Nat} {ia : Option Nat}
theorem IA_ey {P : Nat → Nat → Prop} {N : jM} (e : Ey P M N) (h : ∀ c k, 84 ≤ c → c ≤ 86 → ¬ P c k) (hi : IA M b c ia) : IA N b c ia := by
  cases ia with
  | none => show rI N 86 b = nI 0; rw [ey_rI e (h _ _ (by decide) (by decide))]; exact hi
  | some x => exact ⟨by rw [ey_rI e (h _ _ (by decide) (by decide))]; exact hi.1, by rw [ey_rI e (h _ _ (by decide) (by decide))]; exact hi.2.1, hi.2.2⟩
theorem fr_ey {P : Nat → Nat → Prop} {N : jM} (e : Ey P M N) (h : ∀ c k, 84 ≤ c → c ≤ 86 → ¬ P c k) (hf : fr M b q0 m q) : fr N b q0 m q := fr_same m q (fun i _ => ey_rI e (h _ _ (by decide) (by decide))) hf
theorem at_fin {N : jM} (e : Ey P36 M N) (h9 : c + 1 < 1000) (B : BS t a c s q l N) (hs : s = b + m) (h12 : s ≤ 12) (hf : fr M b q0 m q) (h84 : rI M 84 b = nI 0) (hi : IA M b c ia) {K x y : Nat} (hK : K < 128) (hx : x < 128) (hy : y < 128) {d : Nat} (h1 : K = rk (aS d)) (h2 : x = aA d - 1) (h3 : y = aB d - 1) : AtQ t b q0 q c l ia (.inr (.leaf d, a)) (j_X12_atom_40 65 (nI K) (nI x) (nI y) N) M := by
  obtain ⟨O, o1, o2, o3, o4, o5, o6, o7, o8⟩ := at_end h9 B hs h12 (fr_ey e P36_s hf) (by rw [ey_rI e (by unfold P36; omega)]; exact h84) (IA_ey e P36_s hi) hK hx hy
  exact ⟨O, o1, o2, (e.mono fun _ _ => P36_G).tr o3, ⟨by rw [o4, h1], by rw [o5, h2], by rw [o6, h3]⟩, rfl, (LoS_ey e P36_s).tr o7, (LoN_ey e P36_n).tr o8⟩
theorem rk_128 : ∀ k, k < 256 → rk k < 128 := by decide +kernel
theorem m_atom0 (ht : VT t) (B : BS t (sk t p) c s q l M) (hlt : sk t p < t.1) (hc : c ≤ sk t p) (hs : s = b + m) (h12 : s ≤ 12) (hf : fr M b q0 m q) (h84 : rI M 84 b = nI 0) (hi : IA M b c ia) {k : Nat} (hk : k < 256) : AtQ t b q0 q c l ia (.inr (.leaf k, sk t p + 1)) (f_X12_atom 65 (nI (rk k)) (nI 0) M) M := by
  have h8 := ht.1
  obtain ⟨z1, z2, z3⟩ := bs_next B hlt
  rw [gI_n (t65 B.1), Option.bind_some] at z1
  unfold f_X12_atom j_X12_atom_22 j_X12_atom_39
  rw [gI_n (t65 B.1), Option.bind_some, z1, Option.bind_some, if_pos (by decide), if_neg (by decide), if_pos (by decide)]
  exact at_fin z3 (by omega) z2 hs h12 hf h84 hi (rk_128 k hk) (by decide) (by decide) (by unfold aS; rw [Nat.mod_eq_of_lt hk]) (by unfold aA; omega) (by unfold aB; omega)
theorem m_atom1 (ht : VT t) (hq8 : q ≤ 8) (hl : lok q l) (B : BS t (sk t p) c s q l M) (hlt : sk t p < t.1) (hc : c ≤ sk t p) (hs : s = b + m) (h12 : s ≤ 12) (hf : fr M b q0 m q) (h84 : rI M 84 b = nI 0) (hi : IA M b c ia) {k : Nat} (hk : k < 256) : AtQ t b q0 q c l ia (rmap (pOwn t (lw l q) (sk t p + 1)) fun x p1 => .inr (.leaf (k + 256 * x), p1)) (f_X12_atom 65 (nI (rk k)) (nI 1) M) M := by
  have h8 := ht.1
  obtain ⟨z1, z2, z3⟩ := bs_next B hlt
  rw [gI_n (t65 B.1), Option.bind_some] at z1
  unfold f_X12_atom
  rw [gI_n (t65 B.1), Option.bind_some, z1, Option.bind_some, if_neg (by decide), jiv_n (t65 z2.1)]
  have v := m_var ht hq8 hl z2
  cases hx : pOwn t (lw l q) (sk t p + 1) with
  | inl w =>
    rw [hx] at v
    obtain ⟨N, n1, n2, n3⟩ := v
    unfold j_X12_atom_22 j_X12_atom_39 j_X12_atom_40
    rw [n1, jb2_some, if_pos (by decide), if_pos (by decide)]
    exact ⟨N, rfl, (z3.mono fun _ _ => P36_G).tr n2, n3⟩
  | inr y =>
    obtain ⟨x, p1⟩ := y
    rw [hx] at v
    obtain ⟨N, n1, n2, n3, n4, n5⟩ := v
    unfold j_X12_atom_22 j_X12_atom_39
    rw [n1, jb2_some, if_neg (nI_pos (by omega)), if_pos (by decide)]
    exact at_fin (z3.tr n2) (by omega) n3 hs h12 hf h84 hi (rk_128 k hk) (by omega) (by decide) (by unfold aS; congr 1; omega) (by unfold aA; omega) (by unfold aB; omega)
theorem m_atom2 (ht : VT t) (hq8 : q ≤ 8) (hl : lok q l) (B : BS t (sk t p) c s q l M) (hlt : sk t p < t.1) (hc : c ≤ sk t p) (hs : s = b + m) (h12 : s ≤ 12) (hf : fr M b q0 m q) (h84 : rI M 84 b = nI 0) (hi : IA M b c ia) {k : Nat} (hk : k < 256) : AtQ t b q0 q c l ia (rmap (pOwn t (lw l q) (sk t p + 1)) fun x p1 => rmap (pOwn t (lw l q) p1) fun y p2 => .inr (.leaf (k + 256 * x + 4096 * y), p2)) (f_X12_atom 65 (nI (rk k)) (nI 2) M) M := by
  have h8 := ht.1
  obtain ⟨z1, z2, z3⟩ := bs_next B hlt
  rw [gI_n (t65 B.1), Option.bind_some] at z1
  unfold f_X12_atom
  rw [gI_n (t65 B.1), Option.bind_some, z1, Option.bind_some, if_neg (by decide), jiv_n (t65 z2.1)]
  have v := m_var ht hq8 hl z2
  cases hx : pOwn t (lw l q) (sk t p + 1) with
  | inl w =>
    rw [hx] at v
    obtain ⟨N, n1, n2, n3⟩ := v
    unfold j_X12_atom_22 j_X12_atom_39 j_X12_atom_40
    rw [n1, jb2_some, if_pos (by decide), if_pos (by decide)]
    exact ⟨N, rfl, (z3.mono fun _ _ => P36_G).tr n2, n3⟩
  | inr y =>
    obtain ⟨x, p1⟩ := y
    rw [hx] at v
    obtain ⟨N, n1, n2, n3, n4, n5⟩ := v
    have v2 := m_var ht hq8 hl n3
    unfold j_X12_atom_22
    rw [n1, jb2_some, if_neg (nI_pos (by omega)), if_neg (by decide), jiv_n (t65 n3.1)]
    show AtQ t b q0 q c l ia (rmap (pOwn t (lw l q) p1) _) _ M
    cases hx2 : pOwn t (lw l q) p1 with
    | inl w =>
      rw [hx2] at v2
      obtain ⟨O, o1, o2, o3⟩ := v2
      unfold j_X12_atom_40
      rw [o1, jb2_some, if_neg (nI_pos (by omega)), if_pos (by decide)]
      exact ⟨O, rfl, ((z3.tr n2).mono fun _ _ => P36_G).tr o2, o3⟩
    | inr y =>
      obtain ⟨y, p2⟩ := y
      rw [hx2] at v2
      obtain ⟨O, o1, o2, o3, o4, o5⟩ := v2
      rw [o1, jb2_some]
      exact at_fin ((z3.tr n2).tr o2) (by omega) o3 hs h12 hf h84 hi (rk_128 k hk) (by omega) (by omega) (by unfold aS; congr 1; omega) (by unfold aA; omega) (by unfold aB; omega)
theorem hv_pb (ht : VT t) {k : Nat} (hk : k < 128) : (hv t (sk t p) = nI k) = (pb t p = k) := propext (hv_eq ht hk)
theorem bp_eq (ht : VT t) (B : BS t (sk t p) c s q l M) : f_X12_beginPart 65 M = if pb t p = 40 then j_X12_beginPart_96 65 M else if pb t p = 45 then j_X12_beginPart_96 65 M else if pb t p = 61 then (jb2 (f_X12_atom 65 (nI 9) (nI 2) M) fun _ M3 => rZ (nI 1) M3) else if pb t p = 63 then (jb2 (f_X12_quantifier 65 (nI 3) M) fun _ M3 => rZ (nI 0) M3) else if pb t p = 64 then (jb2 (f_X12_quantifier 65 (nI 2) M) fun _ M3 => rZ (nI 0) M3) else if pb t p = 65 then (jb2 (f_X12_atom 65 (nI 6) (nI 1) M) fun _ M3 => rZ (nI 1) M3) else if pb t p = 66 then (jb2 (f_X12_atom 65 (nI 7) (nI 1) M) fun _ M3 => rZ (nI 1) M3) else if pb t p = 69 then (jb2 (f_X12_atom 65 (nI 8) (nI 2) M) fun _ M3 => rZ (nI 1) M3) else if pb t p = 70 then (jb2 (f_X12_atom 65 (nI 11) (nI 0) M) fun _ M3 => rZ (nI 1) M3) else if pb t p = 84 then (jb2 (f_X12_atom 65 (nI 10) (nI 0) M) fun _ M3 => rZ (nI 1) M3) else (gI 11 M 65 36).bind fun x => (pI 11 M 65 37 x).bind fun M2 => rZ (nI 0) M2 := by
  unfold f_X12_beginPart
  rw [jiv_n (t65 B.1), m_here B.1 ht B.2.1 B.2.2.1 B.2.2.2.1, jb2_some]
  simp only [hv_pb ht (show (40 : Nat) < 128 by decide), hv_pb ht (show (45 : Nat) < 128 by decide), hv_pb ht (show (61 : Nat) < 128 by decide), hv_pb ht (show (63 : Nat) < 128 by decide), hv_pb ht (show (64 : Nat) < 128 by decide), hv_pb ht (show (65 : Nat) < 128 by decide), hv_pb ht (show (66 : Nat) < 128 by decide), hv_pb ht (show (69 : Nat) < 128 by decide), hv_pb ht (show (70 : Nat) < 128 by decide), hv_pb ht (show (84 : Nat) < 128 by decide), jiv_n (t65 B.1)]
/-- a turn of the loop that reads an atom -/
theorem QP_atom (ht : VT t) (B : BS t (sk t p) c s q l M) {r : Rs Fm} {o : jO Unit} (hb : f_X12_beginPart 65 M = jb2 o fun _ M3 => rZ (nI 1) M3) (hr : ∀ f p', r = .inr (f, p') → sk t p + 1 ≤ p') (A : AtQ t b q0 q c l ia r o M) : QP t b q0 q c l ia p (nI 1) r M := by
  cases r with
  | inl w =>
    obtain ⟨N, n1, n2, n3⟩ := A
    rw [n1, jb2_some] at hb
    exact QB_b (v := 0) ht B hb n2 n3
  | inr x =>
    obtain ⟨f, p'⟩ := x
    obtain ⟨N, n1, n2, n3, n4, n5, n6, n7⟩ := A
    rw [n1, jb2_some] at hb
    obtain ⟨O, o1, o2, o3⟩ := it_95 ht n2
    have := hr f p' rfl
    have hg := (sk_ge (t := t) (p := p')).1
    refine ⟨1, O, by omega, fun F => ?_, by rw [n5]; exact o3, n3.tr (o2.mono fun _ _ => P36_G), Nr_congr f c c q (fun i _ => ⟨ey_rI o2 (by unfold P36; omega), ey_rI o2 (by unfold P36; omega), ey_rI o2 (by unfold P36; omega)⟩) n4, n6.tr (LoS_ey o2 P36_s), n7.tr2 (LoN_ey o2 P36_n)⟩
    rw [it_b B, hb]
    show jb2 (some (bI true, N)) _ = _
    rw [jb2_some, if_neg (by decide), o1]
theorem m_patom (ht : VT t) (hq8 : q ≤ 8) (hl : lok q l) (B : BS t (sk t p) c s q l M) (hc : c ≤ sk t p) (hs : s = b + m) (h12 : s ≤ 12) (hf : fr M b q0 m q) (h84 : rI M 84 b = nI 0) (hi : IA M b c ia) (n1 : pb t p ≠ 40) (n2 : pb t p ≠ 45) (n3 : pb t p ≠ 63) (n4 : pb t p ≠ 64) : QP t b q0 q c l ia p (nI 1) (pAtom t (lw l q) p) M := by
  have hbp := bp_eq ht B
  rw [if_neg n1, if_neg n2] at hbp
  have hr : ∀ f p', pAtom t (lw l q) p = .inr (f, p') → sk t p + 1 ≤ p' := by
    intro f p' h
    unfold pAtom at h
    split at h
    · obtain ⟨x, p1, h1, h2⟩ := rmap_r h
      obtain ⟨y, p2, h3, h4⟩ := rmap_r h2
      have how : ∀ {x p0 p1}, pOwn t (lw l q) p0 = .inr (x, p1) → p0 ≤ p1 := by
        intro x p0 p1 h
        unfold pOwn at h
        split at h
        · cases h; have := (sk_ge (t := t) (p := p0)).1; omega
        · cases h
      have := how h1
      have := how h3
      cases h4
      omega
    · split at h
      · obtain ⟨x, p1, h1, h2⟩ := rmap_r h
        unfold pOwn at h1
        split at h1
        · cases h1; cases h2; have := (sk_ge (t := t) (p := sk t p + 1)).1; omega
        · cases h1
      · split at h
        · cases h; omega
        · cases h
  by_cases h2 : pb t p = 69 ∨ pb t p = 61
  · have A := m_atom2 ht hq8 hl B (pb_lt (by omega)) hc hs h12 hf h84 hi (k := pb t p) (by omega)
    have ep : pAtom t (lw l q) p = rmap (pOwn t (lw l q) (sk t p + 1)) fun a p1 => rmap (pOwn t (lw l q) p1) fun b p2 => .inr (.leaf (pb t p + 256 * a + 4096 * b), p2) := by unfold pAtom; rw [if_pos h2]
    rw [← ep] at A
    refine QP_atom ht B ?_ hr A
    rcases h2 with h2 | h2
    · rw [hbp, if_neg (by omega), if_neg n3, if_neg n4, if_neg (by omega), if_neg (by omega), if_pos h2, h2]; rfl
    · rw [hbp, if_pos h2, h2]; rfl
  · by_cases h1 : pb t p = 65 ∨ pb t p = 66
    · have A := m_atom1 ht hq8 hl B (pb_lt (by omega)) hc hs h12 hf h84 hi (k := pb t p) (by omega)
      have ep : pAtom t (lw l q) p = rmap (pOwn t (lw l q) (sk t p + 1)) fun a p1 => .inr (.leaf (pb t p + 256 * a), p1) := by unfold pAtom; rw [if_neg h2, if_pos h1]
      rw [← ep] at A
      refine QP_atom ht B ?_ hr A
      rcases h1 with h1 | h1
      · rw [hbp, if_neg (by omega), if_neg n3, if_neg n4, if_pos h1, h1]; rfl
      · rw [hbp, if_neg (by omega), if_neg n3, if_neg n4, if_neg (by omega), if_pos h1, h1]; rfl
    · by_cases h0 : pb t p = 84 ∨ pb t p = 70
      · have A := m_atom0 ht B (pb_lt (by omega)) hc hs h12 hf h84 hi (k := pb t p) (by omega)
        have ep : pAtom t (lw l q) p = .inr (.leaf (pb t p), sk t p + 1) := by unfold pAtom; rw [if_neg h2, if_neg h1, if_pos h0]
        rw [← ep] at A
        refine QP_atom ht B ?_ hr A
        rcases h0 with h0 | h0
        · rw [hbp, if_neg (by omega), if_neg n3, if_neg n4, if_neg (by omega), if_neg (by omega), if_neg (by omega), if_neg (by omega), if_pos h0, h0]; rfl
        · rw [hbp, if_neg (by omega), if_neg n3, if_neg n4, if_neg (by omega), if_neg (by omega), if_neg (by omega), if_pos h0, h0]; rfl
      · obtain ⟨w1, w2, w3⟩ := bs_wrong ht B
        unfold pAtom
        rw [if_neg h2, if_neg h1, if_neg h0]
        rw [if_neg (by omega), if_neg n3, if_neg n4, if_neg (by omega), if_neg (by omega), if_neg (by omega), if_neg (by omega), if_neg (by omega)] at hbp
        rw [gI_n (t65 B.1), Option.bind_some] at w1 hbp
        rw [w1, Option.bind_some] at hbp
        exact QB_b (v := 0) ht B hbp (w3.mono fun _ _ => P37_G) w2
end MA9
