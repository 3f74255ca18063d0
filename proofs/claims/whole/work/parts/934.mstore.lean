/-! SENTENCES: the reference's calls. -/
theorem rk_inj {k k' : Nat} (h : k = 45 ∨ k = 64 ∨ k = 63 ∨ k = 38 ∨ k = 124 ∨ k = 65 ∨ k = 66 ∨ k = 69 ∨ k = 61 ∨ k = 84 ∨ k = 70) (h' : k' = 45 ∨ k' = 64 ∨ k' = 63 ∨ k' = 38 ∨ k' = 124 ∨ k' = 65 ∨ k' = 66 ∨ k' = 69 ∨ k' = 61 ∨ k' = 84 ∨ k' = 70) (e : nI (rk k) = nI (rk k')) : k = k' := by
  revert e
  rcases h with rfl | rfl | rfl | rfl | rfl | rfl | rfl | rfl | rfl | rfl | rfl <;> rcases h' with rfl | rfl | rfl | rfl | rfl | rfl | rfl | rfl | rfl | rfl | rfl <;> decide
/-- the kind of the first node -/
def hd : Fm → Nat
  | .leaf c => aS c
  | .branch k _ _ => k
theorem Nr_hd {kd on tw : Nat → Int32} {p q : Nat} {f : Fm} (h : wf 0 q f) (n : Nr kd on tw p q f) : kd p = nI (rk (hd f)) ∧ (hd f = 45 ∨ hd f = 64 ∨ hd f = 63 ∨ hd f = 38 ∨ hd f = 124 ∨ hd f = 65 ∨ hd f = 66 ∨ hd f = 69 ∨ hd f = 61 ∨ hd f = 84 ∨ hd f = 70) := by
  have hq := wf_q f 0 q h
  rcases wf0_cases h with ⟨c, rfl, ok⟩ | ⟨l, rfl, hl⟩ | ⟨k, l, hk, rfl, hl⟩ | ⟨k, l, hk, rfl, hl⟩
  · have := (aok_c hq ok).2.2.2.1
    exact ⟨n.1, by rw [show hd (.leaf c) = aS c from rfl]; omega⟩
  · rw [Nr_n] at n; exact ⟨n.1.1, Or.inl rfl⟩
  · rw [Nr_q hk] at n
    refine ⟨?_, by rw [show hd (.branch k l (.leaf 0)) = k from rfl]; omega⟩
    rw [n.1.1]
    rcases hk with rfl | rfl <;> rfl
  · rw [Nr_l hk] at n
    refine ⟨?_, by rw [show hd (.branch k l (.leaf 0)) = k from rfl]; omega⟩
    rw [n.1.1]
    rcases hk with rfl | rfl <;> rfl
def RP (q : Nat) (f : Fm) : Prop := ∀ (g : Fm) (p p' : Nat) (kd on tw kd' on' tw' : Nat → Int32), wf 0 q g → Nr kd on tw p q f → Nr kd' on' tw' p' q g → sz f ≤ 600 → sz g ≤ 600 → (∀ i, i < sz f → kd (p + i) = kd' (p' + i) ∧ on (p + i) = on' (p' + i) ∧ tw (p + i) = tw' (p' + i)) → f = g
def RB (q : Nat) (f : Fm) : Prop := ∀ (g : Fm) (p p' : Nat) (kd on tw kd' on' tw' : Nat → Int32), wf 1 q g → np f = np g → Nr kd on tw p q f → Nr kd' on' tw' p' q g → sz f ≤ 600 → sz g ≤ 600 → (∀ i, i < sz f → kd (p + i) = kd' (p' + i) ∧ on (p + i) = on' (p' + i) ∧ tw (p + i) = tw' (p' + i)) → f = g
theorem np_le : ∀ f : Fm, 1 ≤ np f ∧ np f ≤ sz f
  | .leaf _ => ⟨Nat.le_refl _, Nat.le_refl _⟩
  | .branch k l r => by
    have := np_le r
    have := sz_pos l
    rw [np, sz]
    split
    · omega
    · omega
theorem np_0 {q : Nat} {f : Fm} (h : wf 0 q f) : np f = 1 := by
  cases f with
  | leaf c => rfl
  | branch k l r =>
    have hk : k ≠ 0 := fun e => wf0_nb h l r (by rw [e])
    rw [np, if_neg hk]
theorem np_c {l r : Fm} : np (.branch 0 l r) = np r + 1 := by rw [np, if_pos rfl]
theorem rp_all : ∀ f q, (wf 0 q f → RP q f) ∧ (wf 1 q f → RB q f) := by
  refine fm_ind (P := RP) (B := RB) ?_ ?_ ?_ ?_ ?_ ?_
  · intro q c hq ok g p p' kd on tw kd' on' tw' hg n n' s1 s2 e
    have hw : wf 0 q (.leaf c) := ⟨by decide, hq, ok⟩
    obtain ⟨a1, a2⟩ := Nr_hd hw n
    obtain ⟨b1, b2⟩ := Nr_hd hg n'
    obtain ⟨e1, e2, e3⟩ := e 0 (by simp [sz])
    simp only [Nat.add_zero] at e1 e2 e3
    have hh := rk_inj a2 b2 (by rw [← a1, ← b1, e1])
    have hh : aS c = hd g := hh
    have c4 := (aok_c hq ok).2.2.2.1
    rcases wf0_cases hg with ⟨c', rfl, ok'⟩ | ⟨l, rfl, hl⟩ | ⟨k, l, hk, rfl, hl⟩ | ⟨k, l, hk, rfl, hl⟩
    · have hh : aS c = aS c' := hh
      obtain ⟨-, n2, n3⟩ := n
      obtain ⟨-, m2, m3⟩ := n'
      rw [n2, m2] at e2
      rw [n3, m3] at e3
      obtain ⟨-, -, -, -, u5, u6, u7⟩ := aok_c hq ok
      obtain ⟨-, -, -, -, v5, v6, v7⟩ := aok_c hq ok'
      have f2 := (nI_eq (by omega) (by omega)).mp e2
      have f3 := (nI_eq (by omega) (by omega)).mp e3
      have : c = c' := by
        revert hh f2 f3
        unfold aS aA aB
        rcases ok with ⟨s, a, hs, ha, hb, rfl⟩ | ⟨s, a, b, hs, ha, hb, hc, hd, rfl⟩ | rfl | rfl <;> rcases ok' with ⟨s', a', hs', ha', hb', rfl⟩ | ⟨s', a', b', hs', ha', hb', hc', hd', rfl⟩ | rfl | rfl <;> omega
      rw [this]
    · have hh : aS c = 45 := hh
      omega
    · have hh : aS c = k := hh
      omega
    · have hh : aS c = k := hh
      omega
  · intro q l hl ih g p p' kd on tw kd' on' tw' hg n n' s1 s2 e
    rw [Nr_n] at n
    obtain ⟨b1, b2⟩ := Nr_hd hg n'
    rw [sz_u (by decide)] at e s1
    have e0 := (e 0 (by omega)).1
    rw [Nat.add_zero, Nat.add_zero, n.1.1, b1] at e0
    have hh : 45 = hd g := rk_inj (Or.inl rfl) b2 e0
    have hq := wf_q g 0 q hg
    rcases wf0_cases hg with ⟨c', rfl, ok'⟩ | ⟨l', rfl, hl'⟩ | ⟨k, l', hk, rfl, hl'⟩ | ⟨k, l', hk, rfl, hl'⟩
    · have hh : 45 = aS c' := hh
      have := (aok_c hq ok').2.2.2.1
      omega
    · rw [Nr_n] at n'
      rw [sz_u (by decide)] at s2
      rw [ih l' (p + 1) (p' + 1) kd on tw kd' on' tw' hl' n.2 n'.2 (by omega) (by omega) (fun i hi => by
        have := e (1 + i) (by omega)
        rw [← Nat.add_assoc, ← Nat.add_assoc] at this
        exact this)]
    · have hh : 45 = k := hh
      omega
    · have hh : 45 = k := hh
      omega
  · intro q k l hk hq8 hl ih g p p' kd on tw kd' on' tw' hg n n' s1 s2 e
    have hw : kd p = nI (rk k) := by rw [Nr_q hk] at n; rw [n.1.1]; rcases hk with rfl | rfl <;> rfl
    rw [Nr_q hk] at n
    obtain ⟨b1, b2⟩ := Nr_hd hg n'
    rw [sz_u (by omega)] at e s1
    have e0 := (e 0 (by omega)).1
    rw [Nat.add_zero, Nat.add_zero, hw, b1] at e0
    have hh : k = hd g := rk_inj (by omega) b2 e0
    have hq := wf_q g 0 q hg
    rcases wf0_cases hg with ⟨c', rfl, ok'⟩ | ⟨l', rfl, hl'⟩ | ⟨k', l', hk', rfl, -, hl'⟩ | ⟨k', l', hk', rfl, hl'⟩
    · have hh : k = aS c' := hh
      have := (aok_c hq ok').2.2.2.1
      omega
    · have hh : k = 45 := hh
      omega
    · have hh : k = k' := hh
      subst hh
      rw [Nr_q hk] at n'
      rw [sz_u (by omega)] at s2
      rw [ih l' (p + 1) (p' + 1) kd on tw kd' on' tw' hl' n.2 n'.2 (by omega) (by omega) (fun i hi => by
        have := e (1 + i) (by omega)
        rw [← Nat.add_assoc, ← Nat.add_assoc] at this
        exact this)]
    · have hh : k = k' := hh
      omega
  · intro q k l hk hl ih g p p' kd on tw kd' on' tw' hg n n' s1 s2 e
    have hw : kd p = nI (rk k) := by rw [Nr_l hk] at n; rw [n.1.1]; rcases hk with rfl | rfl <;> rfl
    rw [Nr_l hk] at n
    obtain ⟨b1, b2⟩ := Nr_hd hg n'
    rw [sz_u (by omega)] at e s1
    obtain ⟨e0, e1, -⟩ := e 0 (by omega)
    rw [Nat.add_zero, Nat.add_zero, hw, b1] at e0
    have hh : k = hd g := rk_inj (by omega) b2 e0
    have hq := wf_q g 0 q hg
    rcases wf0_cases hg with ⟨c', rfl, ok'⟩ | ⟨l', rfl, hl'⟩ | ⟨k', l', hk', rfl, -, hl'⟩ | ⟨k', l', hk', rfl, hl'⟩
    · have hh : k = aS c' := hh
      have := (aok_c hq ok').2.2.2.1
      omega
    · have hh : k = 45 := hh
      omega
    · have hh : k = k' := hh
      omega
    · have hh : k = k' := hh
      subst hh
      rw [Nr_l hk] at n'
      rw [sz_u (by omega)] at s2
      have n1 := np_le l
      have n2 := np_le l'
      rw [Nat.add_zero, Nat.add_zero, n.1.2.1, n'.1.2.1] at e1
      rw [ih l' (p + 1) (p' + 1) kd on tw kd' on' tw' (wf_21 hl') ((nI_eq (by omega) (by omega)).mp e1) n.2 n'.2 (by omega) (by omega) (fun i hi => by
        have := e (1 + i) (by omega)
        rw [← Nat.add_assoc, ← Nat.add_assoc] at this
        exact this)]
  · intro q f hf ih g p p' kd on tw kd' on' tw' hg hn n n' s1 s2 e
    rw [np_0 hf] at hn
    rcases wf1_cases hg with h0 | ⟨a, b, rfl, ha, hb⟩
    · exact ih g p p' kd on tw kd' on' tw' h0 n n' s1 s2 e
    · rw [np_c] at hn
      have := np_le b
      omega
  · intro q l r hl hr ih ih2 g p p' kd on tw kd' on' tw' hg hn n n' s1 s2 e
    rw [np_c] at hn
    have := np_le r
    rcases wf1_cases hg with h0 | ⟨a, b, rfl, ha, hb⟩
    · rw [np_0 h0] at hn; omega
    · rw [np_c] at hn
      rw [Nr_c] at n n'
      rw [sz_c] at s1 s2 e
      have h1 : l = a := ih a p p' kd on tw kd' on' tw' ha n.1 n'.1 (by omega) (by omega) (fun i hi => e i (by omega))
      subst h1
      have h2 : r = b := ih2 b (p + sz l) (p' + sz l) kd on tw kd' on' tw' hb (by omega) n.2 n'.2 (by omega) (by omega) (fun i hi => by
        have := e (sz l + i) (by omega)
        rw [← Nat.add_assoc, ← Nat.add_assoc] at this
        exact this)
      rw [h2]
section SM
variable {M : jM} {S : List Fm}
theorem m_noSentence (h : Sh M) (hS : SV S) (x : MZ S M) (v : Int32) : f_X12_noSentence 65 v M = some (bI (ixo v S.length).isNone, M) := by
  have h20 := hS.1
  unfold f_X12_noSentence
  rw [gI_n (t65 h), Option.bind_some, x.1]
  by_cases h0 : S.length = 0
  · rw [h0, show nI 0 - nI 1 = (-1 : Int32) from rfl, m_in, jb2_some]
    have hn : ixo v 0 = none := by
      cases hx : ixo v 0 with
      | none => rfl
      | some j => obtain ⟨hj, -⟩ := (ixo_some (by decide)).mp hx; omega
    have hd2 : decide (¬ v < nI 0 ∧ ¬ (-1 : Int32) < v) = false := by
      apply decide_eq_false
      rintro ⟨p1, p2⟩
      obtain ⟨j, hj, rfl⟩ := nI_of (x := v) p1
      exact p2 (Int32.lt_of_lt_of_le (by decide) (nI_pos' hj))
    rw [hn, hd2]; rfl
  · rw [pk_sub (by omega), m_in0 (by omega) (by omega), jb2_some]
    cases ixo v S.length <;> rfl
theorem m_sentence (h : Sh M) (hS : SV S) (x : MZ S M) (v y : Int32) : ∃ N, f_X12_sentence 65 v y M = some (sp_sentence S v y, N) ∧ Ey PW M N := by
  have h20 := hS.1
  unfold f_X12_sentence sp_sentence
  rw [jiv_n (t65 h), m_noSentence h hS x, jb2_some]
  cases hc : ixo v S.length with
  | none => exact ⟨M, rfl, Ey.rf⟩
  | some i =>
    obtain ⟨hi, rfl⟩ := (ixo_some (by omega)).mp hc
    obtain ⟨x1, x2⟩ := x.2 i hi
    obtain ⟨w1, w2, w3, w4⟩ := hS.2 i hi
    rw [if_pos (show bI (some i).isNone = 0 from rfl)]
    cases hk : ixo y 3 with
    | none =>
      have hk' := (ixo_none (by decide)).mp hk
      rw [if_neg (fun e => by subst e; rcases hk' with q | q <;> revert q <;> decide), if_neg (fun e => by subst e; rcases hk' with q | q <;> revert q <;> decide), if_neg (fun e => by subst e; rcases hk' with q | q <;> revert q <;> decide)]
      exact ⟨M, rfl, Ey.rf⟩
    | some q =>
      obtain ⟨hq, rfl⟩ := (ixo_some (by decide)).mp hk
      rcases (show q = 0 ∨ q = 1 ∨ q = 2 by omega) with rfl | rfl | rfl
      · rw [if_neg (by decide), if_pos (show nI 0 = 0 from rfl), jiv_n (t65 h), m_depthOf h (by omega) w1 w2 x2 x1, jb2_some]
        exact ⟨M, rfl, Ey.rf⟩
      · rw [if_neg (by decide), if_neg (by decide), if_pos rfl, q65_18 h, Option.bind_some, ldI_n (t75 h) (by omega) (by decide), Option.bind_some, x1]
        exact ⟨M, rfl, Ey.rf⟩
      · obtain ⟨N, p1, p2, p3, p4⟩ := m_text (M := M) (s := i) (by omega) w1 w2 w3 h x2 x1 (by show (tx (gs S i)).length ≤ 8000; omega)
        rw [if_pos rfl, jiv_n (t65 h), p1, jb2_some, gI_n (t65 (Sh_ey p2 h)), Option.bind_some, p3]
        exact ⟨N, rfl, p2⟩
theorem m_written (h : Sh M) (hS : SV S) (x : MZ S M) (v y : Int32) : ∃ N, f_X12_written 65 v y M = some (sp_written S v y, N) ∧ Ey PW M N := by
  have h20 := hS.1
  unfold f_X12_written sp_written
  rw [jiv_n (t65 h), m_noSentence h hS x, jb2_some]
  cases hc : ixo v S.length with
  | none => exact ⟨M, rfl, Ey.rf⟩
  | some i =>
    obtain ⟨hi, rfl⟩ := (ixo_some (by omega)).mp hc
    obtain ⟨x1, x2⟩ := x.2 i hi
    obtain ⟨w1, w2, w3, w4⟩ := hS.2 i hi
    obtain ⟨N, p1, p2, p3, p4⟩ := m_text (M := M) (s := i) (by omega) w1 w2 w3 h x2 x1 (by show (tx (gs S i)).length ≤ 8000; omega)
    have p3 : rI N 65 42 = nI (tx (gs S i)).length := p3
    have p4 : ∀ k, k < (tx (gs S i)).length → rI N 91 k = nI ((tx (gs S i)).getD k 0) := p4
    have hpos : 0 < (tx (gs S i)).length := by
      rcases wr_root (sg := 0) w1 with ⟨k, l, hk, -, hl, e⟩ | ⟨e, -⟩
      · obtain ⟨a, b, rfl, ha, -⟩ := wf2_cases hl
        unfold tx
        rw [e, wr_c, List.length_append, List.length_cons]; omega
      · obtain ⟨y, t, e2, -⟩ := wr_h (sg := 0) w1
        unfold tx
        rw [e, e2, List.length_cons]; omega
    rw [if_pos (show bI (some i).isNone = 0 from rfl), jiv_n (t65 h), p1, jb2_some, gI_n (t65 (Sh_ey p2 h)), Option.bind_some, p3, pk_sub hpos, m_in0 (by omega) hpos, jb2_some]
    dsimp only
    cases hk : ixo y (tx (gs S i)).length with
    | none => exact ⟨N, rfl, p2⟩
    | some j =>
      obtain ⟨hj, rfl⟩ := (ixo_some (by omega)).mp hk
      rw [if_neg (show ¬ bI (some j).isSome = 0 by show ¬ bI true = 0; decide), q65_43 (Sh_ey p2 h), Option.bind_some, ldB_n (t91 (Sh_ey p2 h)) (by omega) (by decide), Option.bind_some, p4 j hj]
      exact ⟨N, rfl, p2⟩
theorem m_holds {ws : Nat → Wd} (h : Sh M) (a : MA ws M) (hf : WF ws) (hS : SV S) (x : MZ S M) {z : Nat} (hz : rI M 65 44 = nI z) (v y : Int32) : ∃ N, f_X12_holds 65 v y M = some ((sp_holds S ws v y z).1, N) ∧ rI N 65 44 = nI (sp_holds S ws v y z).2 ∧ Ey PH M N := by
  have h20 := hS.1
  unfold f_X12_holds sp_holds
  rw [jiv_n (t65 h), m_noSentence h hS x, jb2_some]
  cases hc : ixo v S.length with
  | none => exact ⟨M, rfl, hz, Ey.rf⟩
  | some i =>
    obtain ⟨hi, rfl⟩ := (ixo_some (by omega)).mp hc
    rw [if_pos (show bI (some i).isNone = 0 from rfl), jiv_n (t65 h), m_noWorld h a hf, jb2_some]
    cases hd : wok ws y with
    | none => exact ⟨M, rfl, hz, Ey.rf⟩
    | some j =>
      obtain ⟨hj, rfl, h0⟩ := wok_some hd
      obtain ⟨x1, x2⟩ := x.2 i hi
      obtain ⟨w1, w2, w3, w4⟩ := hS.2 i hi
      rw [if_pos (show bI (some j).isNone = 0 from rfl), nm_mul]
      show ∃ N, ((pI 11 M 65 45 (nI 0)).bind fun M6 => (pI 11 M6 65 38 (nI 0)).bind fun M7 => l_X12_holds_37 jF0 65 (nI i) (nI j) (nI (600 * i)) (nI 0) M7) = _ ∧ _
      have e1 : Ey PH M (wI M 65 45 (nI 0)) := ey_wI Ey.rf (by unfold PH; omega)
      have e2 : Ey PH M (wI (wI M 65 45 (nI 0)) 65 38 (nI 0)) := ey_wI e1 (by unfold PH; omega)
      rw [pI_n (t65 h), Option.bind_some, pI_n (t65 (Sh_ey e1 h)), Option.bind_some]
      obtain ⟨N, p1, p2, p3⟩ := m_ask hf hj h0 (show i < 20 by omega) w1 w2 w3 (HW_ey e2 ⟨h, a⟩) (HQ_ey e2 (fun c k h1 h2 => PH_no h1 h2) x2) (z := z) (by rw [rI_wI, if_neg (by omega), rI_wI, if_neg (by omega)]; exact hz) (by rw [rI_wI, if_pos ⟨rfl, rfl⟩]) (by rw [rI_wI, if_neg (by omega), rI_wI, if_pos ⟨rfl, rfl⟩])
      exact ⟨N, p1, p2, e2.tr p3⟩
theorem m_asked (h : Sh M) {z : Nat} (hz : rI M 65 44 = nI z) : f_X12_asked 65 M = some (nI z, M) := by
  unfold f_X12_asked
  rw [gI_n (t65 h), Option.bind_some, hz]
  rfl
end SM
