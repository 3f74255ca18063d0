/-! READING: the class reads lists of parts, formulas, parts. -/
/-- what the recursion gives -/
def HRx (t : Tp) (rc : Nat → Nat → Int32 → Int32 → jM → jO Unit) (s q : Nat) (ow : Nat → Nat) (prec : Nat → Rs Fm) : Prop := ∀ p c M, AL t p c ow M → c ≤ p → ∃ N, rc 29 32 (nI s) (nI q) M = some ((), N) ∧ PO t q c ow (prec p) M N
section XF9
variable {M : jM} {t : Tp} {p c q w s : Nat} {ow : Nat → Nat} {rc : Nat → Nat → Int32 → Int32 → jM → jO Unit} {prec : Nat → Rs Fm}
theorem PO_w {r : Rs Fm} {N O : jM} (e : Ey PQ M N) (n1 : ∀ i, i < c → rI N 33 i = rI M 33 i) (h : PO t q c ow r N O) : PO t q c ow r M O := by
  obtain ⟨h1, h2⟩ := h
  refine ⟨e.tr h1, ?_⟩
  cases r with
  | inl w => exact h2
  | inr x =>
    obtain ⟨f, p'⟩ := x
    obtain ⟨p2, a1, a2, a3, a4, a5⟩ := h2
    exact ⟨p2, a1, a2, a3, a4, fun i hi => (a5 i hi).trans (n1 i hi)⟩
theorem P2_c33 {N : jM} (e : Ey P2 M N) : ∀ i, i < c → rI N 33 i = rI M 33 i := fun i _ => ey_rI e (by unfold P2; omega)
theorem P2_Q {c k : Nat} (h : P2 c k) : PQ c k := P23_Q (P2_23 h)
/-- the loop over the parts behind the first -/
theorem x_loop (ht : VT t) (hq8 : q ≤ 8) {k st : Nat} (hk : k = 38 ∨ k = 124) (hr : HRx t rc s q ow prec) (hro : ∀ p f p', prec p = .inr (f, p') → RO t s q p f p') : ∀ (n p p0 c1 F j : Nat) (M : jM), AL t p0 c1 ow M → sk t p0 = sk t p → pb t p = k → c1 ≤ sk t p + 1 → t.1 - sk t p < n → n < F → j + (t.1 - sk t p) ≤ 800 → ∃ N, l_X8_parseFormula_46 rc F 29 32 (nI s) (nI q) (nI st) (nI k) (nI j) M = j_X8_parseFormula_93 rc 32 (nI st) N ∧ PO t q c1 ow (pList t prec k n p) M N := by
  have h800 := ht.1
  intro n
  induction n with
  | zero => intro p p0 c1 F j M _ _ _ _ z; omega
  | succ n ih =>
    intro p p0 c1 F j M a hs hb hc hn hF hj
    have hlt := pb_lt (t := t) (p := p) (by omega)
    obtain ⟨F, rfl⟩ : ∃ G, F = G + 1 := ⟨F - 1, by omega⟩
    show ∃ N, b_X8_parseFormula_46 rc (l_X8_parseFormula_46 rc F) 29 32 (nI s) (nI q) (nI st) (nI k) (nI j) M = _ ∧ _
    unfold b_X8_parseFormula_46
    obtain ⟨N, n1, n2, n3⟩ := al_peek ht a
    have hbp : pbI t p0 = nI k := by
      rw [← pbI_sk, hs, pbI_sk]
      exact (pbI_eq ht (by omega)).mpr hb
    rw [hs] at n3
    obtain ⟨z1, z2⟩ := al_next ht n3 hlt
    rw [gI_n (t29 n3.1), Option.bind_some] at z1
    rw [if_neg (nI_ge (by omega) (by omega)), gI_n (t29 a.1), Option.bind_some, a.2.2.2.2.2.1, if_neg (by decide), jiv_n (t29 a.1), n1, jb2_some, if_pos hbp, gI_n (t29 n3.1), Option.bind_some, z1, Option.bind_some, jiv_n (t29 z2.1)]
    obtain ⟨O, o1, o2⟩ := hr _ _ _ z2 hc
    have e1 : Ey P2 M (wI N 29 2 (nI (sk t p + 1))) := n2.tr (ey_wI Ey.rf ⟨rfl, rfl⟩)
    have o2 := PO_w (e1.mono fun _ _ => P2_Q) (P2_c33 e1) o2
    rw [o1, jb2_some, nI_add, pList]
    obtain ⟨F, rfl⟩ : ∃ G, F = G + 1 := ⟨F - 1, by omega⟩
    cases hx : prec (sk t p + 1) with
    | inl w =>
      rw [hx] at o2
      obtain ⟨o3, o4⟩ := o2
      refine ⟨O, ?_, o3, o4⟩
      show b_X8_parseFormula_46 rc (l_X8_parseFormula_46 rc F) 29 32 (nI s) (nI q) (nI st) (nI k) (nI (j + 1)) O = _
      unfold b_X8_parseFormula_46
      rw [gI_n (t29 o4.1), Option.bind_some, o4.2.2.1, if_pos (nI_pos' o4.2.2.2.1)]
      split <;> rfl
    | inr x =>
      obtain ⟨f, p1⟩ := x
      obtain ⟨r1, r2, r3, r4, r5⟩ := hro _ _ _ hx
      have := sz_pos f
      rw [hx] at o2
      obtain ⟨o3, p2, o4, o5, o6, o7, o8⟩ := o2
      have hsp := (sk_ge (t := t) (p := p1)).1
      have hsp2 := (sk_ge (t := t) (p := p1)).2 r1
      show ∃ N, _ ∧ PO t q c1 ow (if pb t p1 = k then _ else _) M N
      by_cases hk1 : pb t p1 = k
      · rw [if_pos hk1]
        obtain ⟨Q, q1, q2, q3⟩ := ih p1 p2 (c1 + sz f) (F + 1) (j + 1) O o4 o5 hk1 (by omega) (by omega) (by omega) (by omega)
        refine ⟨Q, q1, o3.tr q2, ?_⟩
        cases hl : pList t prec k n p1 with
        | inl w => rw [hl] at q3; exact q3
        | inr y =>
          obtain ⟨r, p3⟩ := y
          rw [hl] at q3
          obtain ⟨p4, s1, s2, s3, s4, s5⟩ := q3
          refine ⟨p4, by rw [sz_c, ← Nat.add_assoc]; exact s1, s2, s3, ?_, fun i hi => (s5 i (by omega)).trans (o8 i hi)⟩
          show Nx (rI Q 33) c1 q f ∧ Nx (rI Q 33) (c1 + sz f) q r
          exact ⟨Nx_congr f c1 c1 q (fun i hi => s5 _ (by omega)) o7, s4⟩
      · rw [if_neg hk1]
        obtain ⟨Q, q1, q2, q3⟩ := al_peek ht o4
        refine ⟨Q, ?_, o3.tr (q2.mono fun _ _ => P2_Q), sk t p2, q3, by rw [sk_sk]; exact o5, by rw [o5]; exact hsp, Nx_congr f c1 c1 q (fun i hi => ey_rI q2 (by unfold P2; omega)) o7, fun i hi => (ey_rI q2 (by unfold P2; omega)).trans (o8 i hi)⟩
        show b_X8_parseFormula_46 rc (l_X8_parseFormula_46 rc F) 29 32 (nI s) (nI q) (nI st) (nI k) (nI (j + 1)) O = _
        unfold b_X8_parseFormula_46
        rw [if_neg (nI_ge (by omega) (by omega)), gI_n (t29 o4.1), Option.bind_some, o4.2.2.2.2.2.1, if_neg (by decide), jiv_n (t29 o4.1), q1, jb2_some, if_neg (fun z => hk1 (by
          rw [← pbI_sk, o5, pbI_sk] at z
          exact (pbI_eq ht (by omega)).mp z))]
/-- the list's node is closed -/
theorem PO_close {f : Fm} {p' k v : Nat} {N : jM} (ht : VT t) (hv : v < 65536) (h8 : c + sz f + 1 ≤ 800) (hx : rI N 33 c = nI (v + 65536)) (h : AL t p' (c + 1 + sz f) ow N) : f_X4_close 32 (nI c) N = some ((), wI N 33 c (nI (v + 65536 * (sz f + 1)))) ∧ Ey PNo N (wI N 33 c (nI (v + 65536 * (sz f + 1)))) ∧ AL t p' (c + 1 + sz f) ow (wI N 33 c (nI (v + 65536 * (sz f + 1)))) := by
  obtain ⟨a1, a2, a3, a4, a5, a6, a7⟩ := h
  have e : Ey PNo N (wI N 33 c (nI (v + 65536 * (sz f + 1)))) := ey_wI Ey.rf (Or.inr rfl)
  have := sz_pos f
  have z := x_nclose a1 a5 (by omega) (show c < c + 1 + sz f by omega) hv hx
  rw [show c + 1 + sz f - c = sz f + 1 by omega] at z
  exact ⟨z, e, Sh_ey e a1, XT_q (e.mono fun _ _ => PNo_Q) a2, by rw [rI_wI, if_neg (by omega)]; exact a3, a4, by rw [rI_wI, if_neg (by omega)]; exact a5, by rw [rI_wI, if_neg (by omega)]; exact a6, fun j hj => by rw [rI_wI, if_neg (by omega)]; exact a7 j hj⟩
theorem isL_n (ht : VT t) (M : jM) : f_X4_isList (pbI t p) M = some (bI (decide (pb t p = 38 ∨ pb t p = 124)), M) := by
  unfold f_X4_isList j_X4_isList_12
  by_cases h1 : pb t p = 38
  · rw [if_pos ((pbI_eq ht (by decide)).mpr h1), rZ_1, decide_eq_true (Or.inl h1)]
  · rw [if_neg (fun z => h1 ((pbI_eq ht (by decide)).mp z))]
    by_cases h2 : pb t p = 124
    · rw [if_pos ((pbI_eq ht (by decide)).mpr h2), rZ_1, decide_eq_true (Or.inr h2)]
    · rw [if_neg (fun z => h2 ((pbI_eq ht (by decide)).mp z)), rZ_0, decide_eq_false (by omega)]
theorem isQ_n (ht : VT t) (M : jM) : f_X4_isQuantifier (pbI t p) M = some (bI (isQ (pb t p)), M) := by
  unfold f_X4_isQuantifier j_X4_isQuantifier_12 isQ
  by_cases h1 : pb t p = 64
  · rw [if_pos ((pbI_eq ht (by decide)).mpr h1), rZ_1, decide_eq_true h1]; rfl
  · rw [if_neg (fun z => h1 ((pbI_eq ht (by decide)).mp z)), decide_eq_false h1]
    by_cases h2 : pb t p = 63
    · rw [if_pos ((pbI_eq ht (by decide)).mpr h2), rZ_1, decide_eq_true h2]; rfl
    · rw [if_neg (fun z => h2 ((pbI_eq ht (by decide)).mp z)), rZ_0, decide_eq_false h2]; rfl
theorem x_form (ht : VT t) (hq8 : q ≤ 8) (hr : HRx t rc s q ow prec) (hro : ∀ p f p', prec p = .inr (f, p') → RO t s q p f p') (a : AL t p c ow M) (hcp : c ≤ p) : ∃ N, f_X8_parseFormula rc 29 32 (nI s) (nI q) M = some ((), N) ∧ PO t q c ow (pForm t prec p) M N := by
  have h800 := ht.1
  unfold f_X8_parseFormula
  obtain ⟨O, o1, o2⟩ := hr _ _ _ a hcp
  rw [jiv_n (t32 a.1), x_ncount a.1 a.2.2.2.2.1, jb2_some, jiv_n (t29 a.1), o1, jb2_some]
  unfold pForm
  cases hx : prec p with
  | inl w =>
    rw [hx] at o2
    obtain ⟨o3, o4⟩ := o2
    obtain ⟨N, v, n1, n2, n3, -⟩ := de_peek ht o4
    rw [jiv_n (t29 o4.1), n1, jb2_some, gI_n (t29 n3.1), Option.bind_some, n3.2.2.1, if_pos (nI_pos' n3.2.2.2.1)]
    exact ⟨N, rfl, o3.tr (n2.mono fun _ _ => P2_Q), n3⟩
  | inr x =>
    obtain ⟨f, p1⟩ := x
    obtain ⟨r1, r2, r3, r4, r5⟩ := hro _ _ _ hx
    have := sz_pos f
    rw [hx] at o2
    obtain ⟨o3, p2, o4, o5, o6, o7, o8⟩ := o2
    obtain ⟨N, n1, n2, n3⟩ := al_peek ht o4
    have hsp := (sk_ge (t := t) (p := p1)).1
    have hsp2 := (sk_ge (t := t) (p := p1)).2 r1
    have hpe : pbI t p2 = pbI t p1 := by rw [← pbI_sk, o5, pbI_sk]
    rw [jiv_n (t29 o4.1), n1, jb2_some, gI_n (t29 n3.1), Option.bind_some, n3.2.2.2.2.2.1, if_neg (by decide), hpe, isL_n ht, jb2_some]
    rw [o5] at n3
    have e3 := o3.tr (n2.mono fun _ _ => P2_Q)
    have s3 : ∀ i, i < c + sz f → rI N 33 i = rI O 33 i := fun i _ => ey_rI n2 (by unfold P2; omega)
    show ∃ N, _ ∧ PO t q c ow (if pb t p1 = 38 ∨ pb t p1 = 124 then _ else _) M N
    by_cases hk : pb t p1 = 38 ∨ pb t p1 = 124
    · have hlt := pb_lt (t := t) (p := p1) (by omega)
      have hkv : pbI t p1 = nI (pb t p1) := (pbI_eq ht (by omega)).mpr rfl
      rw [decide_eq_true hk, if_neg (by decide), if_pos hk, jiv_n (t32 n3.1), hkv]
      obtain ⟨Q, q1, q2, q3, q4, q5, q6⟩ := x_nins n3.1 n3.2.2.2.2.1 (by omega) (show c ≤ c + sz f by omega) (k := pb t p1) (by omega)
      rw [q1, jb2_some]
      have aQ : AL t (sk t p1) (c + 1 + sz f) ow Q := by
        obtain ⟨b1, b2, b3, b4, b5, b6, b7⟩ := n3
        exact ⟨Sh_ey q2 b1, XT_q (q2.mono fun _ _ => PNo_Q) b2, by rw [ey_rI q2 (by unfold PNo; omega)]; exact b3, b4, by rw [q3]; congr 1; omega, by rw [ey_rI q2 (by unfold PNo; omega)]; exact b6, fun j hj => by rw [ey_rI q2 (by unfold PNo; omega)]; exact b7 j hj⟩
      obtain ⟨n0, hn0⟩ := jF_is
      obtain ⟨U, u1, u2⟩ := x_loop (st := c) ht hq8 hk hr hro 801 p1 (sk t p1) (c + 1 + sz f) jF0 1 Q aQ sk_sk rfl (by omega) (by omega) (by omega) (by omega)
      rw [u1]
      unfold j_X8_parseFormula_93
      have e4 := e3.tr (q2.mono fun _ _ => PNo_Q)
      cases hl : pList t prec (pb t p1) 801 p1 with
      | inl w =>
        rw [hl] at u2
        obtain ⟨u3, u4⟩ := u2
        obtain ⟨V, v1, v2, v3⟩ := de_close u4 (b := c) (by omega)
        rw [jiv_n (t32 u4.1), v1, jb2_some]
        exact ⟨V, rfl, (e4.tr u3).tr (v2.mono fun _ _ => PNo_Q), v3⟩
      | inr y =>
        obtain ⟨r, p3⟩ := y
        obtain ⟨l1, l2, l3, l4, l5⟩ := pList_ok hro 801 p1 r p3 hl
        rw [hl] at u2
        obtain ⟨u3, p4, u4, u5, u6, u7, u8⟩ := u2
        have hsz : sz (.branch 0 f r) = sz f + sz r := sz_c
        have u4' : AL t p4 (c + 1 + sz (.branch 0 f r)) ow U := by rw [hsz, ← Nat.add_assoc]; exact u4
        obtain ⟨v1, v2, v3⟩ := PO_close (f := .branch 0 f r) (k := 0) ht (v := pb t p1) (by omega) (by rw [hsz]; omega) (by rw [u8 c (by omega), q4]) u4'
        rw [jiv_n (t32 u4.1), v1, jb2_some]
        refine ⟨_, rfl, (e4.tr u3).tr (v2.mono fun _ _ => PNo_Q), p4, by rw [sz_u (by omega), ← Nat.add_assoc, Nat.add_right_comm]; exact v3, u5, u6, ?_, fun i hi => ?_⟩
        · simp only [Nx]
          rw [if_neg (by omega), if_neg (hk_L hk), if_pos trivial]
          refine ⟨by rw [rI_wI, if_pos ⟨rfl, rfl⟩], Nx_congr f c (c + 1) q (fun i hi => ?_) o7, Nx_congr r (c + 1 + sz f) (c + 1 + sz f) q (fun i hi => ?_) u7⟩
          · rw [rI_wI, if_neg (by omega), u8 _ (by omega), Nat.add_right_comm, q6 _ (by omega) (by omega), s3 _ (by omega)]
          · rw [rI_wI, if_neg (by omega)]
        · rw [rI_wI, if_neg (by omega), u8 _ (by omega), q5 i hi, s3 _ (by omega), o8 i hi]
    · rw [decide_eq_false hk, if_pos (by decide), if_neg hk]
      exact ⟨N, rfl, e3, sk t p1, n3, sk_sk, hsp, Nx_congr f c c q (fun i hi => s3 _ (by omega)) o7, fun i hi => (s3 i (by omega)).trans (o8 i hi)⟩
end XF9
