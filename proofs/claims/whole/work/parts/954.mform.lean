/-! READING: the reference goes on behind a part; lists; formulas. -/
section MF9
variable {M : jM} {t : Tp} {a c s q b q0 m p w : Nat} {l : Nat → Nat} {ia : Option Nat} {prec : Nat → Rs Fm}
theorem go_eq (ht : VT t) (B : BS t (sk t p) c s q l M) (h12 : s ≤ 13) (h : pb t p ≠ 41 ∨ s = 0) : f_X12_goOn 65 M = if pb t p = 38 then j_X12_goOn_83 65 (nI s) (nI 4) M else if pb t p = 124 then j_X12_goOn_83 65 (nI s) (nI 5) M else j_X12_goOn_83 65 (nI s) (nI 0) M := by
  unfold f_X12_goOn j_X12_goOn_62
  rw [jiv_n (t65 B.1), m_here B.1 ht B.2.1 B.2.2.1 B.2.2.2.1, jb2_some, gI_n (t65 B.1), Option.bind_some, jv_b, B.2.2.2.2.2.2.2.2.1, nI_sb (by omega), Nat.add_sub_cancel]
  simp only [hv_pb ht (show (38 : Nat) < 128 by decide), hv_pb ht (show (124 : Nat) < 128 by decide), hv_pb ht (show (41 : Nat) < 128 by decide)]
  by_cases h41 : pb t p = 41
  · rw [if_pos h41, Option.bind_some, if_pos (nI_le (by omega) (by decide))]
  · rw [if_neg h41]
theorem go_bad (ht : VT t) (B : BS t (sk t p) c s q l M) (h12 : s ≤ 12) (hgo : 0 < s ∨ sk t p < t.1) (h : pb t p ≠ 41 ∨ s = 0) {sg : Nat} (hsg : rI M 86 s = nI sg) (h38 : pb t p = 38 → sg = 5) (h124 : pb t p = 124 → sg = 4) : QB t (sk t p) p (nI 0) M := by
  have hg := go_eq ht B (by omega) h
  obtain ⟨w1, w2, w3⟩ := bs_wrong ht B
  rw [gI_n (t65 B.1), Option.bind_some] at w1
  have h107 : j_X12_goOn_107 65 M = some (bI false, wI M 65 37 (nI (sk t p))) := by
    unfold j_X12_goOn_107
    rw [gI_n (t65 B.1), Option.bind_some, w1, Option.bind_some]
    rfl
  have key : f_X12_goOn 65 M = some (bI false, wI M 65 37 (nI (sk t p))) := by
    rw [hg]
    unfold j_X12_goOn_83
    by_cases h1 : pb t p = 38
    · rw [if_pos h1, if_neg (by decide), q65_32 B.1, Option.bind_some, ldI_n (t86 B.1) (by omega) (by decide), Option.bind_some, hsg, h38 h1, if_neg (by decide), Option.bind_some, ldI_n (t86 B.1) (by omega) (by decide), Option.bind_some, hsg, h38 h1, if_neg (by decide), h107]
    · rw [if_neg h1]
      by_cases h2 : pb t p = 124
      · rw [if_pos h2, if_neg (by decide), q65_32 B.1, Option.bind_some, ldI_n (t86 B.1) (by omega) (by decide), Option.bind_some, hsg, h124 h2, if_neg (by decide), Option.bind_some, ldI_n (t86 B.1) (by omega) (by decide), Option.bind_some, hsg, h124 h2, if_neg (by decide), h107]
      · rw [if_neg h2, if_pos (show nI 0 = 0 from rfl), h107]
  exact QB_g ht B h12 hgo key (w3.mono fun _ _ => P37_G) w2
theorem rk_38 {k : Nat} (hk : k = 38 ∨ k = 124) : rk k = 4 ∨ rk k = 5 := by rcases hk with rfl | rfl <;> decide
theorem go_83 (ht : VT t) (B : BS t (sk t p) c s q l M) (h12 : s ≤ 12) {k : Nat} (hk : k = 38 ∨ k = 124) (hp : pb t p = k) : f_X12_goOn 65 M = j_X12_goOn_83 65 (nI s) (nI (rk k)) M := by
  rw [go_eq ht B (by omega) (Or.inl (by omega))]
  rcases hk with rfl | rfl
  · rw [if_pos hp]; rfl
  · rw [if_neg (by omega), if_pos hp]; rfl
theorem go_same (ht : VT t) (B : BS t (sk t p) c s q l M) (h12 : s ≤ 12) {k : Nat} (hk : k = 38 ∨ k = 124) (hp : pb t p = k) (hsg : rI M 86 s = nI (rk k)) : ∃ N, (∀ F, lp (F + 1) (nI 0) M = lp F (nI 1) N) ∧ Ey P36 M N ∧ BS t (sk t (sk t p + 1)) c s q l N := by
  have hlt := pb_lt (t := t) (p := p) (by omega)
  obtain ⟨z1, z2, z3⟩ := bs_next B hlt
  rw [gI_n (t65 B.1), Option.bind_some] at z1
  have hz : ¬ nI (rk k) = 0 := by rcases hk with rfl | rfl <;> decide
  have key : f_X12_goOn 65 M = some (bI true, wI M 65 36 (nI (sk t p + 1))) := by
    rw [go_83 ht B h12 hk hp]
    unfold j_X12_goOn_83 j_X12_goOn_117 j_X12_goOn_156
    rw [if_neg hz, q65_32 B.1, Option.bind_some, ldI_n (t86 B.1) (by omega) (by decide), Option.bind_some, hsg, if_neg hz, Option.bind_some, Option.bind_some, ldI_n (t86 B.1) (by omega) (by decide), Option.bind_some, hsg, if_pos rfl, Option.bind_some, if_neg hz, gI_n (t65 B.1), Option.bind_some, z1, Option.bind_some]
    rfl
  obtain ⟨N, n1, n2, n3⟩ := it_95 ht z2
  exact ⟨N, fun F => by rw [it_g ht B h12 (Or.inr hlt), key, jb2_some, n1]; rfl, z3.tr n2, n3⟩
theorem go_first (ht : VT t) (B : BS t (sk t p) c s q l M) (h12 : s ≤ 12) {k c0 : Nat} (hk : k = 38 ∨ k = 124) (hp : pb t p = k) (hsg : rI M 86 s = nI 0) (h85 : rI M 85 s = nI c0) (hc0 : c0 ≤ c) (h9 : c < 999) (h0 : ∀ i, c0 ≤ i → i < c → (∃ v, v < 128 ∧ rI M 80 i = nI v) ∧ ∃ u, u < 128 ∧ rI M 82 i = nI u) : ∃ N, (∀ F, lp (F + 1) (nI 0) M = lp F (nI 1) N) ∧ Ey PGr M N ∧ BS t (sk t (sk t p + 1)) (c + 1) s q l N ∧ (∀ i, rI N 84 i = rI M 84 i ∧ rI N 85 i = rI M 85 i ∧ (i ≠ s → rI N 86 i = rI M 86 i)) ∧ rI N 86 s = nI (rk k) ∧ rI N 80 c0 = nI (rk k) ∧ rI N 81 c0 = nI 1 ∧ rI N 82 c0 = nI 0 ∧ ∀ d, 80 ≤ d → d ≤ 82 → (∀ j, j < c0 → rI N d j = rI M d j) ∧ ∀ j, c0 ≤ j → j < c → rI N d (j + 1) = rI M d j := by
  have hlt := pb_lt (t := t) (p := p) (by omega)
  have hz : ¬ nI (rk k) = 0 := by rcases hk with rfl | rfl <;> decide
  have hk8 : rk k < 128 := by rcases rk_38 hk with h | h <;> omega
  obtain ⟨b1, b2, b3, b4, b5, b6, b7, b8, b9, b10⟩ := B
  have B : BS t (sk t p) c s q l M := ⟨b1, b2, b3, b4, b5, b6, b7, b8, b9, b10⟩
  have e1 : Ey PGr M (wI M 86 s (nI (rk k))) := ey_wI Ey.rf (Or.inr (Or.inr (by decide)))
  have h1 := Sh_ey e1 b1
  have r1 : ∀ d i, d ≠ 86 → rI (wI M 86 s (nI (rk k))) d i = rI M d i := fun d i hd => by rw [rI_wI, if_neg (by omega)]
  obtain ⟨O, o1, o2, o3, o4, o5, o6, o7⟩ := m_ins h1 (by rw [r1 _ _ (by decide)]; exact b8) (by omega) hc0 hk8 (fun i i1 i2 => by rw [r1 _ _ (by decide), r1 _ _ (by decide)]; exact h0 i i1 i2)
  have e2 : Ey PGr M (wI O 81 c0 (nI 1)) := ey_wI (e1.tr (o2.mono fun _ _ => PNm_G)) (Or.inr (Or.inl (by decide)))
  have h2 := Sh_ey (e1.tr (o2.mono fun _ _ => PNm_G)) b1
  have rO : ∀ d i, d ≠ 86 → ¬ PNm d i → rI O d i = rI M d i := fun d i hd hn => by rw [ey_rI o2 hn, r1 _ _ hd]
  have B2 : BS t (sk t p) (c + 1) s q l (wI O 81 c0 (nI 1)) := ⟨Sh_ey e2 b1, MT_g e2 b2, by rw [rI_wI, if_neg (by omega), rO _ _ (by decide) (by unfold PNm; omega)]; exact b3, b4, by rw [rI_wI, if_neg (by omega), rO _ _ (by decide) (by unfold PNm; omega)]; exact b5, by rw [rI_wI, if_neg (by omega), rO _ _ (by decide) (by unfold PNm; omega)]; exact b6, by rw [rI_wI, if_neg (by omega), rO _ _ (by decide) (by unfold PNm; omega)]; exact b7, by rw [rI_wI, if_neg (by omega)]; exact o3, by rw [rI_wI, if_neg (by omega), rO _ _ (by decide) (by unfold PNm; omega)]; exact b9, fun i hi => by rw [rI_wI, if_neg (by omega), rO _ _ (by decide) (by unfold PNm; omega)]; exact b10 i hi⟩
  obtain ⟨z1, z2, z3⟩ := bs_next B2 hlt
  rw [gI_n (t65 B2.1), Option.bind_some] at z1
  have key : f_X12_goOn 65 M = some (bI true, wI (wI O 81 c0 (nI 1)) 65 36 (nI (sk t p + 1))) := by
    rw [go_83 ht B h12 hk hp]
    unfold j_X12_goOn_83 j_X12_goOn_117 j_X12_goOn_156
    rw [if_neg hz, q65_32 b1, Option.bind_some, ldI_n (t86 b1) (by omega) (by decide), Option.bind_some, hsg, if_pos (show nI 0 = 0 from rfl), Option.bind_some, Option.bind_some, ldI_n (t86 b1) (by omega) (by decide), Option.bind_some, hsg, if_pos (show nI 0 = 0 from rfl), stI_n (t86 b1) (by omega) (by decide), Option.bind_some, q65_31 h1, Option.bind_some, ldI_n (t85 h1) (by omega) (by decide), Option.bind_some, r1 _ _ (by decide), h85, jiv_n (t65 h1), o1, jb2_some, q65_25 h2, Option.bind_some, q65_31 h2, Option.bind_some, ldI_n (t85 h2) (by omega) (by decide), Option.bind_some, rO _ _ (by decide) (by unfold PNm; omega), h85, stI_n (t81 h2) (by omega) (by decide), Option.bind_some, gI_n (t65 B2.1), Option.bind_some, z1, Option.bind_some]
    rfl
  obtain ⟨N, n1, n2, n3⟩ := it_95 ht z2
  have rN : ∀ d i, d ≠ 65 → d ≠ 81 → rI N d i = rI O d i := fun d i h5 h6 => by rw [ey_rI (z3.tr n2) (by unfold P36; omega), rI_wI, if_neg (by omega)]
  refine ⟨N, fun F => by rw [it_g ht B h12 (Or.inr hlt), key, jb2_some, n1]; rfl, (e2.tr (z3.mono fun _ _ => P36_G)).tr (n2.mono fun _ _ => P36_G), n3, fun i => ⟨by rw [rN _ _ (by decide) (by decide), rO _ _ (by decide) (by unfold PNm; omega)], by rw [rN _ _ (by decide) (by decide), rO _ _ (by decide) (by unfold PNm; omega)], fun hi => by rw [rN _ _ (by decide) (by decide), ey_rI o2 (by unfold PNm; omega), rI_wI, if_neg (by omega)]⟩, by rw [rN _ _ (by decide) (by decide), ey_rI o2 (by unfold PNm; omega), rI_wI, if_pos ⟨rfl, rfl⟩], by rw [rN _ _ (by decide) (by decide)]; exact o4, by rw [ey_rI (z3.tr n2) (by unfold P36; omega), rI_wI, if_pos ⟨rfl, rfl⟩], by rw [rN _ _ (by decide) (by decide)]; exact o6, fun d d1 d2 => ?_⟩
  have rN2 : ∀ j, j ≠ c0 → rI N d j = rI O d j := fun j hj => by rw [ey_rI (z3.tr n2) (by unfold P36; omega), rI_wI, if_neg (by omega)]
  exact ⟨fun j hj => by rw [rN2 j (by omega), (o7 d d1 d2).1 j hj, r1 _ _ (by omega)], fun j j1 j2 => by rw [rN2 _ (by omega), (o7 d d1 d2).2 j j1 j2, r1 _ _ (by omega)]⟩
/-- what the parts behind the first leave -/
def QL (t : Tp) (s q c1 c0 k : Nat) (l : Nat → Nat) (p : Nat) (r : Rs Fm) (M : jM) : Prop := match r with
  | .inl w => QB t w (sk t p + 1) (nI 1) M
  | .inr (f, p') => ∃ kk N, kk + sk t (sk t p + 1) ≤ sk t p' ∧ (∀ F, lp (F + kk) (nI 1) M = lp F (nI 0) N) ∧ BS t (sk t p') (c1 + sz f) s q l N ∧ Ey PGr M N ∧ Nr (rI N 80) (rI N 81) (rI N 82) c1 q f ∧ LoS s M N ∧ (∀ i, i < c1 → rI N 80 i = rI M 80 i ∧ rI N 82 i = rI M 82 i ∧ (i ≠ c0 → rI N 81 i = rI M 81 i)) ∧ rI N 81 c0 = rI M 81 c0 + nI (np f) ∧ pb t p' ≠ k
theorem m_list (ht : VT t) (h12 : s ≤ 12) {k c0 : Nat} (hk : k = 38 ∨ k = 124) (hr : HRm t s q l prec) (hro : ∀ p f p', prec p = .inr (f, p') → RO t s q p f p') : ∀ (n p c1 : Nat) (M : jM), t.1 - sk t p < n → BS t (sk t (sk t p + 1)) c1 s q l M → sk t p < t.1 → rI M 84 s = nI 0 → rI M 85 s = nI c0 → rI M 86 s = nI (rk k) → c0 < c1 → c1 ≤ sk t p + 1 → QL t s q c1 c0 k l p (pList t prec k n p) M := by
  intro n
  induction n with
  | zero => intro p c1 M z; omega
  | succ n ih =>
    intro p c1 M hn B hlt h84 h85 h86 hc hc1
    have hz : rI M 86 s ≠ 0 := by rw [h86]; rcases hk with rfl | rfl <;> decide
    have Q := hr s 0 q (sk t p + 1) c1 M (some c0) rfl B rfl h84 ⟨hz, h85, hc⟩ (by omega)
    rw [pList]
    cases hx : prec (sk t p + 1) with
    | inl w => rw [hx] at Q; exact Q
    | inr x =>
      obtain ⟨f, p1⟩ := x
      obtain ⟨r1, r2, r3, r4, r5⟩ := hro _ _ _ hx
      have hf := sz_pos f
      have hsp := (sk_ge (t := t) (p := p1)).1
      have hsp2 := (sk_ge (t := t) (p := sk t p + 1)).1
      rw [hx] at Q
      obtain ⟨k1, N, a1, a2, a3, a4, a5, a6, a7⟩ := Q
      show QL t s q c1 c0 k l p (if pb t p1 = k then _ else _) M
      obtain ⟨y1, y2, y3⟩ := a7 c0 hc
      rw [if_pos rfl] at y3
      obtain ⟨x1, x2, x3⟩ := a6 s (Nat.le_refl _)
      have lo : ∀ i, i < c1 → rI N 80 i = rI M 80 i ∧ rI N 82 i = rI M 82 i ∧ (i ≠ c0 → rI N 81 i = rI M 81 i) := fun i hi => by
        obtain ⟨z1, z2, z3⟩ := a7 i hi
        exact ⟨z1, z2, fun hne => by rw [z3, if_neg (fun y => hne (by cases y; rfl))]⟩
      by_cases hk1 : pb t p1 = k
      · rw [if_pos hk1]
        obtain ⟨N2, g1, g2, g3⟩ := go_same ht a3 h12 hk hk1 (by rw [x3]; exact h86)
        have hlt2 := pb_lt (t := t) (p := p1) (by omega)
        have g84 : ∀ d i, d ≠ 65 → rI N2 d i = rI N d i := fun d i hd => ey_rI g2 (by unfold P36; omega)
        have Q2 := ih p1 (c1 + sz f) N2 (by omega) g3 hlt2 (by rw [g84 _ _ (by decide), x1]; exact h84) (by rw [g84 _ _ (by decide), x2]; exact h85) (by rw [g84 _ _ (by decide), x3]; exact h86) (by omega) (by omega)
        have hsp3 := (sk_ge (t := t) (p := sk t p1 + 1)).1
        cases hl : pList t prec k n p1 with
        | inl w =>
          rw [hl] at Q2
          obtain ⟨k2, N3, u1, u2, u3, u4⟩ := Q2
          refine ⟨k1 + (1 + k2), N3, by omega, fun F => ?_, (a4.tr (g2.mono fun _ _ => P36_G)).tr u3, u4⟩
          rw [show F + (k1 + (1 + k2)) = F + k2 + 1 + k1 by omega, a2, g1, u2]
        | inr y =>
          obtain ⟨r, p2⟩ := y
          rw [hl] at Q2
          obtain ⟨k2, N3, u1, u2, u3, u4, u5, u6, u7, u8, u9⟩ := Q2
          have n3 : ∀ i, i < c1 + sz f → i ≠ c0 → rI N3 80 i = rI N 80 i ∧ rI N3 81 i = rI N 81 i ∧ rI N3 82 i = rI N 82 i := fun i hi hne => by
            obtain ⟨v1, v2, v3⟩ := u7 i hi
            exact ⟨by rw [v1, g84 _ _ (by decide)], by rw [v3 hne, g84 _ _ (by decide)], by rw [v2, g84 _ _ (by decide)]⟩
          refine ⟨k1 + (1 + k2), N3, by omega, fun F => ?_, by rw [sz_c, ← Nat.add_assoc]; exact u3, (a4.tr (g2.mono fun _ _ => P36_G)).tr u4, ?_, (a6.tr (LoS_ey g2 P36_s)).tr u6, fun i hi => ?_, ?_, u9⟩
          · rw [show F + (k1 + (1 + k2)) = F + k2 + 1 + k1 by omega, a2, g1, u2]
          · simp only [Nr]
            rw [if_pos trivial]
            exact ⟨Nr_congr f c1 c1 q (fun i hi => n3 _ (by omega) (by omega)) a5, u5⟩
          · obtain ⟨v1, v2, v3⟩ := u7 i (by omega)
            obtain ⟨w1, w2, w3⟩ := lo i hi
            exact ⟨by rw [v1, g84 _ _ (by decide), w1], by rw [v2, g84 _ _ (by decide), w2], fun hne => by rw [v3 hne, g84 _ _ (by decide), w3 hne]⟩
          · rw [u8, g84 _ _ (by decide), y3, np_c, Int32.add_assoc, nI_add, Nat.add_comm 1]
      · rw [if_neg hk1]
        exact ⟨k1, N, a1, a2, a3, a4, a5, a6, lo, by rw [y3, np_0 r2], hk1⟩
/-- what a formula leaves -/
def QF (t : Tp) (s q c : Nat) (l : Nat → Nat) (p : Nat) (r : Rs Fm) (M : jM) : Prop := match r with
  | .inl w => QB t w p (nI 1) M
  | .inr (f, p') => ∃ k N sg, k + sk t p ≤ sk t p' ∧ (∀ F, lp (F + k) (nI 1) M = lp F (nI 0) N) ∧ BS t (sk t p') (c + sz f) s q l N ∧ Ey PGr M N ∧ Nr (rI N 80) (rI N 81) (rI N 82) c q f ∧ (∀ i, i < s → rI N 84 i = rI M 84 i ∧ rI N 85 i = rI M 85 i ∧ rI N 86 i = rI M 86 i) ∧ rI N 86 s = nI sg ∧ (pb t p' = 38 → sg = 5) ∧ (pb t p' = 124 → sg = 4) ∧ ∀ i, i < c → rI N 80 i = rI M 80 i ∧ rI N 81 i = rI M 81 i ∧ rI N 82 i = rI M 82 i
theorem m_form (ht : VT t) (h12 : s ≤ 12) (hr : HRm t s q l prec) (hro : ∀ p f p', prec p = .inr (f, p') → RO t s q p f p') (B : BS t (sk t p) c s q l M) (hc : c ≤ p) (h84 : rI M 84 s = nI 0) (h85 : rI M 85 s = nI c) (h86 : rI M 86 s = nI 0) : QF t s q c l p (pForm t prec p) M := by
  have h8 := ht.1
  have Q := hr s 0 q p c M none rfl B rfl h84 h86 hc
  unfold pForm
  cases hx : prec p with
  | inl w => rw [hx] at Q; exact Q
  | inr x =>
    obtain ⟨f, p1⟩ := x
    obtain ⟨r1, r2, r3, r4, r5⟩ := hro _ _ _ hx
    have hf := sz_pos f
    have hsp := (sk_ge (t := t) (p := p1)).1
    rw [hx] at Q
    obtain ⟨k1, N, a1, a2, a3, a4, a5, a6, a7⟩ := Q
    obtain ⟨x1, x2, x3⟩ := a6 s (Nat.le_refl _)
    have lo : ∀ i, i < c → rI N 80 i = rI M 80 i ∧ rI N 81 i = rI M 81 i ∧ rI N 82 i = rI M 82 i := fun i hi => by
      obtain ⟨z1, z2, z3⟩ := a7 i hi
      rw [if_neg (by simp)] at z3
      exact ⟨z1, z3, z2⟩
    show QF t s q c l p (if pb t p1 = 38 ∨ pb t p1 = 124 then _ else _) M
    by_cases hk : pb t p1 = 38 ∨ pb t p1 = 124
    · rw [if_pos hk]
      have hlt := pb_lt (t := t) (p := p1) (by omega)
      have h0 : ∀ i, c ≤ i → i < c + sz f → (∃ v, v < 128 ∧ rI N 80 i = nI v) ∧ ∃ u, u < 128 ∧ rI N 82 i = nI u := fun i i1 i2 => by
        have z := (n8_all f q).1 r2 _ _ _ c (i - c) a5 (by omega)
        rw [Nat.add_sub_cancel' i1] at z
        exact z
      obtain ⟨N2, g1, g2, g3, g4, g5, g6, g7, g8, g9⟩ := go_first ht a3 h12 hk rfl (by rw [x3]; exact h86) (by rw [x2]; exact h85) (by omega) (by omega) h0
      have Q2 := m_list (c0 := c) ht h12 hk hr hro 801 p1 (c + sz f + 1) N2 (by omega) g3 hlt (by rw [(g4 s).1, x1]; exact h84) (by rw [(g4 s).2.1, x2]; exact h85) g5 (by omega) (by omega)
      have hsp3 := (sk_ge (t := t) (p := sk t p1 + 1)).1
      cases hl : pList t prec (pb t p1) 801 p1 with
      | inl w =>
        rw [hl] at Q2
        obtain ⟨k2, N3, u1, u2, u3, u4⟩ := Q2
        refine ⟨k1 + (1 + k2), N3, by omega, fun F => ?_, (a4.tr g2).tr u3, u4⟩
        rw [show F + (k1 + (1 + k2)) = F + k2 + 1 + k1 by omega, a2, g1, u2]
      | inr y =>
        obtain ⟨r, p2⟩ := y
        rw [hl] at Q2
        obtain ⟨k2, N3, u1, u2, u3, u4, u5, u6, u7, u8, u9⟩ := Q2
        obtain ⟨l1, l2, l3, l4, l5⟩ := pList_ok hro 801 p1 r p2 hl
        refine ⟨k1 + (1 + k2), N3, rk (pb t p1), by omega, fun F => ?_, by rw [sz_u (by omega), sz_c, show c + (sz f + sz r + 1) = c + sz f + 1 + sz r by omega]; exact u3, (a4.tr g2).tr u4, ?_, fun i hi => ?_, by rw [(u6 s (Nat.le_refl _)).2.2]; exact g5, fun h38 => ?_, fun h124 => ?_, fun i hi => ?_⟩
        · rw [show F + (k1 + (1 + k2)) = F + k2 + 1 + k1 by omega, a2, g1, u2]
        · obtain ⟨v1, v2, v3⟩ := u7 c (by omega)
          simp only [Nr]
          rw [if_neg (by omega), if_neg (hk_L hk), if_neg (by omega), if_neg (hk_L hk), if_pos trivial]
          refine ⟨⟨by rw [v1]; exact g6, by rw [u8, g7, np_c, nI_add, Nat.add_comm 1], by rw [v2]; exact g8⟩, Nr_congr f c (c + 1) q (fun i hi => ?_) a5, by rw [show c + 1 + sz f = c + sz f + 1 by omega]; exact u5⟩
          obtain ⟨v1, v2, v3⟩ := u7 (c + 1 + i) (by omega)
          exact ⟨by rw [v1, Nat.add_right_comm, (g9 80 (by decide) (by decide)).2 _ (by omega) (by omega)], by rw [v3 (by omega), Nat.add_right_comm, (g9 81 (by decide) (by decide)).2 _ (by omega) (by omega)], by rw [v2, Nat.add_right_comm, (g9 82 (by decide) (by decide)).2 _ (by omega) (by omega)]⟩
        · obtain ⟨v1, v2, v3⟩ := u6 i (by omega)
          obtain ⟨w1, w2, w3⟩ := a6 i (by omega)
          exact ⟨by rw [v1, (g4 i).1, w1], by rw [v2, (g4 i).2.1, w2], by rw [v3, (g4 i).2.2 (by omega), w3]⟩
        · have : pb t p1 = 124 := by omega
          rw [this]; rfl
        · have : pb t p1 = 38 := by omega
          rw [this]; rfl
        · obtain ⟨v1, v2, v3⟩ := u7 i (by omega)
          obtain ⟨w1, w2, w3⟩ := lo i hi
          exact ⟨by rw [v1, (g9 80 (by decide) (by decide)).1 i hi, w1], by rw [v3 (by omega), (g9 81 (by decide) (by decide)).1 i hi, w2], by rw [v2, (g9 82 (by decide) (by decide)).1 i hi, w3]⟩
    · rw [if_neg hk]
      exact ⟨k1, N, 0, a1, a2, a3, a4, a5, fun i hi => a6 i (by omega), by rw [x3]; exact h86, fun h => absurd (Or.inl h) hk, fun h => absurd (Or.inr h) hk, lo⟩
end MF9
