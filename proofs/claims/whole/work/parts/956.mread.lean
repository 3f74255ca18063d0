/-! READING: the reference reads parts, texts; its read. -/
section MR9
variable {M : jM} {t : Tp} {a c s q b q0 m p w : Nat} {l : Nat → Nat} {ia : Option Nat} {prec : Nat → Rs Fm}
/-- a letter more -/
theorem bs_let {x : Nat} (hq : q < 8) (B : BS t a c s q l M) : BS t a c s (q + 1) (up1 l q x) (wI (wI M 87 q (nI x)) 65 34 (nI (q + 1))) ∧ Ey PGr M (wI (wI M 87 q (nI x)) 65 34 (nI (q + 1))) := by
  obtain ⟨b1, b2, b3, b4, b5, b6, b7, b8, b9, b10⟩ := B
  have e : Ey PGr M (wI (wI M 87 q (nI x)) 65 34 (nI (q + 1))) := ey_wI (ey_wI Ey.rf (Or.inr (Or.inr (by decide)))) (Or.inl ⟨rfl, Or.inr (Or.inr (Or.inr (Or.inl rfl)))⟩)
  refine ⟨⟨Sh_ey e b1, MT_g e b2, by rw [rI_wI, if_neg (by omega), rI_wI, if_neg (by omega)]; exact b3, b4, by rw [rI_wI, if_neg (by omega), rI_wI, if_neg (by omega)]; exact b5, by rw [rI_wI, if_neg (by omega), rI_wI, if_neg (by omega)]; exact b6, by rw [rI_wI, if_pos ⟨rfl, rfl⟩], by rw [rI_wI, if_neg (by omega), rI_wI, if_neg (by omega)]; exact b8, by rw [rI_wI, if_neg (by omega), rI_wI, if_neg (by omega)]; exact b9, fun k hk => ?_⟩, e⟩
  rw [rI_wI, if_neg (by omega), rI_wI]
  unfold up1
  by_cases h : k = q
  · rw [if_pos ⟨rfl, h⟩, if_pos h]
  · rw [if_neg (by omega), if_neg h]; exact b10 k (by omega)
/-- a turn of the loop that goes on wanting a part -/
theorem it_0 (ht : VT t) {M1 : jM} {a1 c1 s1 q1 : Nat} {l1 : Nat → Nat} (B : BS t a c s q l M) (hb : f_X12_beginPart 65 M = some (bI false, M1)) (B1 : BS t a1 c1 s1 q1 l1 M1) : ∃ N, (∀ F, lp (F + 1) (nI 1) M = lp F (nI 1) N) ∧ Ey P36 M1 N ∧ BS t (sk t a1) c1 s1 q1 l1 N := by
  obtain ⟨N, n1, n2, n3⟩ := it_95 ht B1
  exact ⟨N, fun F => by rw [it_b B, hb, jb2_some, if_pos (show bI false = 0 from rfl), n1], n2, n3⟩
theorem m_quant (ht : VT t) (hq8 : q ≤ 8) {k : Nat} (hk : k = 64 ∨ k = 63) (B : BS t (sk t p) c s q l M) (h12 : s ≤ 12) (hc : c ≤ sk t p) (hp : pb t p = k) :
    (12 ≤ s ∨ 8 ≤ q → QB t (sk t p) p (nI 1) M) ∧ (¬ (12 ≤ s ∨ 8 ≤ q) → (¬ (97 ≤ pb t (sk t p + 1) ∧ pb t (sk t p + 1) ≤ 104) → QB t (sk t (sk t p + 1)) p (nI 1) M) ∧ (97 ≤ pb t (sk t p + 1) ∧ pb t (sk t p + 1) ≤ 104 → ∃ N, (∀ F, lp (F + 1) (nI 1) M = lp F (nI 1) N) ∧ Ey PGr M N ∧ BS t (sk t (sk t (sk t p + 1) + 1)) (c + 1) (s + 1) (q + 1) (up1 l q (pb t (sk t p + 1))) N ∧ (∀ i, i ≤ s → rI N 84 i = rI M 84 i) ∧ (∀ i, rI N 85 i = rI M 85 i ∧ rI N 86 i = rI M 86 i) ∧ rI N 84 (s + 1) = nI (rk k) ∧ (∀ i, i < c → rI N 80 i = rI M 80 i ∧ rI N 81 i = rI M 81 i ∧ rI N 82 i = rI M 82 i) ∧ rI N 80 c = nI (rk k) ∧ rI N 81 c = nI q ∧ rI N 82 c = nI 0)) := by
  have h8 := ht.1
  have hlt := pb_lt (t := t) (p := p) (by omega)
  have hkr : rk k < 128 := by rcases hk with rfl | rfl <;> decide
  have hbp : f_X12_beginPart 65 M = jb2 (f_X12_quantifier 65 (nI (rk k)) M) fun _ M3 => rZ (nI 0) M3 := by
    rw [bp_eq ht B]
    rcases hk with rfl | rfl
    · rw [if_neg (by omega), if_neg (by omega), if_neg (by omega), if_neg (by omega), if_pos hp]; rfl
    · rw [if_neg (by omega), if_neg (by omega), if_neg (by omega), if_pos hp]; rfl
  obtain ⟨w1, w2, w3⟩ := bs_wrong ht B
  rw [gI_n (t65 B.1), Option.bind_some] at w1
  have bad : f_X12_quantifier 65 (nI (rk k)) M = j_X12_quantifier_18 65 M → QB t (sk t p) p (nI 1) M := by
    intro h
    refine QB_b (v := 0) ht B (x := bI false) (N := wI M 65 37 (nI (sk t p))) ?_ (w3.mono fun _ _ => P37_G) w2
    rw [hbp, h]
    unfold j_X12_quantifier_18
    rw [gI_n (t65 B.1), Option.bind_some, w1, Option.bind_some]
    rfl
  refine ⟨fun hh => bad ?_, fun hh => ?_⟩
  · unfold f_X12_quantifier
    rw [gI_n (t65 B.1), Option.bind_some, B.2.2.2.2.2.1]
    by_cases h1 : 12 ≤ s
    · rw [if_pos (by rw [show s = 12 by omega])]
    · rw [if_neg (fun z => h1 (by have := (nI_eq (by omega) (by decide)).mp z; omega)), gI_n (t65 B.1), Option.bind_some, B.2.2.2.2.2.2.1, if_pos (by rw [show q = 8 by omega])]
  · obtain ⟨z1, z2, z3⟩ := bs_next B hlt
    rw [gI_n (t65 B.1), Option.bind_some] at z1
    obtain ⟨O, o1, o2, o3⟩ := bs_skip ht z2
    have e1 : Ey P36 M O := z3.tr o2
    have head : f_X12_quantifier 65 (nI (rk k)) M = (if bI (decide (97 ≤ pb t (sk t p + 1) ∧ pb t (sk t p + 1) ≤ 104)) = 0 then
        ((gI 11 O 65 36).bind fun x10 => (pI 11 O 65 37 x10).bind fun M11 => rt () M11)
      else
        ((gI 11 O 65 34).bind fun x12 => jb2 (jiv 11 O 65 (f_X12_emit 65 (nI (rk k)) x12 (nI 0) O)) fun _ M13 => (gR 11 M13 65 35).bind fun r14 => (gI 11 M13 65 34).bind fun x15 => jb2 (jiv 11 M13 65 (f_X12_here 65 M13)) fun x17 M16 => (stI M16 r14 x15 x17).bind fun M18 => (gI 11 M18 65 34).bind fun x19 => (pI 11 M18 65 34 (x19 + (nI 1))).bind fun M20 => jb2 (jiv 11 M20 65 (f_X12_openNode 65 (nI (rk k)) M20)) fun _ M21 => (gI 11 M21 65 36).bind fun x22 => (pI 11 M21 65 36 (x22 + (nI 1))).bind fun M23 => rt () M23)) := by
      unfold f_X12_quantifier
      rw [gI_n (t65 B.1), Option.bind_some, B.2.2.2.2.2.1, if_neg (fun z => hh (Or.inl (by have := (nI_eq (by omega) (by decide)).mp z; omega))), gI_n (t65 B.1), Option.bind_some, B.2.2.2.2.2.2.1, if_neg (fun z => hh (Or.inr (by have := (nI_eq (by omega) (by decide)).mp z; omega))), gI_n (t65 B.1), Option.bind_some, z1, Option.bind_some, jiv_n (t65 z2.1), o1, jb2_some, jiv_n (t65 o3.1), m_here o3.1 ht o3.2.1 o3.2.2.1 o3.2.2.2.1, jb2_some, in_n ht, jb2_some]
    refine ⟨fun hx => ?_, fun hx => ?_⟩
    · obtain ⟨y1, y2, y3⟩ := bs_wrong ht o3
      rw [decide_eq_false hx, if_pos (show bI false = 0 from rfl)] at head
      rw [gI_n (t65 o3.1), Option.bind_some] at y1
      rw [gI_n (t65 o3.1), Option.bind_some, y1, Option.bind_some] at head
      have hbp2 := hbp
      rw [head] at hbp2
      exact QB_b (v := 0) ht B (x := bI false) hbp2 ((e1.mono fun _ _ => P36_G).tr (y3.mono fun _ _ => P37_G)) y2
    · rw [decide_eq_true hx, if_neg (by decide)] at head
      have hlt2 := pb_lt (t := t) (p := sk t p + 1) (by omega)
      have B2 := bs_em (K := rk k) (y := 0) (x := nI q) o3
      obtain ⟨B3, e3⟩ := bs_let (x := pb t (sk t p + 1)) (by omega) B2
      obtain ⟨U, u1, u2, u3, u4⟩ := m_open (k := rk k) h12 B3
      obtain ⟨v1, v2, v3⟩ := bs_next u2 hlt2
      rw [gI_n (t65 u2.1), Option.bind_some] at v1
      have hst : tg (em O c (rk k) (nI q) 0) 87 = (100, 10) := t87 B2.1
      have e2a : Ey PGr (em O c (rk k) (nI q) 0) (wI (em O c (rk k) (nI q) 0) 87 q (nI (pb t (sk t p + 1)))) := ey_wI Ey.rf (Or.inr (Or.inr (by decide)))
      have hS2 := Sh_ey e2a B2.1
      have g34 : rI (wI (em O c (rk k) (nI q) 0) 87 q (nI (pb t (sk t p + 1)))) 65 34 = nI q := by rw [rI_wI, if_neg (by omega)]; exact B2.2.2.2.2.2.2.1
      rw [gI_n (t65 o3.1), Option.bind_some, o3.2.2.2.2.2.2.1, jiv_n (t65 o3.1), m_emit o3.1 o3.2.2.2.2.2.2.2.1 (by omega) hkr (by decide), jb2_some, q65_35 B2.1, Option.bind_some, gI_n (t65 B2.1), Option.bind_some, B2.2.2.2.2.2.2.1, jiv_n (t65 B2.1), m_here B2.1 ht B2.2.1 B2.2.2.1 B2.2.2.2.1, jb2_some, (hv_eq ht (show pb t (sk t p + 1) < 128 by omega)).mpr rfl, stI_n hst (by omega) (by decide), Option.bind_some, gI_n (t65 hS2), Option.bind_some, g34, nI_add, pI_n (t65 hS2), Option.bind_some, jiv_n (t65 B3.1), u1, jb2_some, gI_n (t65 u2.1), Option.bind_some, v1, Option.bind_some] at head
      have hbp2 := hbp
      rw [head] at hbp2
      obtain ⟨N, n1, n2, n3⟩ := it_0 ht B hbp2 v2
      have eU : Ey PGr M N := (((((e1.mono fun _ _ => P36_G).tr (em_ey.mono fun _ _ => PNm_G)).tr e3).tr (u4.mono fun _ _ => POn_G)).tr (v3.mono fun _ _ => P36_G)).tr (n2.mono fun _ _ => P36_G)
      have ta : ∀ d i, d ≠ 65 → rI N d i = rI U d i := fun d i hd => by rw [ey_rI n2 (by unfold P36; omega), ey_rI v3 (by unfold P36; omega)]
      have tb' : ∀ d i, d ≠ 65 → ¬ (d = 84 ∧ i = s + 1) → d ≠ 87 → rI U d i = rI (em O c (rk k) (nI q) 0) d i := fun d i h1 h2 h3 => by rw [ey_rI u4 (by unfold POn; omega), rI_wI, if_neg (by omega), rI_wI, if_neg (by omega)]
      have tc : ∀ d i, d ≠ 65 → ¬ (80 ≤ d ∧ d ≤ 82) → rI (em O c (rk k) (nI q) 0) d i = rI M d i := fun d i h1 h2 => by rw [ey_rI em_ey (by unfold PNm; omega), ey_rI e1 (by unfold P36; omega)]
      have td : ∀ d i, d ≠ 65 → rI O d i = rI M d i := fun d i h1 => ey_rI e1 (by unfold P36; omega)
      refine ⟨N, n1, eU, n3, fun i hi => ?_, fun i => ⟨?_, ?_⟩, ?_, fun i hi => ⟨?_, ?_, ?_⟩, ?_, ?_, ?_⟩
      · rw [ta _ _ (by decide), tb' _ _ (by decide) (by omega) (by decide), tc _ _ (by decide) (by decide)]
      · rw [ta _ _ (by decide), tb' _ _ (by decide) (by omega) (by decide), tc _ _ (by decide) (by decide)]
      · rw [ta _ _ (by decide), tb' _ _ (by decide) (by omega) (by decide), tc _ _ (by decide) (by decide)]
      · rw [ta _ _ (by decide)]; exact u3
      · rw [ta _ _ (by decide), tb' _ _ (by decide) (by omega) (by decide), em_k, if_neg (by omega), td _ _ (by decide)]
      · rw [ta _ _ (by decide), tb' _ _ (by decide) (by omega) (by decide), em_x, if_neg (by omega), td _ _ (by decide)]
      · rw [ta _ _ (by decide), tb' _ _ (by decide) (by omega) (by decide), em_y, if_neg (by omega), td _ _ (by decide)]
      · rw [ta _ _ (by decide), tb' _ _ (by decide) (by omega) (by decide), em_k, if_pos rfl]
      · rw [ta _ _ (by decide), tb' _ _ (by decide) (by omega) (by decide), em_x, if_pos rfl]
      · rw [ta _ _ (by decide), tb' _ _ (by decide) (by omega) (by decide), em_y, if_pos rfl]
theorem m_96 (ht : VT t) (B : BS t (sk t p) c s q l M) (h12 : s ≤ 12) (hp : pb t p = 45 ∨ pb t p = 40) : f_X12_beginPart 65 M = j_X12_beginPart_96 65 M ∧ (12 ≤ s → QB t (sk t p) p (nI 1) M) := by
  have hbp : f_X12_beginPart 65 M = j_X12_beginPart_96 65 M := by
    rw [bp_eq ht B]
    rcases hp with hp | hp
    · rw [if_neg (by omega), if_pos hp]
    · rw [if_pos hp]
  refine ⟨hbp, fun h => ?_⟩
  obtain ⟨w1, w2, w3⟩ := bs_wrong ht B
  rw [gI_n (t65 B.1), Option.bind_some] at w1
  refine QB_b (v := 0) ht B (x := bI false) (N := wI M 65 37 (nI (sk t p))) ?_ (w3.mono fun _ _ => P37_G) w2
  rw [hbp]
  unfold j_X12_beginPart_96
  rw [gI_n (t65 B.1), Option.bind_some, B.2.2.2.2.2.1, if_pos (by rw [show s = 12 by omega]), gI_n (t65 B.1), Option.bind_some, w1, Option.bind_some]
  rfl
theorem lw_le (l : Nat → Nat) (q j : Nat) : lw l q j ≤ q := lwc_le q
theorem m_part (ht : VT t) : ∀ (n s q : Nat) (l : Nat → Nat), n + s = 13 → s ≤ 12 → q ≤ 8 → lok q l → HRm t s q l (pPart t n s q (lw l q)) := by
  have h8 := ht.1
  intro n
  induction n with
  | zero => intro s q l h1 h2; omega
  | succ n ih =>
    intro s q l hns hs12 hq8 hl b m q0 p c M ia hs B hf h84 hi hcp
    have hsp := (sk_ge (t := t) (p := p)).1
    have hpt := B.2.2.2.1
    have hia : ia ≠ some c := fun z => by subst z; have := hi.2.2; omega
    have hq0 := fr_le m q hf
    rw [pPart]
    by_cases hQ : isQ (pb t p) = true
    · have hk : pb t p = 64 ∨ pb t p = 63 := by simpa [isQ] using hQ
      rw [if_pos hQ]
      obtain ⟨c1, c2⟩ := m_quant ht hq8 hk B hs12 (by omega) rfl
      by_cases h1 : 12 ≤ s ∨ 8 ≤ q
      · rw [if_pos h1]; exact c1 h1
      · rw [if_neg h1]
        obtain ⟨c3, c4⟩ := c2 h1
        by_cases h2 : 97 ≤ pb t (sk t p + 1) ∧ pb t (sk t p + 1) ≤ 104
        · rw [if_pos h2]
          obtain ⟨N, d1, d2, d3, d4, d5, d6, d7, d8, d9, d10⟩ := c4 h2
          have hll := lok_up hl h2
          have Q := ih (s + 1) (q + 1) (up1 l q (pb t (sk t p + 1))) (by omega) (by omega) (by omega) hll b (m + 1) q0 (sk t (sk t p + 1) + 1) (c + 1) N ia (by omega) d3 ⟨q, fr_same m q (fun i hi => d4 i (by omega)) hf, Or.inr ⟨by
              rw [show b + 1 + m = s + 1 by omega, d6]
              rcases hk with hk | hk <;> rw [hk]
              · exact Or.inl rfl
              · exact Or.inr rfl, rfl⟩⟩ (by rw [d4 b (by omega)]; exact h84) (by
              cases ia with
              | none => show rI N 86 b = nI 0; rw [(d5 b).2]; exact hi
              | some x => exact ⟨by rw [(d5 b).2]; exact hi.1, by rw [(d5 b).1]; exact hi.2.1, by have := hi.2.2; omega⟩) (by have := (sk_ge (t := t) (p := sk t p + 1)).1; omega)
          have elw : lw (up1 l q (pb t (sk t p + 1))) (q + 1) = up1 (lw l q) (pb t (sk t p + 1) - 97) (q + 1) := by
            have := lw_up (l := l) (q := q) (j0 := pb t (sk t p + 1) - 97)
            rw [Nat.add_sub_cancel' h2.1] at this
            exact this
          rw [elw] at Q
          exact qp_wrap (q' := q + 1) (by omega) (by rw [if_pos hQ]) (fun j hj => by unfold up1; rw [if_neg (by omega)]) d1 d2 (fun i hi => ⟨d4 i (by omega), (d5 i).1, (d5 i).2⟩) (fun i hi => ⟨(d7 i hi).1, (d7 i hi).2.2, by rw [if_neg (by simp)]; exact (d7 i hi).2.1⟩) d8 (by rw [if_pos hQ]; exact d9) d10 hia (by have := (sk_ge (t := t) (p := sk t p + 1)).1; have := (sk_ge (t := t) (p := sk t (sk t p + 1) + 1)).1; omega) Q
        · rw [if_neg h2]; exact c3 h2
    · rw [if_neg hQ]
      have h6364 : pb t p ≠ 63 ∧ pb t p ≠ 64 := by
        refine ⟨fun z => hQ (by rw [z]; rfl), fun z => hQ (by rw [z]; rfl)⟩
      by_cases h45 : pb t p = 45
      · rw [if_pos h45]
        obtain ⟨c1, c2⟩ := m_96 ht B hs12 (Or.inl h45)
        by_cases h12 : 12 ≤ s
        · rw [if_pos h12]; exact c2 h12
        · rw [if_neg h12]
          have hlt := pb_lt (t := t) (p := p) (by omega)
          have B2 := bs_em (K := 1) (y := 0) (x := nI 0) B
          obtain ⟨U, u1, u2, u3, u4⟩ := m_open (k := 1) hs12 B2
          obtain ⟨v1, v2, v3⟩ := bs_next u2 hlt
          rw [gI_n (t65 u2.1), Option.bind_some] at v1
          have hb : f_X12_beginPart 65 M = some (bI false, wI U 65 36 (nI (sk t p + 1))) := by
            rw [c1]
            unfold j_X12_beginPart_96 j_X12_beginPart_153
            rw [gI_n (t65 B.1), Option.bind_some, B.2.2.2.2.2.1, if_neg (fun z => h12 (by have := (nI_eq (by omega) (by decide)).mp z; omega)), jiv_n (t65 B.1), m_here B.1 ht B.2.1 B.2.2.1 B.2.2.2.1, jb2_some, if_pos ((hv_eq ht (by decide)).mpr h45), jiv_n (t65 B.1), m_emit B.1 B.2.2.2.2.2.2.2.1 (by omega) (by decide) (by decide), jb2_some, jiv_n (t65 B2.1), u1, jb2_some, gI_n (t65 u2.1), Option.bind_some, v1, Option.bind_some]
            rfl
          obtain ⟨N, n1, n2, n3⟩ := it_0 ht B hb v2
          have ta : ∀ d i, d ≠ 65 → rI N d i = rI U d i := fun d i hd => by rw [ey_rI n2 (by unfold P36; omega), ey_rI v3 (by unfold P36; omega)]
          have tb' : ∀ d i, d ≠ 65 → ¬ (d = 84 ∧ i = s + 1) → rI U d i = rI (em M c 1 (nI 0) 0) d i := fun d i h1 h2 => by rw [ey_rI u4 (by unfold POn; omega)]
          have tc : ∀ d i, d ≠ 65 → ¬ (80 ≤ d ∧ d ≤ 82) → rI (em M c 1 (nI 0) 0) d i = rI M d i := fun d i h1 h2 => by rw [ey_rI em_ey (by unfold PNm; omega)]
          have d4 : ∀ i, i ≤ s → rI N 84 i = rI M 84 i := fun i hi => by rw [ta _ _ (by decide), tb' _ _ (by decide) (by omega), tc _ _ (by decide) (by decide)]
          have d5 : ∀ i, rI N 85 i = rI M 85 i ∧ rI N 86 i = rI M 86 i := fun i => ⟨by rw [ta _ _ (by decide), tb' _ _ (by decide) (by omega), tc _ _ (by decide) (by decide)], by rw [ta _ _ (by decide), tb' _ _ (by decide) (by omega), tc _ _ (by decide) (by decide)]⟩
          have Q := ih (s + 1) q l (by omega) (by omega) hq8 hl b (m + 1) q0 (sk t p + 1) (c + 1) N ia (by omega) n3 ⟨q, fr_same m q (fun i hi => d4 i (by omega)) hf, Or.inl ⟨by rw [show b + 1 + m = s + 1 by omega, ta _ _ (by decide)]; exact u3, rfl⟩⟩ (by rw [d4 b (by omega)]; exact h84) (by
              cases ia with
              | none => show rI N 86 b = nI 0; rw [(d5 b).2]; exact hi
              | some x => exact ⟨by rw [(d5 b).2]; exact hi.1, by rw [(d5 b).1]; exact hi.2.1, by have := hi.2.2; omega⟩) (by omega)
          refine qp_wrap (q' := q) (by omega) (by rw [if_neg (by decide)]) (fun j hj => rfl) n1 (((em_ey.mono fun _ _ => PNm_G).tr (u4.mono fun _ _ => POn_G)).tr ((v3.tr n2).mono fun _ _ => P36_G)) (fun i hi => ⟨d4 i (by omega), (d5 i).1, (d5 i).2⟩) (fun i hi => ⟨?_, ?_, ?_⟩) ?_ ?_ ?_ hia (by have := (sk_ge (t := t) (p := sk t p + 1)).1; omega) Q
          · rw [ta _ _ (by decide), tb' _ _ (by decide) (by omega), em_k, if_neg (by omega)]
          · rw [ta _ _ (by decide), tb' _ _ (by decide) (by omega), em_y, if_neg (by omega)]
          · rw [if_neg (by simp), ta _ _ (by decide), tb' _ _ (by decide) (by omega), em_x, if_neg (by omega)]
          · rw [ta _ _ (by decide), tb' _ _ (by decide) (by omega), em_k, if_pos rfl]; rfl
          · rw [ta _ _ (by decide), tb' _ _ (by decide) (by omega), em_x, if_pos rfl]; rfl
          · rw [ta _ _ (by decide), tb' _ _ (by decide) (by omega), em_y, if_pos rfl]
      · rw [if_neg h45]
        by_cases h40 : pb t p = 40
        · rw [if_pos h40]
          obtain ⟨c1, c2⟩ := m_96 ht B hs12 (Or.inr h40)
          by_cases h12 : 12 ≤ s
          · rw [if_pos h12]; exact c2 h12
          · rw [if_neg h12]
            have hlt := pb_lt (t := t) (p := p) (by omega)
            obtain ⟨U, u1, u2, u3, u4, u5, u6⟩ := m_openF hs12 B
            obtain ⟨v1, v2, v3⟩ := bs_next u2 hlt
            rw [gI_n (t65 u2.1), Option.bind_some] at v1
            have e0 : Ey (POf s) M (wI M 65 33 (nI (s + 1))) := ey_wI Ey.rf (Or.inl ⟨rfl, Or.inr rfl⟩)
            have hb : f_X12_beginPart 65 M = some (bI false, wI U 65 36 (nI (sk t p + 1))) := by
              rw [c1]
              unfold j_X12_beginPart_96 j_X12_beginPart_153
              rw [gI_n (t65 B.1), Option.bind_some, B.2.2.2.2.2.1, if_neg (fun z => h12 (by have := (nI_eq (by omega) (by decide)).mp z; omega)), jiv_n (t65 B.1), m_here B.1 ht B.2.1 B.2.2.1 B.2.2.2.1, jb2_some, if_neg (fun z => h45 ((hv_eq ht (by decide)).mp z)), gI_n (t65 B.1), Option.bind_some, B.2.2.2.2.2.1, nI_add, pI_n (t65 B.1), Option.bind_some, jiv_n (t65 (Sh_ey e0 B.1)), u1, jb2_some, gI_n (t65 u2.1), Option.bind_some, v1, Option.bind_some]
              rfl
            obtain ⟨N, n1, n2, n3⟩ := it_0 ht B hb v2
            have ta : ∀ d i, d ≠ 65 → rI N d i = rI U d i := fun d i hd => by rw [ey_rI n2 (by unfold P36; omega), ey_rI v3 (by unfold P36; omega)]
            have eN : Ey PGr M N := (u6.mono fun _ _ => POf_G).tr ((v3.tr n2).mono fun _ _ => P36_G)
            have tu : ∀ d i, d ≠ 65 → ¬ (84 ≤ d ∧ d ≤ 86 ∧ i = s + 1) → rI N d i = rI M d i := fun d i h1 h2 => by rw [ta d i h1, ey_rI u6 (by unfold POf; omega)]
            have hro : ∀ p f p', pPart t n (s + 1) q (lw l q) p = .inr (f, p') → RO t (s + 1) q p f p' := fun p f p' hh => pPart_ok n (s + 1) q _ p f p' hq8 (lw_le l q) (by omega) hh
            have Q := m_form ht (by omega) (ih (s + 1) q l (by omega) (by omega) hq8 hl) hro n3 (show c ≤ sk t p + 1 by omega) (by rw [ta _ _ (by decide)]; exact u3) (by rw [ta _ _ (by decide)]; exact u4) (by rw [ta _ _ (by decide)]; exact u5)
            have hp1 := (sk_ge (t := t) (p := sk t p + 1)).1
            cases hx : pForm t (pPart t n (s + 1) q (lw l q)) (sk t p + 1) with
            | inl w =>
              rw [hx] at Q
              exact QB_it n1 eN (by omega) Q
            | inr x =>
              obtain ⟨f, p1⟩ := x
              obtain ⟨r1, r2, r3, r4, r5⟩ := pForm_ok hro hx
              rw [hx] at Q
              obtain ⟨k1, O, sg, o1, o2, o3, o4, o5, o6, o7, o8, o9, o10⟩ := Q
              show QP t b q0 q c l ia p (nI 1) (if pb t p1 = 41 then _ else _) M
              have hf0 := sz_pos f
              have s6 : ∀ i, i ≤ s → rI O 84 i = rI M 84 i ∧ rI O 85 i = rI M 85 i ∧ rI O 86 i = rI M 86 i := fun i hi => by
                obtain ⟨y1, y2, y3⟩ := o6 i (by omega)
                exact ⟨by rw [y1, tu _ _ (by decide) (by omega)], by rw [y2, tu _ _ (by decide) (by omega)], by rw [y3, tu _ _ (by decide) (by omega)]⟩
              by_cases h41 : pb t p1 = 41
              · rw [if_pos h41]
                have hlt2 := pb_lt (t := t) (p := p1) (by omega)
                -- the bracket is closed
                obtain ⟨b1, b2, b3, b4, b5, b6, b7, b8, b9, b10⟩ := o3
                have f1 : Ey PGr O (wI O 65 29 (nI (s + 1))) := ey_wI Ey.rf (Or.inl ⟨rfl, Or.inr (Or.inl rfl)⟩)
                have f2 : Ey PGr O (wI (wI O 65 29 (nI (s + 1))) 65 33 (nI s)) := ey_wI f1 (Or.inl ⟨rfl, Or.inr (Or.inr (Or.inl rfl))⟩)
                have f3 : Ey PGr O (wI (wI (wI O 65 29 (nI (s + 1))) 65 33 (nI s)) 65 36 (nI (sk t p1 + 1))) := ey_wI f2 (Or.inl ⟨rfl, Or.inr (Or.inr (Or.inr (Or.inr (Or.inl rfl))))⟩)
                have g1 := Sh_ey f1 b1
                have g2 := Sh_ey f2 b1
                have g3 := Sh_ey f3 b1
                have rr : ∀ d i, ¬ (d = 65 ∧ (i = 29 ∨ i = 33 ∨ i = 36)) → rI (wI (wI (wI O 65 29 (nI (s + 1))) 65 33 (nI s)) 65 36 (nI (sk t p1 + 1))) d i = rI O d i := fun d i hd => by rw [rI_wI, if_neg (by omega), rI_wI, if_neg (by omega), rI_wI, if_neg (by omega)]
                have B5 : BS t (sk t p1 + 1) (c + sz f) s q l (wI (wI (wI O 65 29 (nI (s + 1))) 65 33 (nI s)) 65 36 (nI (sk t p1 + 1))) := ⟨g3, MT_g f3 b2, by rw [rI_wI, if_pos ⟨rfl, rfl⟩], by omega, by rw [rr _ _ (by omega)]; exact b5, by rw [rI_wI, if_neg (by omega), rI_wI, if_pos ⟨rfl, rfl⟩], by rw [rr _ _ (by omega)]; exact b7, by rw [rr _ _ (by omega)]; exact b8, by rw [rI_wI, if_neg (by omega), rI_wI, if_neg (by omega), rI_wI, if_pos ⟨rfl, rfl⟩], fun i hi => by rw [rr _ _ (by omega)]; exact b10 i hi⟩
                have hi5 : IA (wI (wI (wI O 65 29 (nI (s + 1))) 65 33 (nI s)) 65 36 (nI (sk t p1 + 1))) b (c + sz f) ia := by
                  cases ia with
                  | none => show rI _ 86 b = nI 0; rw [rr _ _ (by omega), (s6 b (by omega)).2.2]; exact hi
                  | some x => exact ⟨by rw [rr _ _ (by omega), (s6 b (by omega)).2.2]; exact hi.1, by rw [rr _ _ (by omega), (s6 b (by omega)).2.1]; exact hi.2.1, by have := hi.2.2; omega⟩
                obtain ⟨V, x1, x2, x3, x4⟩ := m_pd (by omega) B5 hs hs12 (fr_same m q (fun i hi => by rw [rr _ _ (by omega), (s6 i (by omega)).1]) hf) (by rw [rr _ _ (by omega), (s6 b (by omega)).1]; exact h84) hi5
                have BO : BS t (sk t p1) (c + sz f) (s + 1) q l O := ⟨b1, b2, b3, b4, b5, b6, b7, b8, b9, b10⟩
                have hgo : f_X12_goOn 65 O = some (bI false, V) := by
                  unfold f_X12_goOn
                  have k29 : rI O 65 29 = nI (s + 1 + 1) := b9
                  have k33 : rI (wI O 65 29 (nI (s + 1))) 65 33 = nI (s + 1) := by rw [rI_wI, if_neg (by omega)]; exact b6
                  have k36 : rI (wI (wI O 65 29 (nI (s + 1))) 65 33 (nI s)) 65 36 = nI (sk t p1) := by rw [rI_wI, if_neg (by omega), rI_wI, if_neg (by omega)]; exact b3
                  rw [jiv_n (t65 b1), m_here b1 ht b2 b3 b4, jb2_some, gI_n (t65 b1), Option.bind_some, jv_b, if_pos ((hv_eq ht (by decide)).mpr h41), Option.bind_some, k29, if_neg (nI_ge (by omega) (by omega)), Option.bind_some, nI_sb (by omega), Nat.add_sub_cancel, pI_n (t65 b1), Option.bind_some, gI_n (t65 g1), Option.bind_some, k33, nI_sb (by omega), Nat.add_sub_cancel, pI_n (t65 g1), Option.bind_some, gI_n (t65 g2), Option.bind_some, k36, nI_add, pI_n (t65 g2), Option.bind_some, jiv_n (t65 g3), x1, jb2_some]
                  rfl
                obtain ⟨W, y1, y2, y3⟩ := it_95 ht x2
                have hsp2 := (sk_ge (t := t) (p := sk t p1 + 1)).1
                have rW : ∀ d i, d ≠ 65 → d ≠ 81 → rI W d i = rI O d i := fun d i h1 h2 => by rw [ey_rI y2 (by unfold P36; omega), ey_rI x3 (by unfold P3x; omega), rr _ _ (by omega)]
                have rW1 : ∀ i, rI W 81 i = if ia = some i then rI O 81 i + nI 1 else rI O 81 i := fun i => by rw [ey_rI y2 (by unfold P36; omega), x4, rr _ _ (by omega)]
                refine ⟨1 + (k1 + 1), W, by omega, fun F => ?_, y3, ((eN.tr o4).tr f3).tr ((x3.mono fun _ _ => P3x_G).tr (y2.mono fun _ _ => P36_G)), Nr_congr f c c q (fun i hi => ⟨rW _ _ (by decide) (by decide), ?_, rW _ _ (by decide) (by decide)⟩) o5, fun i hi => ⟨by rw [rW _ _ (by decide) (by decide), (s6 i (by omega)).1], by rw [rW _ _ (by decide) (by decide), (s6 i (by omega)).2.1], by rw [rW _ _ (by decide) (by decide), (s6 i (by omega)).2.2]⟩, fun i hi => ?_⟩
                · rw [show F + (1 + (k1 + 1)) = F + 1 + k1 + 1 by omega, n1, o2, it_g ht BO (by omega) (Or.inr hlt2), hgo, jb2_some, y1]
                  rfl
                · rw [rW1, if_neg (fun z => by subst z; have := hi.2.2; omega)]
                · obtain ⟨y1, y2, y3⟩ := o10 i hi
                  exact ⟨by rw [rW _ _ (by decide) (by decide), y1, tu _ _ (by decide) (by omega)], by rw [rW _ _ (by decide) (by decide), y3, tu _ _ (by decide) (by omega)], by rw [rW1, y2, tu _ _ (by decide) (by omega)]⟩
              · rw [if_neg h41]
                obtain ⟨k2, V, x1, x2, x3, x4⟩ := go_bad ht o3 (by omega) (Or.inl (by omega)) (Or.inl h41) o7 o8 o9
                refine ⟨1 + (k1 + k2), V, by omega, fun F => ?_, (eN.tr o4).tr x3, x4⟩
                rw [show F + (1 + (k1 + k2)) = F + k2 + k1 + 1 by omega, n1, o2, x2]
        · rw [if_neg h40]
          exact m_patom ht hq8 hl B (by omega) hs hs12 hf h84 hi h40 h45 h6364.1 h6364.2
end MR9
