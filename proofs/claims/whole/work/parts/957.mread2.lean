/-! READING: the reference's read. -/
section MS9
variable {M : jM} {t : Tp} {S : List Fm}
theorem m_parse (ht : VT t) (h : Sh M) (x : MT t M) : ∃ N, f_X12_parse 65 M = some ((), N) ∧ Ey PGr M N ∧ match pText t with
    | .inl w => BW w N
    | .inr f => rI N 65 37 = -1 ∧ rI N 65 23 = nI (sz f) ∧ Nr (rI N 80) (rI N 81) (rI N 82) 0 0 f := by
  have h8 := ht.1
  obtain ⟨n0, hn0⟩ := jF_is
  unfold f_X12_parse f_X12_openFormula
  have e1 : Ey PGr M (wI M 65 23 (nI 0)) := ey_wI Ey.rf (Or.inl (by decide))
  have e2 : Ey PGr M (wI (wI M 65 23 (nI 0)) 65 29 (nI 0)) := ey_wI e1 (Or.inl (by decide))
  have e3 : Ey PGr M (wI (wI (wI M 65 23 (nI 0)) 65 29 (nI 0)) 65 33 (nI 0)) := ey_wI e2 (Or.inl (by decide))
  have e4 : Ey PGr M (wI (wI (wI (wI M 65 23 (nI 0)) 65 29 (nI 0)) 65 33 (nI 0)) 65 34 (nI 0)) := ey_wI e3 (Or.inl (by decide))
  have e5 : Ey PGr M (wI (wI (wI (wI (wI M 65 23 (nI 0)) 65 29 (nI 0)) 65 33 (nI 0)) 65 34 (nI 0)) 65 36 (nI 0)) := ey_wI e4 (Or.inl (by decide))
  have e6 : Ey PGr M (wI (wI (wI (wI (wI (wI M 65 23 (nI 0)) 65 29 (nI 0)) 65 33 (nI 0)) 65 34 (nI 0)) 65 36 (nI 0)) 65 37 (-1)) := ey_wI e5 (Or.inl (by decide))
  rw [pI_n (t65 h), Option.bind_some, pI_n (t65 (Sh_ey e1 h)), Option.bind_some, pI_n (t65 (Sh_ey e2 h)), Option.bind_some, pI_n (t65 (Sh_ey e3 h)), Option.bind_some, pI_n (t65 (Sh_ey e4 h)), Option.bind_some, pI_n (t65 (Sh_ey e5 h)), Option.bind_some]
  have r23 : rI (wI (wI (wI (wI (wI (wI M 65 23 (nI 0)) 65 29 (nI 0)) 65 33 (nI 0)) 65 34 (nI 0)) 65 36 (nI 0)) 65 37 (-1)) 65 23 = nI 0 := rfl
  have r29 : rI (wI (wI (wI (wI (wI (wI M 65 23 (nI 0)) 65 29 (nI 0)) 65 33 (nI 0)) 65 34 (nI 0)) 65 36 (nI 0)) 65 37 (-1)) 65 29 = nI 0 := rfl
  have r33 : rI (wI (wI (wI (wI (wI (wI M 65 23 (nI 0)) 65 29 (nI 0)) 65 33 (nI 0)) 65 34 (nI 0)) 65 36 (nI 0)) 65 37 (-1)) 65 33 = nI 0 := rfl
  have r34 : rI (wI (wI (wI (wI (wI (wI M 65 23 (nI 0)) 65 29 (nI 0)) 65 33 (nI 0)) 65 34 (nI 0)) 65 36 (nI 0)) 65 37 (-1)) 65 34 = nI 0 := rfl
  have r36 : rI (wI (wI (wI (wI (wI (wI M 65 23 (nI 0)) 65 29 (nI 0)) 65 33 (nI 0)) 65 34 (nI 0)) 65 36 (nI 0)) 65 37 (-1)) 65 36 = nI 0 := rfl
  have r37 : rI (wI (wI (wI (wI (wI (wI M 65 23 (nI 0)) 65 29 (nI 0)) 65 33 (nI 0)) 65 34 (nI 0)) 65 36 (nI 0)) 65 37 (-1)) 65 37 = -1 := rfl
  generalize wI (wI (wI (wI (wI (wI M 65 23 (nI 0)) 65 29 (nI 0)) 65 33 (nI 0)) 65 34 (nI 0)) 65 36 (nI 0)) 65 37 (-1) = A at *
  have hA := Sh_ey e6 h
  have f1 : Ey PGr A (wI A 84 0 (nI 0)) := ey_wI Ey.rf (Or.inr (Or.inr (by decide)))
  have f2 : Ey PGr A (wI (wI A 84 0 (nI 0)) 85 0 (nI 0)) := ey_wI f1 (Or.inr (Or.inr (by decide)))
  have f3 : Ey PGr A (wI (wI (wI A 84 0 (nI 0)) 85 0 (nI 0)) 86 0 (nI 0)) := ey_wI f2 (Or.inr (Or.inr (by decide)))
  have f4 : Ey PGr A (wI (wI (wI (wI A 84 0 (nI 0)) 85 0 (nI 0)) 86 0 (nI 0)) 65 29 (nI 1)) := ey_wI f3 (Or.inl (by decide))
  have g1 := Sh_ey f1 hA
  have g2 := Sh_ey f2 hA
  have g3 := Sh_ey f3 hA
  have g4 := Sh_ey f4 hA
  have k1 : ∀ k, rI (wI A 84 0 (nI 0)) 65 k = rI A 65 k := fun k => by rw [rI_wI, if_neg (by omega)]
  have k2 : ∀ k, rI (wI (wI A 84 0 (nI 0)) 85 0 (nI 0)) 65 k = rI A 65 k := fun k => by rw [rI_wI, if_neg (by omega), k1]
  have k3 : ∀ k, rI (wI (wI (wI A 84 0 (nI 0)) 85 0 (nI 0)) 86 0 (nI 0)) 65 k = rI A 65 k := fun k => by rw [rI_wI, if_neg (by omega), k2]
  have k4 : ∀ k, k ≠ 29 → rI (wI (wI (wI (wI A 84 0 (nI 0)) 85 0 (nI 0)) 86 0 (nI 0)) 65 29 (nI 1)) 65 k = rI A 65 k := fun k hk => by rw [rI_wI, if_neg (by omega), k3]
  rw [jiv_n (t65 hA), q65_30 hA, Option.bind_some, gI_n (t65 hA), Option.bind_some, r29, stI_n (t84 hA) (by decide) (by decide), Option.bind_some, q65_31 g1, Option.bind_some, gI_n (t65 g1), Option.bind_some, k1, r29, gI_n (t65 g1), Option.bind_some, k1, r23, stI_n (t85 g1) (by decide) (by decide), Option.bind_some, q65_32 g2, Option.bind_some, gI_n (t65 g2), Option.bind_some, k2, r29, stI_n (t86 g2) (by decide) (by decide), Option.bind_some, gI_n (t65 g3), Option.bind_some, k3, r29, nI_add, pI_n (t65 g3), Option.bind_some]
  have B0 : BS t 0 0 0 0 (fun _ => 0) (wI (wI (wI (wI A 84 0 (nI 0)) 85 0 (nI 0)) 86 0 (nI 0)) 65 29 (nI 1)) := ⟨g4, MT_g (e6.tr f4) x, by rw [k4 _ (by decide)]; exact r36, Nat.zero_le _, by rw [k4 _ (by decide)]; exact r37, by rw [k4 _ (by decide)]; exact r33, by rw [k4 _ (by decide)]; exact r34, by rw [k4 _ (by decide)]; exact r23, by rw [rI_wI, if_pos ⟨rfl, rfl⟩], fun k hk => absurd hk (Nat.not_lt_zero _)⟩
  have s84 : rI (wI (wI (wI (wI A 84 0 (nI 0)) 85 0 (nI 0)) 86 0 (nI 0)) 65 29 (nI 1)) 84 0 = nI 0 := rfl
  have s85 : rI (wI (wI (wI (wI A 84 0 (nI 0)) 85 0 (nI 0)) 86 0 (nI 0)) 65 29 (nI 1)) 85 0 = nI 0 := rfl
  have s86 : rI (wI (wI (wI (wI A 84 0 (nI 0)) 85 0 (nI 0)) 86 0 (nI 0)) 65 29 (nI 1)) 86 0 = nI 0 := rfl
  have eB := e6.tr f4
  show ∃ N, (jb2 (some ((), wI (wI (wI (wI A 84 0 (nI 0)) 85 0 (nI 0)) 86 0 (nI 0)) 65 29 (nI 1))) fun _ M7 => jb2 (jiv 11 M7 65 (f_X12_skip 65 M7)) fun _ M8 => l_X12_parse_40 jF0 65 (nI 1) M8) = some ((), N) ∧ _
  generalize wI (wI (wI (wI A 84 0 (nI 0)) 85 0 (nI 0)) 86 0 (nI 0)) 65 29 (nI 1) = C at *
  obtain ⟨D, d1, d2, d3⟩ := bs_skip ht B0
  rw [jb2_some, jiv_n (t65 B0.1), d1, jb2_some]
  have eD := eB.tr (d2.mono fun _ _ => P36_G)
  have hro : ∀ p f p', pPart t 13 0 0 (fun _ => 0) p = .inr (f, p') → RO t 0 0 p f p' := fun p f p' hh => pPart_ok 13 0 0 _ p f p' (by decide) (fun _ => Nat.le_refl _) (by decide) hh
  have hlw : lw (fun _ => 0) 0 = fun _ => 0 := rfl
  have hr := m_part ht 13 0 0 (fun _ => 0) rfl (by decide) (by decide) (fun k hk => absurd hk (Nat.not_lt_zero _))
  rw [hlw] at hr
  have Q := m_form ht (by decide) hr hro d3 (Nat.le_refl _) (by rw [ey_rI d2 (by unfold P36; omega)]; exact s84) (by rw [ey_rI d2 (by unfold P36; omega)]; exact s85) (by rw [ey_rI d2 (by unfold P36; omega)]; exact s86)
  unfold pText
  cases hx : pForm t (pPart t 13 0 0 (fun _ => 0)) 0 with
  | inl w =>
    rw [hx] at Q
    obtain ⟨k, N, q1, q2, q3, q4⟩ := Q
    obtain ⟨F, hF⟩ : ∃ F, jF0 = F + k := ⟨jF0 - k, by omega⟩
    rw [hF]
    exact ⟨N, q2 F, eD.tr q3, q4⟩
  | inr y =>
    obtain ⟨f, p1⟩ := y
    rw [hx] at Q
    obtain ⟨k, N, sg, q1, q2, q3, q4, q5, q6, q7, q8, q9, q10⟩ := Q
    rw [Nat.zero_add] at q3
    have hle := q3.2.2.2.1
    show ∃ N, _ ∧ _ ∧ match (if pb t p1 = 256 then Sum.inr f else Sum.inl (sk t p1) : Sum Nat Fm) with
      | .inl w => BW w N
      | .inr f => rI N 65 37 = -1 ∧ rI N 65 23 = nI (sz f) ∧ Nr (rI N 80) (rI N 81) (rI N 82) 0 0 f
    by_cases h256 : pb t p1 = 256
    · rw [if_pos h256]
      have hend : t.1 ≤ sk t p1 := by
        have hh := h256
        unfold pb tb at hh
        by_cases z : sk t p1 < t.1
        · rw [if_pos z] at hh
          have := (ub_is (ht.2 _ z)).1
          omega
        · omega
      obtain ⟨F, hF⟩ : ∃ F, jF0 = F + 1 + k := ⟨jF0 - k - 1, by omega⟩
      refine ⟨N, ?_, eD.tr q4, q3.2.2.2.2.1, q3.2.2.2.2.2.2.2.1, q5⟩
      rw [hF]
      refine (q2 (F + 1)).trans ?_
      show b_X12_parse_40 (l_X12_parse_40 F) 65 (nI 0) N = _
      unfold b_X12_parse_40
      rw [gI_n (t65 q3.1), Option.bind_some, q3.2.2.2.2.1, if_neg (by decide), if_pos (show nI 0 = 0 from rfl), gI_n (t65 q3.1), Option.bind_some, q3.2.2.2.2.2.2.2.2.1, if_neg (by decide), gI_n (t65 q3.1), Option.bind_some, q3.2.2.1, gI_n (t65 q3.1), Option.bind_some, q3.2.1.1, if_pos (nI_le hend (by omega))]
      rfl
    · rw [if_neg h256]
      have hlt : sk t p1 < t.1 := by
        have := pb_256 ht p1
        exact pb_lt (by omega)
      obtain ⟨k2, U, u1, u2, u3, u4⟩ := go_bad ht q3 (by decide) (Or.inr hlt) (Or.inr rfl) q7 q8 q9
      obtain ⟨F, hF⟩ : ∃ F, jF0 = F + k2 + k := ⟨jF0 - k - k2, by omega⟩
      rw [hF]
      exact ⟨U, (q2 _).trans (u2 F), (eD.tr q4).tr u3, u4⟩
/-- what the reference's read changes -/
def PRd (c k : Nat) : Prop := PGr c k ∨ PK c k ∨ (c = 65 ∧ k = 28)
theorem m_read (ht : VT t) (hS : SV S) (h : Sh M) (x : MT t M) (z : MZ S M) : ∃ N, f_X12_read 65 M = some ((sp_read t S).1, N) ∧ MT (sp_read t S).2.1 N ∧ MZ (sp_read t S).2.2 N ∧ Ey PRd M N := by
  have h8 := ht.1
  have hS20 := hS.1
  obtain ⟨N, n1, n2, n3⟩ := m_parse ht h x
  have hN := Sh_ey n2 h
  have e2 : Ey PRd M (wI N 65 28 (nI 0)) := ey_wI (n2.mono fun _ _ => Or.inl) (Or.inr (Or.inr ⟨rfl, rfl⟩))
  have hO := Sh_ey e2 h
  have tO : MT (0, t.2) (wI N 65 28 (nI 0)) := ⟨by rw [rI_wI, if_pos ⟨rfl, rfl⟩], fun k hk => absurd hk (Nat.not_lt_zero _)⟩
  have zO : MZ S (wI N 65 28 (nI 0)) := MZ_same hS20 (by rw [rI_wI, if_neg (by omega)]; exact ey_rI n2 (by unfold PGr; omega)) (fun c k c1 c2 => by rw [rI_wI, if_neg (by omega)]; exact ey_rI n2 (by unfold PGr; omega)) z
  unfold f_X12_read sp_read j_X12_read_43
  rw [jiv_n (t65 h), n1, jb2_some, pI_n (t65 hN), Option.bind_some, gI_n (t65 hO), Option.bind_some]
  cases hx : pText t with
  | inl w =>
    rw [hx] at n3
    obtain ⟨w1, w2, w3⟩ := n3
    have : rI (wI N 65 28 (nI 0)) 65 37 = nI w := by rw [rI_wI, if_neg (by omega)]; exact w2
    rw [this, if_neg (nI_pos (by omega)), Option.bind_some]
    exact ⟨_, rfl, tO, zO, e2⟩
  | inr f =>
    obtain ⟨a1, a2, a3, a4⟩ := pText_ok hx
    rw [hx] at n3
    obtain ⟨n3, n4, n5⟩ := n3
    have r37 : rI (wI N 65 28 (nI 0)) 65 37 = -1 := by rw [rI_wI, if_neg (by omega)]; exact n3
    have r23 : rI (wI N 65 28 (nI 0)) 65 23 = nI (sz f) := by rw [rI_wI, if_neg (by omega)]; exact n4
    dsimp only
    rw [r37, if_pos (by decide), gI_n (t65 hO), Option.bind_some, r23]
    by_cases h6 : sz f ≤ 600
    · rw [if_neg (nI_nlt h6 (by decide)), gI_n (t65 hO), Option.bind_some, zO.1]
      by_cases hl : S.length < 20
      · obtain ⟨U, u1, u2, u3⟩ := m_keep hO hS zO hl a1 h6 ⟨r23, Nr_congr f 0 0 0 (fun i hi => ⟨by rw [rI_wI, if_neg (by omega)], by rw [rI_wI, if_neg (by omega)], by rw [rI_wI, if_neg (by omega)]⟩) n5⟩
        rw [if_neg (fun y => by have := (nI_eq (by omega) (by decide)).mp y; omega), jiv_n (t65 hO), u1, jb2_some, if_pos ⟨h6, hl⟩]
        exact ⟨U, rfl, MT_ey u3 (by unfold PK; omega) (fun k => by unfold PK; omega) tO, u2, e2.tr (u3.mono fun _ _ h => Or.inr (Or.inl h))⟩
      · rw [if_pos (by rw [show S.length = 20 by omega]), if_neg (by omega)]
        exact ⟨_, rfl, tO, zO, e2⟩
    · rw [if_pos (nI_lt (by omega) (by omega)), if_neg (by omega)]
      exact ⟨_, rfl, tO, zO, e2⟩
end MS9
