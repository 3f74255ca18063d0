/-! PARTINGS: the reference's part. -/
section MQ2
variable {ws : Nat → Wd} {w1 w2 : Nat} {r : Rw} {M : jM} {c : Nat}
theorem ff_ext {f : Nat → Bool} : ∀ {c d i k : Nat}, ff f i c = some k → ff f i (c + d) = some k
  | 0, d, i, k, h => by cases h
  | c + 1, d, i, k, h => by
    rw [ff_s] at h
    rw [show c + 1 + d = c + d + 1 by omega, ff_s]
    by_cases hf : f i = true
    · rw [if_pos hf] at h ⊢; exact h
    · rw [if_neg hf] at h ⊢; exact ff_ext h
theorem kw_alk0 {u v : Wd} {r : Rw} (h : alk u v r = false) : ∀ k, kw u v k r = false
  | 0 => h
  | k + 1 => by rw [kw, h]; rfl
theorem pj_1 (hf : WF ws) : PJm ws 1 f_X12_part1 := by
  intro w1 w2 r c M h1 h2 p1 p2 hr hl gg hk hc h8 hsh
  unfold f_X12_part1
  rw [jiv_n (t65 gg.1), n_alike hf h1 h2 gg hr, jb2_some]
  cases hal : alk (ws w1) (ws w2) r with
  | false =>
    rw [if_pos (show bI false = 0 from rfl), jiv_n (t65 gg.1)]
    obtain ⟨N, n1, n2⟩ := pj_0 hf w1 w2 r c M h1 h2 p1 p2 hr (by omega) gg hal hc h8 hsh
    rw [hal] at n2
    rw [n1, jb2_some]
    exact ⟨N, rfl, n2⟩
  | true =>
    rw [if_neg (show ¬ bI true = 0 by decide), if_pos rfl]
    have e3 : 3 - r.length = (2 - r.length) + 1 := by omega
    rw [e3] at h8 ⊢
    have hlrd : lrd (ws w1) (ws w2) r 1 (2 - r.length + 1) = some 1 := by
      unfold lrd
      rw [ff_s, if_pos (by rw [hk]; rfl)]
    obtain ⟨N, n1, n2⟩ := n_pick (n := 2 - r.length) hf h1 h2 p1 p2 (pj_0 hf) hr (by omega) (Nat.zero_le _) gg hal hlrd hk hc h8
    rw [lpg_1]
    exact ⟨N, n1, n2⟩
theorem pj_2 (hf : WF ws) : PJm ws 2 f_X12_part2 := by
  intro w1 w2 r c M h1 h2 p1 p2 hr hl gg hk hc h8 hsh
  obtain ⟨A, a1, a2, a3⟩ := n_least hf h1 h2 hr (m := 2) (by omega) (by decide) gg
  have cA : rI A 65 23 = nI c := by rw [ey_rI a3 (by unfold PG; omega)]; exact hc
  have lift : ∀ (T : Fm) (N : jM), MO ws w1 w2 r r.length c T A N → MO ws w1 w2 r r.length c T M N := by
    intro T N ⟨m1, m2, m3, m4, m5⟩
    refine ⟨m1, (a3.mono fun _ _ => PG_r).tr m2, m3, m4, fun i hi => ?_⟩
    obtain ⟨x1, x2, x3⟩ := m5 i hi
    exact ⟨by rw [x1, ey_rI a3 (by unfold PG; omega)], by rw [x2, ey_rI a3 (by unfold PG; omega)], by rw [x3, ey_rI a3 (by unfold PG; omega)]⟩
  unfold f_X12_part2
  rw [jiv_n (t65 gg.1), a1, jb2_some]
  have less : kw (ws w1) (ws w2) 1 r = false → ∃ N, (jb2 (jiv 11 A 65 (f_X12_part1 65 A)) fun _ M7 => rt () M7) = some ((), N) ∧ MO ws w1 w2 r r.length c (if alk (ws w1) (ws w2) r = true then ptA (3 - r.length) (ws w1) (ws w2) r else ptT (ws w1) (ws w2) r (r.length - 1)) M N := by
    intro hk1
    obtain ⟨N, n1, n2⟩ := pj_1 hf w1 w2 r c A h1 h2 p1 p2 hr (by omega) a2 hk1 cA h8 hsh
    rw [jiv_n (t65 a2.1), n1, jb2_some]
    exact ⟨N, rfl, lift _ N n2⟩
  cases hal : alk (ws w1) (ws w2) r with
  | false =>
    have : lrd (ws w1) (ws w2) r 0 (2 + 1) = some 0 := by
      unfold lrd
      rw [ff_s, if_pos (by rw [kw_alk0 hal]; rfl)]
    rw [this, if_neg (show ¬ nI 2 ≤ oI (some 0) (-1) by decide)]
    have z := less (kw_alk0 hal 1)
    rw [hal] at z
    exact z
  | true =>
    rw [lrd_0 hal]
    obtain ⟨k, k1, k2, k3⟩ := lrd_some (n := 1) hk
    rw [k1]
    have : k = 0 ∨ k = 1 := by omega
    rcases this with rfl | rfl
    · rw [if_neg (show ¬ nI 2 ≤ oI (some (0 + 1)) (-1) by decide)]
      have z := less k3
      rw [hal] at z
      exact z
    · rw [if_pos (show nI 2 ≤ oI (some (1 + 1)) (-1) by decide), if_pos rfl]
      have e3 : 3 - r.length = (2 - r.length) + 1 := by omega
      rw [e3] at h8 ⊢
      have hlrd : lrd (ws w1) (ws w2) r 1 (2 - r.length + 1) = some 2 := by
        have := ff_ext (d := 1 - r.length) k1
        unfold lrd
        rw [show 2 - r.length + 1 = 1 + 1 + (1 - r.length) by omega]
        exact this
      obtain ⟨N, n1, n2⟩ := n_pick (n := 2 - r.length) hf h1 h2 p1 p2 (pj_1 hf) hr (by omega) (by omega) a2 hal hlrd k3 cA h8
      rw [lpg_2]
      exact ⟨N, n1, lift _ N n2⟩
theorem pj_3 (hf : WF ws) : PJm ws 3 f_X12_part3 := by
  intro w1 w2 r c M h1 h2 p1 p2 hr hl gg hk hc h8 hsh
  obtain ⟨A, a1, a2, a3⟩ := n_least hf h1 h2 hr (m := 3) (by omega) (by decide) gg
  have cA : rI A 65 23 = nI c := by rw [ey_rI a3 (by unfold PG; omega)]; exact hc
  have lift : ∀ (T : Fm) (N : jM), MO ws w1 w2 r r.length c T A N → MO ws w1 w2 r r.length c T M N := by
    intro T N ⟨m1, m2, m3, m4, m5⟩
    refine ⟨m1, (a3.mono fun _ _ => PG_r).tr m2, m3, m4, fun i hi => ?_⟩
    obtain ⟨x1, x2, x3⟩ := m5 i hi
    exact ⟨by rw [x1, ey_rI a3 (by unfold PG; omega)], by rw [x2, ey_rI a3 (by unfold PG; omega)], by rw [x3, ey_rI a3 (by unfold PG; omega)]⟩
  unfold f_X12_part3
  rw [jiv_n (t65 gg.1), a1, jb2_some]
  have less : kw (ws w1) (ws w2) 2 r = false → ∃ N, (jb2 (jiv 11 A 65 (f_X12_part2 65 A)) fun _ M7 => rt () M7) = some ((), N) ∧ MO ws w1 w2 r r.length c (if alk (ws w1) (ws w2) r = true then ptA (3 - r.length) (ws w1) (ws w2) r else ptT (ws w1) (ws w2) r (r.length - 1)) M N := by
    intro hk1
    obtain ⟨N, n1, n2⟩ := pj_2 hf w1 w2 r c A h1 h2 p1 p2 hr (by omega) a2 hk1 cA h8 hsh
    rw [jiv_n (t65 a2.1), n1, jb2_some]
    exact ⟨N, rfl, lift _ N n2⟩
  cases hal : alk (ws w1) (ws w2) r with
  | false =>
    have : lrd (ws w1) (ws w2) r 0 (3 + 1) = some 0 := by
      unfold lrd
      rw [ff_s, if_pos (by rw [kw_alk0 hal]; rfl)]
    rw [this, if_neg (show ¬ nI 3 ≤ oI (some 0) (-1) by decide)]
    have z := less (kw_alk0 hal 2)
    rw [hal] at z
    exact z
  | true =>
    rw [lrd_0 hal]
    obtain ⟨k, k1, k2, k3⟩ := lrd_some (n := 2) hk
    rw [k1]
    have : k = 0 ∨ k = 1 ∨ k = 2 := by omega
    rcases this with rfl | rfl | rfl
    · rw [if_neg (show ¬ nI 3 ≤ oI (some (0 + 1)) (-1) by decide)]
      have z := less (kw_le 1 k3)
      rw [hal] at z
      exact z
    · rw [if_neg (show ¬ nI 3 ≤ oI (some (1 + 1)) (-1) by decide)]
      have z := less k3
      rw [hal] at z
      exact z
    · rw [if_pos (show nI 3 ≤ oI (some (2 + 1)) (-1) by decide), if_pos rfl]
      have hr0 : r.length = 0 := by omega
      have e3 : 3 - r.length = 2 + 1 := by omega
      rw [e3] at h8 ⊢
      obtain ⟨N, n1, n2⟩ := n_pick (n := 2) hf h1 h2 p1 p2 (pj_2 hf) hr (by omega) (by omega) a2 hal k1 k3 cA h8
      rw [lpg_3]
      exact ⟨N, n1, lift _ N n2⟩
/-- what the reference's part changes -/
def PPt (c k : Nat) : Prop := PPr c k ∨ PK c k
theorem m_part_ {S : List Fm} (h : Sh M) (a : MA ws M) (hf : WF ws) (hS : SV S) (z : MZ S M) (x y : Int32) : ∃ N, f_X12_part 65 x y M = some ((sp_part ws S x y).1, N) ∧ MZ (sp_part ws S x y).2 N ∧ Ey PPt M N := by
  have hS20 := hS.1
  unfold f_X12_part sp_part
  rw [jiv_n (t65 h), m_noWorld h a hf, jb2_some]
  cases hc : wok ws x with
  | none => exact ⟨M, rfl, z, Ey.rf⟩
  | some i =>
    obtain ⟨hi, rfl, h0⟩ := wok_some hc
    simp only [Option.isNone_some, bI_z, if_true]
    rw [jiv_n (t65 h), m_noWorld h a hf, jb2_some]
    cases hd : wok ws y with
    | none => exact ⟨M, rfl, z, Ey.rf⟩
    | some j =>
      obtain ⟨hj, rfl, h02⟩ := wok_some hd
      simp only [Option.isNone_some, bI_z, if_true]
      obtain ⟨A, a1, a2, a3⟩ := n_begin (w1 := i) (w2 := j) h a
      obtain ⟨B, b1, b2, b3⟩ := n_least hf (show i < 8 by omega) (show j < 8 by omega) rv_nil (m := 3) (by decide) (by decide) a2
      have e1 : Ey PPt M B := (a3.tr b3).mono fun _ _ hh => Or.inl (Or.inl hh)
      have z1 : MZ S B := MZ_same hS20 (ey_rI (a3.tr b3) (by unfold PG; omega)) (fun c k c1 c2 => ey_rI (a3.tr b3) (by unfold PG; omega)) z
      rw [jiv_n (t65 h), a1, jb2_some, jiv_n (t65 a2.1), b1, jb2_some, lrd_0 rfl]
      cases hk : kw (ws i) (ws j) 3 [] with
      | true =>
        have : lrd (ws i) (ws j) [] 1 3 = none := ff_all0 (fun k k1 k2 => by
          show (!kw (ws i) (ws j) k []) = false
          have : kw (ws i) (ws j) k [] = true := by
            cases hx : kw (ws i) (ws j) k [] with
            | true => rfl
            | false =>
              have := kw_le (3 - k) hx
              rw [Nat.add_sub_cancel' (by omega), hk] at this
              cases this
          rw [this]; rfl)
        rw [this, if_neg (show ¬ (0 : Int32) ≤ oI none (-1) by decide)]
        exact ⟨B, rfl, z1, e1⟩
      | false =>
        obtain ⟨k, k1, k2, k3⟩ := lrd_some (n := 2) hk
        rw [k1, if_pos (show (0 : Int32) ≤ oI (some (k + 1)) (-1) from nI_pos' (by omega)), gI_n (t65 b2.1), Option.bind_some, z1.1, if_neg (show ¬ (false = true) by decide)]
        by_cases hl : S.length < 20
        · have e2 : Ey PNm B (wI B 65 23 (nI 0)) := ey_wI Ey.rf (Or.inl ⟨rfl, rfl⟩)
          have g2 := GG_nm e2 b2
          obtain ⟨N, n1, n2⟩ := pj_3 hf i j [] 0 (wI B 65 23 (nI 0)) (by omega) (by omega) h0 h02 rv_nil (by decide) g2 hk (by rw [rI_wI, if_pos ⟨rfl, rfl⟩]) (by decide) (fun w => by cases w)
          have n2' : MO ws i j [] 0 0 (ptA 3 (ws i) (ws j) []) (wI B 65 23 (nI 0)) N := n2
          obtain ⟨m1, m2, m3, m4, m5⟩ := n2'
          rw [Nat.zero_add] at m3
          obtain ⟨o1, o2, o3, o4⟩ := ptA_ok 3 (ws i) (ws j) [] (hf i) (hf j) h0 h02 (by decide)
          have e3 : Ey PPr B N := (e2.mono fun _ _ => PNm_r).tr m2
          have z2 : MZ S N := MZ_same hS20 (ey_rI e3 (by unfold PPr PG PNm; omega)) (fun c k c1 c2 => ey_rI e3 (by unfold PPr PG PNm; omega)) z1
          obtain ⟨U, u1, u2, u3⟩ := m_keep m1.1 hS z2 hl o1 (Nat.le_trans o2 (by decide)) ⟨m3, m4⟩
          rw [if_neg (fun w => by have := (nI_eq (by omega) (by decide)).mp w; omega), pI_n (t65 b2.1), Option.bind_some, jiv_n (t65 g2.1), n1, jb2_some, jiv_n (t65 m1.1), u1, jb2_some, if_pos hl]
          exact ⟨U, rfl, u2, (e1.tr (e3.mono fun _ _ => Or.inl)).tr (u3.mono fun _ _ => Or.inr)⟩
        · rw [if_pos (by rw [show S.length = 20 by omega]), if_neg hl]
          exact ⟨B, rfl, z1, e1⟩
end MQ2
