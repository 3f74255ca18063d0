/-! PARTINGS: the reference's rows, picks, atoms. -/
def PPr (c k : Nat) : Prop := PG c k ∨ PNm c k
def MO (ws : Nat → Wd) (w1 w2 : Nat) (r : Rw) (q c : Nat) (T : Fm) (M N : jM) : Prop := GG ws w1 w2 r N ∧ Ey PPr M N ∧ rI N 65 23 = nI (c + sz T) ∧ Nr (rI N 80) (rI N 81) (rI N 82) c q T ∧ ∀ i, i < c → rI N 80 i = rI M 80 i ∧ rI N 81 i = rI M 81 i ∧ rI N 82 i = rI M 82 i
section MU
variable {ws : Nat → Wd} {w1 w2 : Nat} {r : Rw} {M : jM} {c q : Nat}
theorem GG_nm {N : jM} (e : Ey PNm M N) (g : GG ws w1 w2 r M) : GG ws w1 w2 r N := ⟨Sh_ey e g.1, MA_ey e g.2.1 (fun c i hc => by unfold PNm; omega), GS_ey e g.2.2 (fun c i hc => by unfold PG at hc; unfold PNm; omega)⟩
theorem swap_l (hl : r.length ≤ 5) : ∀ (F k : Nat) (N : jM), Sh N → rI N 65 7 = nI r.length → (∀ j, j < r.length → rI N 71 j = nI (if j < k then (ro r j).2 else (ro r j).1) ∧ rI N 72 j = nI (if j < k then (ro r j).1 else (ro r j).2)) → k ≤ r.length → r.length - k < F → ∃ O, l_X12_swapRows_20 F 65 (nI k) N = some ((), O) ∧ Ey (fun c _ => c = 71 ∨ c = 72) N O ∧ ∀ j, j < r.length → rI O 71 j = nI (ro r j).2 ∧ rI O 72 j = nI (ro r j).1 := by
  intro F
  induction F with
  | zero => intro k N _ _ _ _ z; omega
  | succ F ih =>
    intro k N h h7 hj hk hF
    show ∃ O, b_X12_swapRows_20 (l_X12_swapRows_20 F) 65 (nI k) N = _ ∧ _
    unfold b_X12_swapRows_20
    rw [gI_n (t65 h), Option.bind_some, h7]
    by_cases hc : r.length ≤ k
    · rw [if_pos (nI_le hc (by omega))]
      refine ⟨N, rfl, Ey.rf, fun j hj2 => ?_⟩
      have z := hj j hj2
      rw [if_pos (by omega), if_pos (by omega)] at z
      exact z
    · have z := hj k (by omega)
      rw [if_neg (by omega), if_neg (by omega)] at z
      have e1 : Ey (fun c _ => c = 71 ∨ c = 72) N (wI N 71 k (nI (ro r k).2)) := ey_wI Ey.rf (Or.inl rfl)
      have h1 := Sh_ey e1 h
      have e2 : Ey (fun c _ => c = 71 ∨ c = 72) N (wI (wI N 71 k (nI (ro r k).2)) 72 k (nI (ro r k).1)) := ey_wI e1 (Or.inr rfl)
      rw [if_neg (nI_ge (by omega) (by omega)), q65_8 h, Option.bind_some, ldI_n (t71 h) (by omega) (by decide), Option.bind_some, z.1, Option.bind_some, q65_9 h, Option.bind_some, ldI_n (t72 h) (by omega) (by decide), Option.bind_some, z.2, stI_n (t71 h) (by omega) (by decide), Option.bind_some, q65_9 h1, Option.bind_some, stI_n (t72 h1) (by omega) (by decide), Option.bind_some, nI_add]
      obtain ⟨O, o1, o2, o3⟩ := ih (k + 1) _ (Sh_ey e2 h) (by rw [rI_wI, if_neg (by omega), rI_wI, if_neg (by omega)]; exact h7) (fun j hj2 => by
        have zj := hj j hj2
        by_cases hjk : j = k
        · subst hjk
          rw [if_pos (by omega), if_pos (by omega)]
          exact ⟨by rw [rI_wI, if_neg (by omega), rI_wI, if_pos ⟨rfl, rfl⟩], by rw [rI_wI, if_pos ⟨rfl, rfl⟩]⟩
        · have y1 : rI (wI (wI N 71 k (nI (ro r k).2)) 72 k (nI (ro r k).1)) 71 j = rI N 71 j := by rw [rI_wI, if_neg (by omega), rI_wI, if_neg (by omega)]
          have y2 : rI (wI (wI N 71 k (nI (ro r k).2)) 72 k (nI (ro r k).1)) 72 j = rI N 72 j := by rw [rI_wI, if_neg (by omega), rI_wI, if_neg (by omega)]
          rw [y1, y2]
          by_cases hl2 : j < k
          · rw [if_pos (by omega), if_pos (by omega)]; rw [if_pos hl2, if_pos hl2] at zj; exact zj
          · rw [if_neg (by omega), if_neg (by omega)]; rw [if_neg hl2, if_neg hl2] at zj; exact zj) (by omega) (by omega)
      exact ⟨O, o1, e2.tr o2, o3⟩
theorem m_swap (g : GG ws w1 w2 r M) : ∃ N, f_X12_swapRows 65 M = some ((), N) ∧ GG ws w2 w1 (swp r) N ∧ Ey PG M N := by
  obtain ⟨h, a, s1, s2, s3, s4, s5⟩ := g
  obtain ⟨n0, hn0⟩ := jF_is
  have e1 : Ey PG M (wI M 65 5 (nI w2)) := ey_wI Ey.rf (by unfold PG; omega)
  have e2 : Ey PG M (wI (wI M 65 5 (nI w2)) 65 6 (nI w1)) := ey_wI e1 (by unfold PG; omega)
  have h2 := Sh_ey e2 h
  unfold f_X12_swapRows
  rw [gI_n (t65 h), Option.bind_some, s1, gI_n (t65 h), Option.bind_some, s2, pI_n (t65 h), Option.bind_some, pI_n (t65 (Sh_ey e1 h)), Option.bind_some]
  obtain ⟨O, o1, o2, o3⟩ := swap_l (r := r) s4 jF0 0 _ h2 (by rw [rI_wI, if_neg (by omega), rI_wI, if_neg (by omega)]; exact s3) (fun j hj => by
    rw [if_neg (by omega), if_neg (by omega), rI_wI, if_neg (by omega), rI_wI, if_neg (by omega), rI_wI, if_neg (by omega), rI_wI, if_neg (by omega)]
    exact s5 j hj) (Nat.zero_le _) (by omega)
  have e3 : Ey PG M O := e2.tr (o2.mono fun c k hc => Or.inr hc)
  refine ⟨O, o1, ⟨Sh_ey e3 h, MA_ey e3 a (fun c i hc => by unfold PG; omega), ?_, ?_, ?_, by rw [swp_len]; exact s4, fun k hk => ?_⟩, e3⟩
  · rw [ey_rI o2 (by omega), rI_wI, if_neg (by omega), rI_wI, if_pos ⟨rfl, rfl⟩]
  · rw [ey_rI o2 (by omega), rI_wI, if_pos ⟨rfl, rfl⟩]
  · rw [ey_rI o2 (by omega), rI_wI, if_neg (by omega), rI_wI, if_neg (by omega), swp_len]; exact s3
  · rw [swp_len] at hk
    rw [swp_ro hk]
    exact o3 k hk
theorem win_9 (hf : WF ws) (h1 : w1 < 8) (h2 : w2 < 8) (hr : rv (ws w1) (ws w2) r) {k side : Nat} (hs : side < 2) (hk : k + 1 + r.length ≤ 5) (hk3 : k ≤ 2) {k2 : Nat → Int32 → Int32 → jM → jO Int32} : ∀ (n t : Nat) (M : jM), GG ws w1 w2 r M → t ≤ sz2 (ws w1) (ws w2) side → sz2 (ws w1) (ws w2) side - t < n → ∃ N, l_X12_winning_9 k2 n 65 (nI (k + 1)) (nI side) (nI t) M = (match ff (fun t => (lrep (ws w1) (ws w2) r side t k).isNone) t (sz2 (ws w1) (ws w2) side - t) with
      | some t => some (nI (10 * side + t), N)
      | none => k2 65 (nI (k + 1)) (nI (side + 1)) N) ∧ GG ws w1 w2 r N ∧ Ey PG M N := by
  have h6 := (hf w1).1
  have h7 := (hf w2).1
  have hz : sz2 (ws w1) (ws w2) side ≤ 6 := by unfold sz2; split <;> omega
  intro n
  induction n with
  | zero => intro t M _ _ h; omega
  | succ n ih =>
    intro t M g ht hn
    show ∃ N, b_X12_winning_9 k2 (l_X12_winning_9 k2 n) 65 (nI (k + 1)) (nI side) (nI t) M = _ ∧ _
    unfold b_X12_winning_9
    rw [jiv_n (t65 g.1), n_manyOf h1 h2 g hs, jb2_some]
    show ∃ N, (if nI (sz2 (ws w1) (ws w2) side) ≤ nI t then _ else _) = _ ∧ _
    by_cases hsz : sz2 (ws w1) (ws w2) side ≤ t
    · rw [if_pos (nI_le hsz (by omega)), show sz2 (ws w1) (ws w2) side - t = 0 by omega, nI_add]
      exact ⟨M, rfl, g, Ey.rf⟩
    · rw [if_neg (nI_ge (by omega) (by omega)), pk_sub (by omega), Nat.add_sub_cancel, jiv_n (t65 g.1)]
      obtain ⟨N, q1, q2, q3⟩ := n_lrep hf h1 h2 hr hs (show t < sz2 (ws w1) (ws w2) side by omega) hk (by omega) g
      have e : ff (fun t => (lrep (ws w1) (ws w2) r side t k).isNone) t (sz2 (ws w1) (ws w2) side - t) = if (lrep (ws w1) (ws w2) r side t k).isNone = true then some t else ff (fun t => (lrep (ws w1) (ws w2) r side t k).isNone) (t + 1) (sz2 (ws w1) (ws w2) side - (t + 1)) := by
        rw [show sz2 (ws w1) (ws w2) side - t = (sz2 (ws w1) (ws w2) side - (t + 1)) + 1 by omega]; rfl
      rw [q1, jb2_some, e]
      cases hl : lrep (ws w1) (ws w2) r side t k with
      | none =>
        rw [if_neg (show ¬ (0 : Int32) ≤ oI none (-1) by decide), pk_mul, nI_add]
        exact ⟨N, rfl, q2, q3⟩
      | some s =>
        have := (lrep_lt (hf w1) (hf w2) hl).1
        rw [if_pos (show (0 : Int32) ≤ oI (some s) (-1) from (n9 s (by omega)).2.2), nI_add]
        obtain ⟨N2, s1, s2, s3⟩ := ih (t + 1) N q2 (by omega) (by omega)
        exact ⟨N2, s1, s2, q3.tr s3⟩
theorem n_win (hf : WF ws) (h1 : w1 < 8) (h2 : w2 < 8) (hr : rv (ws w1) (ws w2) r) {k : Nat} (hk : k + 1 + r.length ≤ 5) (hk3 : k ≤ 2) (g : GG ws w1 w2 r M) : ∃ N, f_X12_winning 65 (nI (k + 1)) M = some (oI (fpk (ws w1) (ws w2) r 0 k) (-1), N) ∧ GG ws w1 w2 r N ∧ Ey PG M N := by
  obtain ⟨n0, hn0⟩ := jF_is
  have h6 := (hf w1).1
  have h7 := (hf w2).1
  have hz : ∀ side, sz2 (ws w1) (ws w2) side ≤ 6 := fun side => by unfold sz2; split <;> omega
  obtain ⟨F, hF⟩ : ∃ F, jF0 = F + 3 := ⟨jF0 - 3, by omega⟩
  have z0 := hz 0
  have z1 := hz 1
  unfold f_X12_winning
  obtain ⟨N, n1, n2, n3⟩ := win_9 (k2 := l_X12_winning_2 (F + 2)) hf h1 h2 hr (side := 0) (by decide) hk hk3 jF0 0 M g (Nat.zero_le _) (by omega)
  have u1 : l_X12_winning_2 jF0 65 (nI (k + 1)) (nI 0) M = l_X12_winning_9 (l_X12_winning_2 (F + 2)) jF0 65 (nI (k + 1)) (nI 0) (nI 0) M := by
    conv => lhs; rw [hF]
    show b_X12_winning_2 (l_X12_winning_2 (F + 2)) 65 (nI (k + 1)) (nI 0) M = _
    unfold b_X12_winning_2
    rw [if_neg (by decide)]
  rw [u1, n1]
  unfold fpk
  rw [Nat.sub_zero]
  cases hx : ff (fun t => (lrep (ws w1) (ws w2) r 0 t k).isNone) 0 (sz2 (ws w1) (ws w2) 0) with
  | some t => exact ⟨N, by dsimp only; rw [Nat.mul_zero, Nat.zero_add]; rfl, n2, n3⟩
  | none =>
    dsimp only
    obtain ⟨O, o1, o2, o3⟩ := win_9 (k2 := l_X12_winning_2 (F + 1)) hf h1 h2 hr (side := 1) (by decide) hk hk3 jF0 0 N n2 (Nat.zero_le _) (by omega)
    have u2 : l_X12_winning_2 (F + 2) 65 (nI (k + 1)) (nI (0 + 1)) N = l_X12_winning_9 (l_X12_winning_2 (F + 1)) jF0 65 (nI (k + 1)) (nI 1) (nI 0) N := by
      show b_X12_winning_2 (l_X12_winning_2 (F + 1)) 65 (nI (k + 1)) (nI (0 + 1)) N = _
      unfold b_X12_winning_2
      rw [if_neg (by decide)]
    rw [u2, o1, Nat.sub_zero]
    show ∃ N', (match ff (fun t => (lrep (ws w1) (ws w2) r 1 t k).isNone) 0 (sz2 (ws w1) (ws w2) 1) with
      | some t => some (nI (10 * 1 + t), O)
      | none => l_X12_winning_2 (F + 1) 65 (nI (k + 1)) (nI (1 + 1)) O) = some (oI ((ff (fun t => (lrep (ws w1) (ws w2) r 1 t k).isNone) 0 (sz2 (ws w1) (ws w2) 1)).map (10 + ·)) (-1), N') ∧ _
    cases hy : ff (fun t => (lrep (ws w1) (ws w2) r 1 t k).isNone) 0 (sz2 (ws w1) (ws w2) 1) with
    | some t => exact ⟨O, rfl, o2, n3.tr o3⟩
    | none =>
      refine ⟨O, ?_, o2, n3.tr o3⟩
      show b_X12_winning_2 (l_X12_winning_2 F) 65 (nI (k + 1)) (nI (1 + 1)) O = _
      unfold b_X12_winning_2
      rw [if_pos (by decide)]
      rfl
theorem mk0 : ∀ x, x < 4 → (((nI x >>> ((nI 6 - nI 6) &&& 31)) &&& nI 1 = nI 1) ↔ x.testBit 0 = true) := by decide +kernel
theorem mk1 : ∀ x, x < 4 → (((nI x >>> ((nI 7 - nI 6) &&& 31)) &&& nI 1 = nI 1) ↔ x.testBit 1 = true) := by decide +kernel
/-- the answers of one side and of the other -/
theorem parts_93 (hf : WF ws) (h1 : w1 < 8) (h2 : w2 < 8) (hr : rv (ws w1) (ws w2) r) (g : GG ws w1 w2 r M) {s n m : Nat} (hs : s = 61 ∨ s = 65 ∨ s = 66 ∨ s = 69) (hn : n < r.length) (hm : m < r.length) (z : Int32) : j_X12_parts_93 65 (nI (rk s)) (nI n) (nI m) z M = j_X12_parts_188 65 (nI (rk s)) (nI n) (nI m) z (bI (av (ws w2) s (ro r n).2 (ro r m).2)) M := by
  obtain ⟨h, a, g1, g2, g3, g4, g5⟩ := g
  have v6 := (hf w2).1
  have n6 := hr _ (ro_mem hn)
  have m6 := hr _ (ro_mem hm)
  obtain ⟨-, x2, -⟩ := a w2 h2
  rcases hs with rfl | rfl | rfl | rfl
  · rw [show rk 61 = 9 from rfl]
    unfold j_X12_parts_93
    rw [if_pos rfl, q65_9 h, Option.bind_some, ldI_n (t72 h) (by omega) (by decide), Option.bind_some, Option.bind_some, ldI_n (t72 h) (by omega) (by decide), Option.bind_some, (g5 n hn).2, (g5 m hm).2]
    show _ = j_X12_parts_188 65 (nI 9) (nI n) (nI m) z (bI (decide ((ro r n).2 = (ro r m).2))) M
    by_cases hx : (ro r n).2 = (ro r m).2
    · rw [if_pos (by rw [hx]), decide_eq_true hx]; rfl
    · rw [if_neg (fun w => hx ((nI_eq (by omega) (by omega)).mp w)), decide_eq_false hx]; rfl
  · rw [show rk 65 = 6 from rfl]
    have m2 := mk0 _ ((hf w2).2.1 (ro r n).2)
    unfold j_X12_parts_93
    rw [if_neg (by decide), if_neg (by decide), q65_1 h, Option.bind_some, gI_n (t65 h), Option.bind_some, g2, q65_9 h, Option.bind_some, ldI_n (t72 h) (by omega) (by decide), Option.bind_some, (g5 n hn).2, pk_mul, nI_add, ldI_n (t67 h) (by omega) (by decide), Option.bind_some, x2 _ (by omega)]
    show _ = j_X12_parts_188 65 (nI 6) (nI n) (nI m) z (bI (((ws w2).2.1 (ro r n).2).testBit 0)) M
    cases hb : ((ws w2).2.1 (ro r n).2).testBit 0 with
    | true => rw [if_pos (m2.mpr hb)]; rfl
    | false => rw [if_neg (fun w => by rw [m2.mp w] at hb; cases hb)]; rfl
  · rw [show rk 66 = 7 from rfl]
    have m2 := mk1 _ ((hf w2).2.1 (ro r n).2)
    unfold j_X12_parts_93
    rw [if_neg (by decide), if_neg (by decide), q65_1 h, Option.bind_some, gI_n (t65 h), Option.bind_some, g2, q65_9 h, Option.bind_some, ldI_n (t72 h) (by omega) (by decide), Option.bind_some, (g5 n hn).2, pk_mul, nI_add, ldI_n (t67 h) (by omega) (by decide), Option.bind_some, x2 _ (by omega)]
    show _ = j_X12_parts_188 65 (nI 7) (nI n) (nI m) z (bI (((ws w2).2.1 (ro r n).2).testBit 1)) M
    cases hb : ((ws w2).2.1 (ro r n).2).testBit 1 with
    | true => rw [if_pos (m2.mpr hb)]; rfl
    | false => rw [if_neg (fun w => by rw [m2.mp w] at hb; cases hb)]; rfl
  · rw [show rk 69 = 8 from rfl]
    unfold j_X12_parts_93
    rw [if_neg (by decide), if_pos rfl, gI_n (t65 h), Option.bind_some, g2, q65_9 h, Option.bind_some, ldI_n (t72 h) (by omega) (by decide), Option.bind_some, Option.bind_some, ldI_n (t72 h) (by omega) (by decide), Option.bind_some, (g5 n hn).2, (g5 m hm).2, jiv_n (t65 h), m_isTied h a hf h2 (by omega) (by omega), jb2_some]
    rfl
theorem parts_v (hf : WF ws) (h1 : w1 < 8) (h2 : w2 < 8) (hr : rv (ws w1) (ws w2) r) (g : GG ws w1 w2 r M) {s n m : Nat} (hs : s = 61 ∨ s = 65 ∨ s = 66 ∨ s = 69) (hn : n < r.length) (hm : m < r.length) : f_X12_parts 65 (nI (rk s)) (nI n) (nI m) M = j_X12_parts_188 65 (nI (rk s)) (nI n) (nI m) (bI (av (ws w1) s (ro r n).1 (ro r m).1)) (bI (av (ws w2) s (ro r n).2 (ro r m).2)) M := by
  rw [← parts_93 hf h1 h2 hr g hs hn hm]
  obtain ⟨h, a, g1, g2, g3, g4, g5⟩ := g
  have u6 := (hf w1).1
  have n6 := hr _ (ro_mem hn)
  have m6 := hr _ (ro_mem hm)
  obtain ⟨-, x1, -⟩ := a w1 h1
  rcases hs with rfl | rfl | rfl | rfl
  · rw [show rk 61 = 9 from rfl]
    unfold f_X12_parts
    rw [if_pos rfl, q65_8 h, Option.bind_some, ldI_n (t71 h) (by omega) (by decide), Option.bind_some, Option.bind_some, ldI_n (t71 h) (by omega) (by decide), Option.bind_some, (g5 n hn).1, (g5 m hm).1]
    show _ = j_X12_parts_93 65 (nI 9) (nI n) (nI m) (bI (decide ((ro r n).1 = (ro r m).1))) M
    by_cases hx : (ro r n).1 = (ro r m).1
    · rw [if_pos (by rw [hx]), decide_eq_true hx]; rfl
    · rw [if_neg (fun w => hx ((nI_eq (by omega) (by omega)).mp w)), decide_eq_false hx]; rfl
  · rw [show rk 65 = 6 from rfl]
    have m1 := mk0 _ ((hf w1).2.1 (ro r n).1)
    unfold f_X12_parts
    rw [if_neg (by decide), if_neg (by decide), q65_1 h, Option.bind_some, gI_n (t65 h), Option.bind_some, g1, q65_8 h, Option.bind_some, ldI_n (t71 h) (by omega) (by decide), Option.bind_some, (g5 n hn).1, pk_mul, nI_add, ldI_n (t67 h) (by omega) (by decide), Option.bind_some, x1 _ (by omega)]
    show _ = j_X12_parts_93 65 (nI 6) (nI n) (nI m) (bI (((ws w1).2.1 (ro r n).1).testBit 0)) M
    cases hb : ((ws w1).2.1 (ro r n).1).testBit 0 with
    | true => rw [if_pos (m1.mpr hb)]; rfl
    | false => rw [if_neg (fun w => by rw [m1.mp w] at hb; cases hb)]; rfl
  · rw [show rk 66 = 7 from rfl]
    have m1 := mk1 _ ((hf w1).2.1 (ro r n).1)
    unfold f_X12_parts
    rw [if_neg (by decide), if_neg (by decide), q65_1 h, Option.bind_some, gI_n (t65 h), Option.bind_some, g1, q65_8 h, Option.bind_some, ldI_n (t71 h) (by omega) (by decide), Option.bind_some, (g5 n hn).1, pk_mul, nI_add, ldI_n (t67 h) (by omega) (by decide), Option.bind_some, x1 _ (by omega)]
    show _ = j_X12_parts_93 65 (nI 7) (nI n) (nI m) (bI (((ws w1).2.1 (ro r n).1).testBit 1)) M
    cases hb : ((ws w1).2.1 (ro r n).1).testBit 1 with
    | true => rw [if_pos (m1.mpr hb)]; rfl
    | false => rw [if_neg (fun w => by rw [m1.mp w] at hb; cases hb)]; rfl
  · rw [show rk 69 = 8 from rfl]
    unfold f_X12_parts
    rw [if_neg (by decide), if_pos rfl, gI_n (t65 h), Option.bind_some, g1, q65_8 h, Option.bind_some, ldI_n (t71 h) (by omega) (by decide), Option.bind_some, Option.bind_some, ldI_n (t71 h) (by omega) (by decide), Option.bind_some, (g5 n hn).1, (g5 m hm).1, jiv_n (t65 h), m_isTied h a hf h1 (by omega) (by omega), jb2_some]
    rfl
end MU
