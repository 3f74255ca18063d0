/-! The reference's PLAY. -/
section Q1
variable {M : jM} {ws : Nat → Wd} {p : Pl}
theorem copy_2 (hf : WF ws) {w z : Nat} (hw : w < 8) (hz : z < 8) : ∀ (n c : Nat) (M : jM), Sh M → MA ws M → (∀ k, k < c → rI M 69 k = nI ((ws w).2.1 k) ∧ rI M 70 k = nI ((ws w).2.2 k)) → c ≤ 6 → 6 - c < n → ∃ N, l_X12_copyWorld_2 n 65 (nI w) (nI z) (nI c) M = some ((), N) ∧ MA (upw ws z (ws w)) N ∧ Ex CMA M N := by
  have h6 := (hf w).1
  intro n
  induction n with
  | zero => intro c M _ _ _ _ h; omega
  | succ n ih =>
    intro c M h a hr hc hn
    show ∃ N, b_X12_copyWorld_2 (l_X12_copyWorld_2 n) 65 (nI w) (nI z) (nI c) M = _ ∧ _
    unfold b_X12_copyWorld_2
    by_cases hc6 : 6 ≤ c
    · rw [if_pos (nI_le hc6 (by omega)), q65_0 h, Option.bind_some, m_things h a hw, Option.bind_some, jiv_n (t65 h)]
      obtain ⟨N, q1, q2, q3⟩ := m_lay h a hz h6 (nm := (ws w).2.1) (nt := (ws w).2.2) (fun k hk => hr k (by omega))
      rw [q1]
      refine ⟨N, rfl, ?_, q2.mono (fun c hc => by unfold CMA; omega)⟩
      have e := wd_eq (hf w)
      rw [e] at q3
      exact q3
    · rw [if_neg (nI_ge (by omega) (by decide)), q65_3 h, Option.bind_some, q65_1 h, Option.bind_some, m_marks h a hw (show c < 6 by omega), Option.bind_some, stI_n (t69 h) (by omega) (by decide), Option.bind_some]
      have e1 : Ex (fun q => q = 69 ∨ q = 70) M (wI M 69 c (nI ((ws w).2.1 c))) := ex_wI Ex.rf (Or.inl rfl)
      have h1 := Sh_ex e1 h
      have a1 := MA_ex e1 a (by decide) (by decide) (by decide)
      rw [q65_4 h1, Option.bind_some, q65_2 h1, Option.bind_some, m_ties h1 a1 hw (show c < 6 by omega), Option.bind_some, stI_n (t70 h1) (by omega) (by decide), Option.bind_some, nI_add]
      have e2 := ex_wI (a := 70) (k := c) (v := nI ((ws w).2.2 c)) e1 (Or.inr rfl)
      obtain ⟨N, q1, q2, q3⟩ := ih (c + 1) _ (Sh_ex e2 h) (MA_ex e2 a (by decide) (by decide) (by decide)) (fun k hk => by
        simp only [rI_wI]
        by_cases hkc : k = c
        · subst hkc; rw [if_neg (by omega), if_pos (by simp), if_pos (by simp)]; exact ⟨rfl, rfl⟩
        · rw [if_neg (by omega), if_neg (by omega), if_neg (by omega), if_neg (by omega)]; exact hr k (by omega)) (by omega) (by omega)
      exact ⟨N, q1, q2, (e2.mono (fun c hc => by unfold CMA; omega)).tr q3⟩
theorem n_copy (h : Sh M) (a : MA ws M) (hf : WF ws) {w z : Nat} (hw : w < 8) (hz : z < 8) : ∃ N, f_X12_copyWorld 65 (nI w) (nI z) M = some ((), N) ∧ MA (upw ws z (ws w)) N ∧ Ex CMA M N := by
  obtain ⟨n0, hn0⟩ := jF_is
  exact copy_2 hf hw hz jF0 0 M h a (fun k hk => by omega) (by decide) (by omega)
/-- the oldest i of the rows -/
def sfx (r : Rw) (i : Nat) : Rw := r.drop (r.length - i)
theorem sfx_len {r : Rw} {i : Nat} (h : i ≤ r.length) : (sfx r i).length = i := by unfold sfx; rw [List.length_drop]; omega
theorem sfx_s {r : Rw} {i : Nat} (h : i < r.length) : sfx r (i + 1) = ro r i :: sfx r i := by
  unfold sfx ro
  rw [List.drop_eq_getElem_cons (show r.length - (i + 1) < r.length by omega), List.getD_eq_getElem?_getD, List.getElem?_eq_getElem (by omega)]
  congr 1
  · simp only [Option.getD_some]
    congr 1
    omega
  · congr 1
    omega
theorem sfx_all {r : Rw} : sfx r r.length = r := by unfold sfx; rw [Nat.sub_self]; rfl
theorem lay_10 {r : Rw} (hl : r.length ≤ 4) : ∀ (n i : Nat) (M : jM), GG ws 6 7 (sfx r i) M → rI M 65 12 = nI r.length → (∀ k, k < r.length → rI M 73 k = nI (ro r k).1 ∧ rI M 74 k = nI (ro r k).2) → i ≤ r.length → r.length - i < n → ∃ N, l_X12_layPlay_10 n 65 (nI i) M = some ((), N) ∧ GG ws 6 7 r N ∧ Ey PG M N := by
  intro n
  induction n with
  | zero => intro i M _ _ _ _ h; omega
  | succ n ih =>
    intro i M g h12 hk hi hn
    show ∃ N, b_X12_layPlay_10 (l_X12_layPlay_10 n) 65 (nI i) M = _ ∧ _
    unfold b_X12_layPlay_10
    rw [gI_n (t65 g.1), Option.bind_some, h12]
    by_cases hir : r.length ≤ i
    · rw [if_pos (nI_le hir (by omega))]
      have e : i = r.length := by omega
      subst e
      rw [sfx_all] at g
      exact ⟨M, rfl, g, Ey.rf⟩
    · rw [if_neg (nI_ge (by omega) (by omega)), q65_13 g.1, Option.bind_some, ldI_n (t73 g.1) (by omega) (by decide), Option.bind_some, q65_14 g.1, Option.bind_some, ldI_n (t74 g.1) (by omega) (by decide), Option.bind_some, (hk i (by omega)).1, (hk i (by omega)).2, jiv_n (t65 g.1)]
      obtain ⟨N, q1, q2, q3⟩ := n_add g (show (sfx r i).length < 5 by rw [sfx_len hi]; omega) (ro r i).1 (ro r i).2
      rw [q1, jb2_some, nI_add]
      have q2' : GG ws 6 7 (sfx r (i + 1)) N := by rw [sfx_s (by omega)]; exact q2
      obtain ⟨N2, s1, s2, s3⟩ := ih (i + 1) N q2' (by rw [ey_rI q3 (by unfold PG; omega)]; exact h12) (fun k hk2 => by rw [ey_rI q3 (by unfold PG; omega), ey_rI q3 (by unfold PG; omega)]; exact hk k hk2) (by omega) (by omega)
      exact ⟨N2, s1, s2, q3.tr s3⟩
theorem n_layPlay {r : Rw} (h : Sh M) (a : MA ws M) (hl : r.length ≤ 4) (h12 : rI M 65 12 = nI r.length) (hk : ∀ k, k < r.length → rI M 73 k = nI (ro r k).1 ∧ rI M 74 k = nI (ro r k).2) : ∃ N, f_X12_layPlay 65 M = some ((), N) ∧ GG ws 6 7 r N ∧ Ey PG M N := by
  obtain ⟨n0, hn0⟩ := jF_is
  unfold f_X12_layPlay
  rw [jiv_n (t65 h)]
  obtain ⟨N, q1, q2, q3⟩ := n_begin (w1 := 6) (w2 := 7) h a
  rw [q1, jb2_some]
  have e0 : sfx r 0 = [] := by unfold sfx; rw [Nat.sub_zero, List.drop_length]
  rw [← e0] at q2
  obtain ⟨N2, s1, s2, s3⟩ := lay_10 (ws := ws) (r := r) hl jF0 0 N q2 (by rw [ey_rI q3 (by unfold PG; omega)]; exact h12) (fun k hk2 => by rw [ey_rI q3 (by unfold PG; omega), ey_rI q3 (by unfold PG; omega)]; exact hk k hk2) (Nat.zero_le _) (by omega)
  exact ⟨N2, s1, s2, q3.tr s3⟩
theorem n_judge {r : Rw} (h : Sh M) (a : MA ws M) (hf : WF ws) (hl : r.length ≤ 4) (hr : rv (ws 6) (ws 7) r) (h12 : rI M 65 12 = nI r.length) (hk : ∀ k, k < r.length → rI M 73 k = nI (ro r k).1 ∧ rI M 74 k = nI (ro r k).2) {k : Nat} (hk3 : k ≤ 3) (h11 : rI M 65 11 = nI k) : ∃ N, f_X12_judge 65 M = some ((), N) ∧ rI N 65 10 = nI (if alk (ws 6) (ws 7) r = true then (if k = 0 then 3 else 1) else 4) ∧ Ey (fun c i => PG c i ∨ (c = 65 ∧ i = 10)) M N := by
  unfold f_X12_judge j_X12_judge_28
  rw [jiv_n (t65 h)]
  obtain ⟨N, q1, q2, q3⟩ := n_layPlay h a hl h12 hk
  rw [q1, jb2_some, jiv_n (t65 q2.1), n_alike hf (by decide) (by decide) q2 hr, jb2_some]
  have e1 : ∀ v, Ey (fun c i => PG c i ∨ (c = 65 ∧ i = 10)) M (wI N 65 10 v) := fun v => ey_wI (q3.mono (fun c i hc => Or.inl hc)) (Or.inr ⟨rfl, rfl⟩)
  cases alk (ws 6) (ws 7) r with
  | false =>
    rw [if_pos (show bI false = 0 from rfl), pI_n (t65 q2.1), Option.bind_some]
    exact ⟨_, rfl, by rw [rI_wI]; simp, e1 _⟩
  | true =>
    rw [if_neg (show ¬ bI true = 0 by decide), gI_n (t65 q2.1), Option.bind_some, ey_rI q3 (by unfold PG; omega), h11]
    by_cases hk0 : k = 0
    · rw [if_pos (by rw [hk0]; rfl), pI_n (t65 q2.1), Option.bind_some]
      exact ⟨_, rfl, by rw [rI_wI]; simp [hk0], e1 _⟩
    · rw [if_neg (nI_ne0 (by omega) (by omega)), pI_n (t65 q2.1), Option.bind_some]
      exact ⟨_, rfl, by rw [rI_wI]; simp [hk0], e1 _⟩
theorem m_play (h : Sh M) (a : MA ws M) (hf : WF ws) (b : MB p M) (x y k : Int32) : ∃ N, f_X12_play 65 x y k M = some ((sp_play ws p x y k).1, N) ∧ MA (sp_play ws p x y k).2.1 N ∧ MB (sp_play ws p x y k).2.2 N ∧ Ey PB M N := by
  unfold f_X12_play sp_play
  rw [jiv_n (t65 h), m_noWorld h a hf, jb2_some]
  cases hc : wok ws x with
  | none => exact ⟨M, rfl, a, b, Ey.rf⟩
  | some i =>
    obtain ⟨hi, rfl, h0⟩ := wok_some hc
    simp only [Option.isNone_some, bI_z, if_true]
    rw [jiv_n (t65 h), m_noWorld h a hf, jb2_some]
    cases hd : wok ws y with
    | none => exact ⟨M, rfl, a, b, Ey.rf⟩
    | some j =>
      obtain ⟨hj, rfl, h02⟩ := wok_some hd
      simp only [Option.isNone_some, bI_z, if_true]
      rw [show nI 3 = nI (4 - 1) from rfl, m_in0 (by decide) (by decide), jb2_some]
      cases hk : ixo k 4 with
      | none => exact ⟨M, rfl, a, b, Ey.rf⟩
      | some q =>
        obtain ⟨hq, rfl⟩ := (ixo_some (by decide)).mp hk
        rw [if_neg (show ¬ bI (some q).isSome = 0 by show ¬ bI true = 0; decide), jiv_n (t65 h)]
        obtain ⟨N1, p1, p2, p3⟩ := n_copy h a hf (show i < 8 by omega) (show 6 < 8 by decide)
        have hN1 := Sh_ex p3 h
        rw [p1, jb2_some, jiv_n (t65 hN1)]
        have hf2 := WF_up (j := 6) hf (hf i)
        obtain ⟨N2, s1, s2, s3⟩ := n_copy hN1 p2 hf2 (show j < 8 by omega) (show 7 < 8 by decide)
        have hj6 : upw ws 6 (ws i) j = ws j := by unfold upw; rw [if_neg (by omega)]
        rw [hj6] at s2
        have e2 := p3.tr s3
        have hN2 := Sh_ex e2 h
        rw [s1, jb2_some, pI_n (t65 hN2), Option.bind_some]
        have y1 : Ey PB M (wI N2 65 11 (nI q)) := ey_wI (e2.y.mono (fun c i hc => by unfold CMA at hc; unfold PB; omega)) (by unfold PB; omega)
        have z1 : Ey (fun c _ => c = 65) N2 (wI N2 65 11 (nI q)) := ey_wI Ey.rf rfl
        rw [pI_n (t65 (Sh_ey y1 h)), Option.bind_some]
        have y2 := ey_wI (a := 65) (k := 12) (v := nI 0) y1 (by unfold PB; omega)
        have z2 := ey_wI (a := 65) (k := 12) (v := nI 0) z1 rfl
        have hN4 := Sh_ey y2 h
        have a4 := MA_ey z2 s2 (fun c i hc => by omega)
        have hf3 := WF_up (j := 7) hf2 (hf j)
        rw [jiv_n (t65 hN4)]
        obtain ⟨N5, v1, v2, v3⟩ := n_judge (r := []) hN4 a4 hf3 (by decide) rv_nil (by rw [rI_wI]; simp) (fun k hk => by simp at hk) (show q ≤ 3 by omega) (by rw [rI_wI, rI_wI]; simp)
        rw [v1, jb2_some]
        refine ⟨N5, rfl, MA_ey v3 a4 (fun c i hc => by unfold PG; omega), ⟨v2, ?_, fun _ => ⟨?_, fun k hk => by simp at hk⟩, fun hh => ?_⟩, y2.tr (v3.mono (fun c i hc => by unfold PG at hc; unfold PB; omega))⟩
        · rw [ey_rI v3 (by unfold PG; omega), rI_wI, rI_wI]; simp
        · rw [ey_rI v3 (by unfold PG; omega), rI_wI]; simp
        · have hh : (if q = 0 then 3 else 1) = 2 := hh
          split at hh <;> omega
theorem m_pick (h : Sh M) (a : MA ws M) (hf : WF ws) (hp : PI ws p) (b : MB p M) (h06 : p.1 = 1 → 0 < (ws 6).1 ∧ 0 < (ws 7).1) (x t : Int32) : ∃ N, f_X12_pick 65 x t M = some ((sp_pick ws p x t).1, N) ∧ MB (sp_pick ws p x t).2 N ∧ Ey (fun c i => c = 65 ∧ (i = 15 ∨ i = 16 ∨ i = 10)) M N := by
  unfold f_X12_pick sp_pick
  have h4 := hp.1
  rw [gI_n (t65 h), Option.bind_some, b.1]
  by_cases h1 : p.1 = 1
  · rw [if_pos (by rw [h1]), if_pos h1, show nI 1 = nI (2 - 1) from rfl, m_in0 (by decide) (by decide), jb2_some]
    have h6 := (hf 6).1
    have h7 := (hf 7).1
    cases hx : ixo x 2 with
    | none => exact ⟨M, rfl, b, Ey.rf⟩
    | some s =>
      obtain ⟨hs, rfl⟩ := (ixo_some (by decide)).mp hx
      have hz : sz2 (ws 6) (ws 7) s ≤ 6 := by unfold sz2; split <;> omega
      have hz0 : 0 < sz2 (ws 6) (ws 7) s := by have := h06 h1; unfold sz2; split <;> omega
      have e6 : (ws (6 + s)).1 = sz2 (ws 6) (ws 7) s := by
        rcases (show s = 0 ∨ s = 1 by omega) with rfl | rfl <;> rfl
      rw [if_neg (show ¬ bI (some s).isSome = 0 by show ¬ bI true = 0; decide), q65_0 h, Option.bind_some, nI_add, m_things h a (show 6 + s < 8 by omega), Option.bind_some, e6, pk_sub (by omega), m_in0 (by omega) hz0, jb2_some]
      dsimp only
      cases ht : ixo t (sz2 (ws 6) (ws 7) s) with
      | none => exact ⟨M, rfl, b, Ey.rf⟩
      | some q =>
        obtain ⟨hq, rfl⟩ := (ixo_some (by omega)).mp ht
        have e1 : Ey (fun c i => c = 65 ∧ (i = 15 ∨ i = 16 ∨ i = 10)) M (wI M 65 15 (nI s)) := ey_wI Ey.rf (by omega)
        have e2 := ey_wI (a := 65) (k := 16) (v := nI q) e1 (by omega)
        have e3 := ey_wI (a := 65) (k := 10) (v := nI 2) e2 (by omega)
        rw [if_neg (show ¬ bI (some q).isSome = 0 by show ¬ bI true = 0; decide), pI_n (t65 h), Option.bind_some, pI_n (t65 (Sh_ey e1 h)), Option.bind_some, pI_n (t65 (Sh_ey e2 h)), Option.bind_some]
        refine ⟨_, rfl, ⟨by rw [rI_wI]; simp, ?_, fun _ => ⟨?_, fun i hi => ?_⟩, fun _ => ⟨?_, ?_⟩⟩, e3⟩
        · rw [ey_rI e3 (by omega)]; exact b.2.1
        · rw [ey_rI e3 (by omega)]; exact (b.2.2.1 (by omega)).1
        · rw [ey_rI e3 (by omega), ey_rI e3 (by omega)]; exact (b.2.2.1 (by omega)).2 i hi
        · simp [rI_wI]
        · simp [rI_wI]
  · rw [if_neg (fun e => h1 ((nI_eq (by omega) (by decide)).mp e)), if_neg h1]
    exact ⟨M, rfl, b, Ey.rf⟩
theorem m_answer (h : Sh M) (a : MA ws M) (hf : WF ws) (hp : PI ws p) (b : MB p M) (h06 : p.1 ≠ 0 → 0 < (ws 6).1 ∧ 0 < (ws 7).1) (t : Int32) : ∃ N, f_X12_answer 65 t M = some ((sp_answer ws p t).1, N) ∧ MA ws N ∧ MB (sp_answer ws p t).2 N ∧ Ey PB M N := by
  unfold f_X12_answer sp_answer
  have h4 := hp.1
  rw [gI_n (t65 h), Option.bind_some, b.1]
  by_cases h2 : p.1 = 2
  · obtain ⟨f3, f4⟩ := b.2.2.2 h2
    obtain ⟨f12, frow⟩ := b.2.2.1 (by omega)
    obtain ⟨hs, hth⟩ := hp.2.2.2.2 h2
    obtain ⟨hal, h1⟩ := hp.2.2.2.1 (Or.inr h2)
    obtain ⟨hr, hlen⟩ := hp.2.2.1 (by omega)
    have h6 := (hf 6).1
    have h7 := (hf 7).1
    have hz : sz2 (ws 6) (ws 7) (1 - p.2.2.2.1) ≤ 6 := by unfold sz2; split <;> omega
    have hz0 : 0 < sz2 (ws 6) (ws 7) (1 - p.2.2.2.1) := by have := h06 (by omega); unfold sz2; split <;> omega
    have e6 : (ws (7 - p.2.2.2.1)).1 = sz2 (ws 6) (ws 7) (1 - p.2.2.2.1) := by
      rcases (show p.2.2.2.1 = 0 ∨ p.2.2.2.1 = 1 by omega) with q | q <;> rw [q] <;> rfl
    rw [if_pos (by rw [h2]), if_pos h2, q65_0 h, Option.bind_some, gI_n (t65 h), Option.bind_some, f3, pk_sub (by omega), m_things h a (show 7 - p.2.2.2.1 < 8 by omega), Option.bind_some, e6, pk_sub (by omega), m_in0 (by omega) hz0, jb2_some]
    cases ht : ixo t (sz2 (ws 6) (ws 7) (1 - p.2.2.2.1)) with
    | none => exact ⟨M, rfl, a, b, Ey.rf⟩
    | some q =>
      obtain ⟨hq, rfl⟩ := (ixo_some (by omega)).mp ht
      have hok := pr2_ok hs hth hq
      have hlr : p.2.2.1.length < 3 := by omega
      rw [if_neg (show ¬ bI (some q).isSome = 0 by show ¬ bI true = 0; decide), q65_13 h, Option.bind_some, gI_n (t65 h), Option.bind_some, f12, gI_n (t65 h), Option.bind_some, f3]
      dsimp only
      have go : ∀ c d, pr2 p.2.2.2.1 p.2.2.2.2 q = (c, d) → ∃ N, j_X12_answer_83 65 74 (nI p.2.2.1.length) (nI d) (wI M 73 p.2.2.1.length (nI c)) = some (nI 1, N) ∧ MA ws N ∧ MB ((if alk (ws 6) (ws 7) (pr2 p.2.2.2.1 p.2.2.2.2 q :: p.2.2.1) = true then (if p.2.1 - 1 = 0 then 3 else 1) else 4), p.2.1 - 1, pr2 p.2.2.2.1 p.2.2.2.2 q :: p.2.2.1, 0, 0) N ∧ Ey PB M N := by
        intro c d hcd
        unfold j_X12_answer_83
        have e1 : Ey (fun c i => c = 73 ∨ c = 74 ∨ (c = 65 ∧ (i = 11 ∨ i = 12))) M (wI M 73 p.2.2.1.length (nI c)) := ey_wI Ey.rf (Or.inl rfl)
        have e2 := ey_wI (a := 74) (k := p.2.2.1.length) (v := nI d) e1 (Or.inr (Or.inl rfl))
        have e3 := ey_wI (a := 65) (k := 12) (v := nI (p.2.2.1.length + 1)) e2 (Or.inr (Or.inr ⟨rfl, Or.inr rfl⟩))
        have e4 := ey_wI (a := 65) (k := 11) (v := nI (p.2.1 - 1)) e3 (Or.inr (Or.inr ⟨rfl, Or.inl rfl⟩))
        rw [stI_n (t74 (Sh_ey e1 h)) (by omega) (by decide), Option.bind_some, gI_n (t65 (Sh_ey e2 h)), Option.bind_some, rI_wI, if_neg (by omega), rI_wI, if_neg (by omega), f12, nI_add, pI_n (t65 (Sh_ey e2 h)), Option.bind_some, gI_n (t65 (Sh_ey e3 h)), Option.bind_some, rI_wI, if_neg (by omega), rI_wI, if_neg (by omega), rI_wI, if_neg (by omega), b.2.1, pk_sub (by omega), pI_n (t65 (Sh_ey e3 h)), Option.bind_some, jiv_n (t65 (Sh_ey e4 h))]
        have a4 := MA_ey e4 a (fun c i hc => by omega)
        have rows : ∀ k, k < (pr2 p.2.2.2.1 p.2.2.2.2 q :: p.2.2.1).length → rI (wI (wI (wI (wI M 73 p.2.2.1.length (nI c)) 74 p.2.2.1.length (nI d)) 65 12 (nI (p.2.2.1.length + 1))) 65 11 (nI (p.2.1 - 1))) 73 k = nI (ro (pr2 p.2.2.2.1 p.2.2.2.2 q :: p.2.2.1) k).1 ∧ rI (wI (wI (wI (wI M 73 p.2.2.1.length (nI c)) 74 p.2.2.1.length (nI d)) 65 12 (nI (p.2.2.1.length + 1))) 65 11 (nI (p.2.1 - 1))) 74 k = nI (ro (pr2 p.2.2.2.1 p.2.2.2.2 q :: p.2.2.1) k).2 := by
          intro k hk
          have hk : k < p.2.2.1.length + 1 := hk
          simp only [rI_wI]
          by_cases hkl : k = p.2.2.1.length
          · subst hkl
            rw [ro_last, hcd]
            simp
          · rw [ro_cons (by omega), if_neg (by omega), if_neg (by omega), if_neg (by omega), if_neg (by omega), if_neg (by omega), if_neg (by omega), if_neg (by omega), if_neg (by omega)]
            exact frow k (by omega)
        have r12 : rI (wI (wI (wI (wI M 73 p.2.2.1.length (nI c)) 74 p.2.2.1.length (nI d)) 65 12 (nI (p.2.2.1.length + 1))) 65 11 (nI (p.2.1 - 1))) 65 12 = nI (pr2 p.2.2.2.1 p.2.2.2.2 q :: p.2.2.1).length := by simp [rI_wI]
        have r11 : rI (wI (wI (wI (wI M 73 p.2.2.1.length (nI c)) 74 p.2.2.1.length (nI d)) 65 12 (nI (p.2.2.1.length + 1))) 65 11 (nI (p.2.1 - 1))) 65 11 = nI (p.2.1 - 1) := by simp [rI_wI]
        have hS4 := Sh_ey e4 h
        generalize wI (wI (wI (wI M 73 p.2.2.1.length (nI c)) 74 p.2.2.1.length (nI d)) 65 12 (nI (p.2.2.1.length + 1))) 65 11 (nI (p.2.1 - 1)) = M4 at *
        obtain ⟨N, v1, v2, v3⟩ := n_judge hS4 a4 hf (show (pr2 p.2.2.2.1 p.2.2.2.2 q :: p.2.2.1).length ≤ 4 by simp; omega) (rv_cons hr hok.1 hok.2) r12 rows (show p.2.1 - 1 ≤ 3 by omega) r11
        rw [v1, jb2_some]
        refine ⟨N, rfl, MA_ey v3 a4 (fun c i hc => by unfold PG; omega), ⟨v2, ?_, fun _ => ⟨?_, fun k hk => ?_⟩, fun hh => ?_⟩, (e4.mono (fun c i hc => by unfold PB; omega)).tr (v3.mono (fun c i hc => by unfold PG at hc; unfold PB; omega))⟩
        · rw [ey_rI v3 (by unfold PG; omega)]; exact r11
        · rw [ey_rI v3 (by unfold PG; omega)]; exact r12
        · rw [ey_rI v3 (by unfold PG; omega), ey_rI v3 (by unfold PG; omega)]; exact rows k hk
        · exfalso
          have hh : (if alk (ws 6) (ws 7) (pr2 p.2.2.2.1 p.2.2.2.2 q :: p.2.2.1) = true then (if p.2.1 - 1 = 0 then 3 else 1) else 4) = 2 := hh
          split at hh
          · split at hh <;> omega
          · omega
      have e1 : ∀ c, Ey PB M (wI M 73 p.2.2.1.length c) := fun c => ey_wI Ey.rf (Or.inl rfl)
      have l1 : ∀ c, rI (wI M 73 p.2.2.1.length c) 65 12 = nI p.2.2.1.length ∧ rI (wI M 73 p.2.2.1.length c) 65 15 = nI p.2.2.2.1 ∧ rI (wI M 73 p.2.2.1.length c) 65 16 = nI p.2.2.2.2 := fun c => by
        simp only [rI_wI]; rw [if_neg (by omega), if_neg (by omega), if_neg (by omega)]; exact ⟨f12, f3, f4⟩
      rcases (show p.2.2.2.1 = 0 ∨ p.2.2.2.1 = 1 by omega) with hs0 | hs0
      · rw [if_pos (by rw [hs0]; rfl), gI_n (t65 h), Option.bind_some, f4]
        unfold j_X12_answer_59
        rw [stI_n (t73 h) (by omega) (by decide), Option.bind_some, q65_14 (Sh_ey (e1 _) h), Option.bind_some, gI_n (t65 (Sh_ey (e1 _) h)), Option.bind_some, (l1 _).1, gI_n (t65 (Sh_ey (e1 _) h)), Option.bind_some, (l1 _).2.1, if_pos (by rw [hs0]; rfl)]
        exact go _ _ (by unfold pr2; rw [if_pos hs0])
      · rw [if_neg (by rw [hs0]; decide)]
        unfold j_X12_answer_59
        rw [stI_n (t73 h) (by omega) (by decide), Option.bind_some, q65_14 (Sh_ey (e1 _) h), Option.bind_some, gI_n (t65 (Sh_ey (e1 _) h)), Option.bind_some, (l1 _).1, gI_n (t65 (Sh_ey (e1 _) h)), Option.bind_some, (l1 _).2.1, if_neg (by rw [hs0]; decide), gI_n (t65 (Sh_ey (e1 _) h)), Option.bind_some, (l1 _).2.2]
        exact go _ _ (by unfold pr2; rw [if_neg (by omega)])
  · rw [if_neg (fun e => h2 ((nI_eq (by omega) (by decide)).mp e)), if_neg h2]
    exact ⟨M, rfl, a, b, Ey.rf⟩
theorem sp_answer_pi (hp : PI ws p) (hf : WF ws) (t : Int32) : PI ws (sp_answer ws p t).2 := by
  unfold sp_answer
  split
  · rename_i h2
    split
    · exact hp
    · rename_i q hq
      obtain ⟨hs, hth⟩ := hp.2.2.2.2 h2
      obtain ⟨hal, h1⟩ := hp.2.2.2.1 (Or.inr h2)
      obtain ⟨hr, hlen⟩ := hp.2.2.1 (by omega)
      have h6 := (hf 6).1
      have h7 := (hf 7).1
      have hz : sz2 (ws 6) (ws 7) (1 - p.2.2.2.1) ≤ 6 := by unfold sz2; split <;> omega
      obtain ⟨hq2, -⟩ := (ixo_some (by omega)).mp hq
      have hok := pr2_ok hs hth hq2
      have hst : ∀ st : Nat, st = (if alk (ws 6) (ws 7) (pr2 p.2.2.2.1 p.2.2.2.2 q :: p.2.2.1) = true then (if p.2.1 - 1 = 0 then 3 else 1) else 4) → st ≤ 4 ∧ st ≠ 0 ∧ st ≠ 2 ∧ (st = 1 → alk (ws 6) (ws 7) (pr2 p.2.2.2.1 p.2.2.2.2 q :: p.2.2.1) = true ∧ 1 ≤ p.2.1 - 1) := by
        intro st he
        split at he
        · rename_i ha
          split at he
          · subst he; exact ⟨by omega, by omega, by omega, fun q => by omega⟩
          · subst he; exact ⟨by omega, by omega, by omega, fun _ => ⟨ha, by omega⟩⟩
        · subst he; exact ⟨by omega, by omega, by omega, fun q => by omega⟩
      obtain ⟨g1, g2, g3, g4⟩ := hst _ rfl
      exact ⟨g1, by show p.2.1 - 1 ≤ 3; omega, fun _ => ⟨rv_cons hr hok.1 hok.2, by show p.2.2.1.length + 1 + (p.2.1 - 1) ≤ 3; omega⟩, fun hh => g4 (hh.resolve_right g3), fun hh => absurd hh g3⟩
  · exact hp
theorem sp_pick_pi (hp : PI ws p) (hf : WF ws) (x t : Int32) : PI ws (sp_pick ws p x t).2 := by
  unfold sp_pick
  split
  · rename_i h1
    split
    · exact hp
    · rename_i s hs
      obtain ⟨hs2, -⟩ := (ixo_some (by decide)).mp hs
      split
      · exact hp
      · rename_i q hq
        have h6 := (hf 6).1
        have h7 := (hf 7).1
        have hz : sz2 (ws 6) (ws 7) s ≤ 6 := by unfold sz2; split <;> omega
        obtain ⟨hq2, -⟩ := (ixo_some (by omega)).mp hq
        exact ⟨by show 2 ≤ 4; decide, hp.2.1, fun _ => hp.2.2.1 (by omega), fun _ => hp.2.2.2.1 (Or.inl h1), fun _ => ⟨hs2, hq2⟩⟩
  · exact hp
def PN (ws : Nat → Wd) (p : Pl) : Prop := p.1 ≠ 0 → 0 < (ws 6).1 ∧ 0 < (ws 7).1
theorem sp_play_pn (hn : PN ws p) (x y k : Int32) : PN (sp_play ws p x y k).2.1 (sp_play ws p x y k).2.2 := by
  unfold sp_play
  split
  · exact hn
  · rename_i i hi
    split
    · exact hn
    · rename_i j hj
      split
      · exact hn
      · intro _
        refine ⟨?_, ?_⟩
        · show 0 < (upw (upw ws 6 (ws i)) 7 (ws j) 6).1
          unfold upw
          simp
          exact (wok_some hi).2.2
        · show 0 < (upw (upw ws 6 (ws i)) 7 (ws j) 7).1
          unfold upw
          simp
          exact (wok_some hj).2.2
theorem best_70 (hf : WF ws) {r : Rw} (hr : rv (ws 6) (ws 7) r) {k side : Nat} (hs : side < 2) (hk : k + 1 + r.length ≤ 5) (hk3 : k ≤ 2) {k63 : Nat → Int32 → jM → jO Int32} : ∀ (n t : Nat) (M : jM), GG ws 6 7 r M → rI M 65 11 = nI (k + 1) → t ≤ sz2 (ws 6) (ws 7) side → sz2 (ws 6) (ws 7) side - t < n → ∃ N, l_X12_best_70 k63 n 65 (nI side) (nI t) M = (match ff (fun t => (lrep (ws 6) (ws 7) r side t k).isNone) t (sz2 (ws 6) (ws 7) side - t) with
      | some t => some (nI (10 * side + t), N)
      | none => k63 65 (nI (side + 1)) N) ∧ GG ws 6 7 r N ∧ Ey PG M N := by
  have h6 := (hf 6).1
  have h7 := (hf 7).1
  have hz : sz2 (ws 6) (ws 7) side ≤ 6 := by unfold sz2; split <;> omega
  intro n
  induction n with
  | zero => intro t M _ _ _ h; omega
  | succ n ih =>
    intro t M g h11 ht hn
    show ∃ N, b_X12_best_70 k63 (l_X12_best_70 k63 n) 65 (nI side) (nI t) M = _ ∧ _
    unfold b_X12_best_70
    rw [jiv_n (t65 g.1), n_manyOf (by decide) (by decide) g hs, jb2_some]
    show ∃ N, (if nI (sz2 (ws 6) (ws 7) side) ≤ nI t then _ else _) = _ ∧ _
    by_cases hsz : sz2 (ws 6) (ws 7) side ≤ t
    · rw [if_pos (nI_le hsz (by omega)), show sz2 (ws 6) (ws 7) side - t = 0 by omega, nI_add]
      exact ⟨M, rfl, g, Ey.rf⟩
    · rw [if_neg (nI_ge (by omega) (by omega)), gI_n (t65 g.1), Option.bind_some, h11, pk_sub (by omega), Nat.add_sub_cancel, jiv_n (t65 g.1)]
      obtain ⟨N, q1, q2, q3⟩ := n_lrep hf (show 6 < 8 by decide) (show 7 < 8 by decide) hr hs (show t < sz2 (ws 6) (ws 7) side by omega) hk (by omega) g
      have e : ff (fun t => (lrep (ws 6) (ws 7) r side t k).isNone) t (sz2 (ws 6) (ws 7) side - t) = if (lrep (ws 6) (ws 7) r side t k).isNone = true then some t else ff (fun t => (lrep (ws 6) (ws 7) r side t k).isNone) (t + 1) (sz2 (ws 6) (ws 7) side - (t + 1)) := by
        rw [show sz2 (ws 6) (ws 7) side - t = (sz2 (ws 6) (ws 7) side - (t + 1)) + 1 by omega]; rfl
      rw [q1, jb2_some, e]
      cases hl : lrep (ws 6) (ws 7) r side t k with
      | none =>
        rw [if_neg (show ¬ (0 : Int32) ≤ oI none (-1) by decide), pk_mul, nI_add]
        exact ⟨N, rfl, q2, q3⟩
      | some s =>
        have := (lrep_lt (hf 6) (hf 7) hl).1
        rw [if_pos (show (0 : Int32) ≤ oI (some s) (-1) from (n9 s (by omega)).2.2), nI_add]
        obtain ⟨N2, s1, s2, s3⟩ := ih (t + 1) N q2 (by rw [ey_rI q3 (by unfold PG; omega)]; exact h11) (by omega) (by omega)
        exact ⟨N2, s1, s2, q3.tr s3⟩
theorem m_best (h : Sh M) (a : MA ws M) (hf : WF ws) (hp : PI ws p) (b : MB p M) : ∃ N, f_X12_best 65 M = some (sp_best ws p, N) ∧ MA ws N ∧ MB p N ∧ Ey PG M N := by
  unfold f_X12_best sp_best
  have h4 := hp.1
  have h3 := hp.2.1
  obtain ⟨n0, hn0⟩ := jF_is
  rw [gI_n (t65 h), Option.bind_some, b.1]
  have fin : ∀ N, GG ws 6 7 p.2.2.1 N → Ey PG M N → MA ws N ∧ MB p N ∧ Ey PG M N := fun N g e => ⟨g.2.1, MB_ey e b (fun c i hc => by unfold PG; omega), e⟩
  by_cases h1 : p.1 = 1
  · rw [if_pos (by rw [h1]), if_pos h1]
    unfold j_X12_best_19
    obtain ⟨hal, hr1⟩ := hp.2.2.2.1 (Or.inl h1)
    obtain ⟨hr, hlen⟩ := hp.2.2.1 (by omega)
    obtain ⟨f12, frow⟩ := b.2.2.1 (by omega)
    have h6 := (hf 6).1
    have h7 := (hf 7).1
    have hz0 : sz2 (ws 6) (ws 7) 0 ≤ 6 := h6
    have hz1 : sz2 (ws 6) (ws 7) 1 ≤ 6 := h7
    rw [jiv_n (t65 h)]
    obtain ⟨N, q1, q2, q3⟩ := n_layPlay h a (show p.2.2.1.length ≤ 4 by omega) f12 frow
    rw [q1, jb2_some, gI_n (t65 q2.1), Option.bind_some, ey_rI q3 (by unfold PG; omega), b.1, if_neg (by rw [h1]; decide)]
    have h11 : rI N 65 11 = nI (p.2.1 - 1 + 1) := by rw [ey_rI q3 (by unfold PG; omega), b.2.1, show p.2.1 - 1 + 1 = p.2.1 by omega]
    rw [show jF0 = (jF0 - 3) + 1 + 1 + 1 by omega]
    obtain ⟨N1, s1, s2, s3⟩ := best_70 hf hr (k := p.2.1 - 1) (show 0 < 2 by decide) (by omega) (by omega) (k63 := l_X12_best_63 (jF0 - 3 + 1 + 1)) jF0 0 N q2 h11 (Nat.zero_le _) (by omega)
    have st0 : l_X12_best_63 (jF0 - 3 + 1 + 1 + 1) 65 (nI 0) N = l_X12_best_70 (l_X12_best_63 (jF0 - 3 + 1 + 1)) jF0 65 (nI 0) (nI 0) N := by
      show b_X12_best_63 (l_X12_best_63 (jF0 - 3 + 1 + 1)) 65 (nI 0) N = _
      unfold b_X12_best_63
      rw [if_neg (nI_ge (by decide) (by decide))]
    rw [st0, s1]
    unfold fpk
    simp only [Nat.sub_zero]
    cases hff : ff (fun t => (lrep (ws 6) (ws 7) p.2.2.1 0 t (p.2.1 - 1)).isNone) 0 (sz2 (ws 6) (ws 7) 0) with
    | some t =>
      simp only [Nat.mul_zero, Nat.zero_add]
      exact ⟨N1, rfl, fin N1 s2 (q3.tr s3)⟩
    | none =>
      dsimp only
      obtain ⟨N2, v1, v2, v3⟩ := best_70 hf hr (k := p.2.1 - 1) (show 1 < 2 by decide) (by omega) (by omega) (k63 := l_X12_best_63 (jF0 - 3 + 1)) jF0 0 N1 s2 (by rw [ey_rI s3 (by unfold PG; omega)]; exact h11) (Nat.zero_le _) (by omega)
      have st1 : l_X12_best_63 (jF0 - 3 + 1 + 1) 65 (nI (0 + 1)) N1 = l_X12_best_70 (l_X12_best_63 (jF0 - 3 + 1)) jF0 65 (nI 1) (nI 0) N1 := by
        show b_X12_best_63 (l_X12_best_63 (jF0 - 3 + 1)) 65 (nI 1) N1 = _
        unfold b_X12_best_63
        rw [if_neg (nI_ge (by decide) (by decide))]
      rw [st1, v1]
      simp only [Nat.sub_zero]
      cases hff2 : ff (fun t => (lrep (ws 6) (ws 7) p.2.2.1 1 t (p.2.1 - 1)).isNone) 0 (sz2 (ws 6) (ws 7) 1) with
      | some t => exact ⟨N2, rfl, fin N2 v2 (q3.tr (s3.tr v3))⟩
      | none =>
        dsimp only
        refine ⟨N2, ?_, fin N2 v2 (q3.tr (s3.tr v3))⟩
        show b_X12_best_63 (l_X12_best_63 (jF0 - 3)) 65 (nI (1 + 1)) N2 = _
        unfold b_X12_best_63
        rw [if_pos (nI_le (by decide) (by decide))]; rfl
  · rw [if_neg (fun e => h1 ((nI_eq (by omega) (by decide)).mp e)), if_neg h1, Option.bind_some]
    by_cases h2 : p.1 = 2
    · rw [if_pos (by rw [h2]), if_pos h2]
      unfold j_X12_best_19
      obtain ⟨f3, f4⟩ := b.2.2.2 h2
      obtain ⟨f12, frow⟩ := b.2.2.1 (by omega)
      obtain ⟨hs, hth⟩ := hp.2.2.2.2 h2
      obtain ⟨hal, hr1⟩ := hp.2.2.2.1 (Or.inr h2)
      obtain ⟨hr, hlen⟩ := hp.2.2.1 (by omega)
      rw [jiv_n (t65 h)]
      obtain ⟨N, q1, q2, q3⟩ := n_layPlay h a (show p.2.2.1.length ≤ 4 by omega) f12 frow
      have g10 : rI N 65 10 = nI p.1 := by rw [ey_rI q3 (by unfold PG; omega)]; exact b.1
      have g15 : rI N 65 15 = nI p.2.2.2.1 := by rw [ey_rI q3 (by unfold PG; omega)]; exact f3
      have g16 : rI N 65 16 = nI p.2.2.2.2 := by rw [ey_rI q3 (by unfold PG; omega)]; exact f4
      have g11 : rI N 65 11 = nI p.2.1 := by rw [ey_rI q3 (by unfold PG; omega)]; exact b.2.1
      rw [q1, jb2_some, gI_n (t65 q2.1), Option.bind_some, g10, if_pos (by rw [h2]), gI_n (t65 q2.1), Option.bind_some, g15, gI_n (t65 q2.1), Option.bind_some, g16, gI_n (t65 q2.1), Option.bind_some, g11, pk_sub (by omega), jiv_n (t65 q2.1)]
      obtain ⟨N2, s1, s2, s3⟩ := n_lrep hf (show 6 < 8 by decide) (show 7 < 8 by decide) hr hs hth (show p.2.1 - 1 + 1 + p.2.2.1.length ≤ 5 by omega) (by omega) q2
      rw [s1, jb2_some]
      refine ⟨N2, ?_, fin N2 s2 (q3.tr s3)⟩
      cases hl : lrep (ws 6) (ws 7) p.2.2.1 p.2.2.2.1 p.2.2.2.2 (p.2.1 - 1) with
      | none => rw [if_neg (show ¬ (0 : Int32) ≤ oI none (-1) by decide)]; rfl
      | some s =>
        have := (lrep_lt (hf 6) (hf 7) hl).1
        rw [if_pos (show (0 : Int32) ≤ oI (some s) (-1) from (n9 s (by omega)).2.2)]; rfl
    · rw [if_neg (fun e => h2 ((nI_eq (by omega) (by decide)).mp e)), if_neg h2]
      exact ⟨M, rfl, a, b, Ey.rf⟩
theorem m_state (h : Sh M) (b : MB p M) : f_X12_state 65 M = some (nI p.1, M) := by
  unfold f_X12_state
  rw [gI_n (t65 h), Option.bind_some, b.1]; rfl
theorem m_left (h : Sh M) (hp : PI ws p) (b : MB p M) : f_X12_left 65 M = some (sp_left p, M) := by
  have h4 := hp.1
  unfold f_X12_left sp_left
  rw [gI_n (t65 h), Option.bind_some, b.1]
  by_cases h0 : p.1 = 0
  · rw [if_pos (by rw [h0]; rfl), if_pos h0]; rfl
  · rw [if_neg (nI_ne0 (by omega) (by omega)), if_neg h0, gI_n (t65 h), Option.bind_some, b.2.1]; rfl
end Q1
