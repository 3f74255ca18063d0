theorem xb_step : ∀ x, x < 64 → ∀ d, d < 6 → nI (x % 2 ^ d) ||| (if x.testBit d = true then nI 1 <<< (nI d &&& 31) else nI 0) = nI (x % 2 ^ (d + 1)) := by decide +kernel
theorem sw_lt {i j c n : Nat} (hi : i < n) (hj : j < n) (hc : c < n) : sw i j c < n := by unfold sw; split; · exact hj
                                                                                          split
                                                                                          · exact hi
                                                                                          · exact hc
theorem wd_eq {v : Wd} (h : wwf v) : ((v.1, fun k => if k < v.1 then v.2.1 k else 0, fun k => if k < v.1 then v.2.2 k else 0) : Wd) = v := by
  obtain ⟨n, f, g⟩ := v
  have e1 : (fun k => if k < n then f k else 0) = f := by
    funext k
    split
    · rfl
    · exact ((h.2.2.2 k (by show n ≤ k; omega)).1).symm
  have e2 : (fun k => if k < n then g k else 0) = g := by
    funext k
    split
    · rfl
    · exact ((h.2.2.2 k (by show n ≤ k; omega)).2).symm
  show ((n, fun k => if k < n then f k else 0, fun k => if k < n then g k else 0) : Wd) = (n, f, g)
  rw [e1, e2]
section M3
variable {M : jM} {ws : Nat → Wd}
theorem m_turned {i j c : Nat} (hi : i < 6) (hj : j < 6) (hc : c < 6) : f_X12_turned (nI c) (nI i) (nI j) M = some (nI (sw i j c), M) := by
  unfold f_X12_turned sw
  by_cases h1 : c = i
  · rw [if_pos (by rw [h1]), if_pos h1]; rfl
  · rw [if_neg (fun e => h1 ((nI_eq (by omega) (by omega)).mp e)), if_neg h1]
    by_cases h2 : c = j
    · rw [if_pos (by rw [h2]), if_pos h2]; rfl
    · rw [if_neg (fun e => h2 ((nI_eq (by omega) (by omega)).mp e)), if_neg h2]; rfl
theorem m_turn_81 (hf : WF ws) {k31 : Nat → Int32 → Int32 → Int32 → Int32 → Int32 → jM → jO Int32} {w i j c : Nat} {v4 : Int32} (hw : w < 6) (hi : i < (ws w).1) (hj : j < (ws w).1) (hc : c < (ws w).1) : ∀ (n d : Nat) (M : jM), Sh M → MA ws M → rI M 70 c = nI (xb ((ws w).2.2 (sw i j c)) i j % 2 ^ d) → d ≤ (ws w).1 → (ws w).1 - d < n →
    ∃ N, l_X12_turn_81 k31 n 65 (nI w) (nI i) (nI j) v4 (nI c) (nI (sw i j c)) (nI d) M = k31 65 (nI w) (nI i) (nI j) v4 (nI (c + 1)) N ∧ Ex (fun q => q = 70) M N ∧ rI N 70 c = nI (xb ((ws w).2.2 (sw i j c)) i j) ∧ (∀ k, k ≠ c → rI N 70 k = rI M 70 k) := by
  have h6 := (hf w).1
  have hs := sw_lt hi hj hc
  have hx := xb_lt (ws w).1 h6 i hi j hj _ ((hf w).2.2.1 (sw i j c))
  have hx64 : xb ((ws w).2.2 (sw i j c)) i j < 64 := xb_lt 6 (by decide) i (by omega) j (by omega) _ (wwf_64 (hf w) _)
  intro n
  induction n with
  | zero => intro d M _ _ _ _ h; omega
  | succ n ih =>
    intro d M h a hr hd hn
    show ∃ N, b_X12_turn_81 k31 (l_X12_turn_81 k31 n) 65 (nI w) (nI i) (nI j) v4 (nI c) (nI (sw i j c)) (nI d) M = _ ∧ _
    unfold b_X12_turn_81
    rw [q65_0 h, Option.bind_some, m_things h a (show w < 8 by omega), Option.bind_some]
    by_cases hdn : (ws w).1 ≤ d
    · rw [if_pos (nI_le hdn (by omega)), nI_add]
      have hd2 : d = (ws w).1 := by omega
      exact ⟨M, rfl, Ex.rf, by rw [hr, hd2, Nat.mod_eq_of_lt hx], fun _ _ => rfl⟩
    · rw [if_neg (nI_ge (by omega) (by omega)), q65_4 h, Option.bind_some, ldI_n (t70 h) (show c < 6 by omega) (by decide), Option.bind_some, m_turned (by omega) (by omega) (show d < 6 by omega), jb2_some, jiv_n (t65 h), m_isTied h a hf (show w < 8 by omega) (by omega) (Nat.lt_of_lt_of_le (sw_lt hi hj (show d < (ws w).1 by omega)) h6), jb2_some, hr]
      have hb : eb (ws w) (sw i j c) (sw i j d) = (xb ((ws w).2.2 (sw i j c)) i j).testBit d := (xb_bit i (by omega) j (by omega) _ (wwf_64 (hf w) _) d (by omega)).symm
      have hstep := xb_step _ hx64 d (by omega)
      have fin : ∀ v, nI (xb ((ws w).2.2 (sw i j c)) i j % 2 ^ d) ||| v = nI (xb ((ws w).2.2 (sw i j c)) i j % 2 ^ (d + 1)) → ∃ N, j_X12_turn_125 k31 (l_X12_turn_81 k31 n) 65 (nI w) (nI i) (nI j) v4 (nI c) (nI (sw i j c)) (nI d) 70 (nI c) (nI (xb ((ws w).2.2 (sw i j c)) i j % 2 ^ d)) v M = k31 65 (nI w) (nI i) (nI j) v4 (nI (c + 1)) N ∧ Ex (fun q => q = 70) M N ∧ rI N 70 c = nI (xb ((ws w).2.2 (sw i j c)) i j) ∧ (∀ k, k ≠ c → rI N 70 k = rI M 70 k) := by
        intro v hv
        unfold j_X12_turn_125
        rw [stI_n (t70 h) (show c < 6 by omega) (by decide), Option.bind_some, nI_add, hv]
        have e1 : Ex (fun q => q = 70) M (wI M 70 c (nI (xb ((ws w).2.2 (sw i j c)) i j % 2 ^ (d + 1)))) := ex_wI Ex.rf rfl
        obtain ⟨N, q1, q2, q3, q4⟩ := ih (d + 1) _ (Sh_ex e1 h) (MA_ex e1 a (by decide) (by decide) (by decide)) (by rw [rI_wI]; simp) (by omega) (by omega)
        exact ⟨N, q1, e1.tr q2, q3, fun k hk => by rw [q4 k hk, rI_wI, if_neg (by omega)]⟩
      rw [hb]
      cases ht : (xb ((ws w).2.2 (sw i j c)) i j).testBit d with
      | false =>
        rw [if_pos (show bI false = 0 from rfl)]
        refine fin _ ?_
        rw [ht] at hstep; exact hstep
      | true =>
        rw [if_neg (show ¬ bI true = 0 by decide)]
        refine fin _ ?_
        rw [ht] at hstep; exact hstep
theorem m_turn_31 (hf : WF ws) {w i j z : Nat} (hw : w < 6) (hi : i < (ws w).1) (hj : j < (ws w).1) (hz : z < 6) : ∀ (n c : Nat) (M : jM), Sh M → MA ws M → (∀ k, k < c → rI M 69 k = nI ((tw (ws w) i j).2.1 k) ∧ rI M 70 k = nI ((tw (ws w) i j).2.2 k)) → c ≤ (ws w).1 → (ws w).1 - c < n →
    ∃ N, l_X12_turn_31 n 65 (nI w) (nI i) (nI j) (nI z) (nI c) M = some (nI 1, N) ∧ MA (upw ws z (tw (ws w) i j)) N ∧ Ex CMA M N := by
  have h6 := (hf w).1
  obtain ⟨n0, hn0⟩ := jF_is
  intro n
  induction n with
  | zero => intro c M _ _ _ _ h; omega
  | succ n ih =>
    intro c M h a hr hc hn
    show ∃ N, b_X12_turn_31 (l_X12_turn_31 n) 65 (nI w) (nI i) (nI j) (nI z) (nI c) M = _ ∧ _
    unfold b_X12_turn_31
    rw [q65_0 h, Option.bind_some, m_things h a (show w < 8 by omega), Option.bind_some]
    by_cases hcn : (ws w).1 ≤ c
    · rw [if_pos (nI_le hcn (by omega)), Option.bind_some, m_things h a (show w < 8 by omega), Option.bind_some, jiv_n (t65 h)]
      obtain ⟨N, q1, q2, q3⟩ := m_lay h a (show z < 8 by omega) h6 (nm := (tw (ws w) i j).2.1) (nt := (tw (ws w) i j).2.2) (fun k hk => hr k (by omega))
      rw [q1]
      refine ⟨N, rfl, ?_, q2.mono (fun c hc => by unfold CMA; omega)⟩
      have e := wd_eq (tw_wf (hf w) hi hj)
      have e' : ((ws w).1, (fun k => if k < (ws w).1 then (tw (ws w) i j).2.1 k else 0), (fun k => if k < (ws w).1 then (tw (ws w) i j).2.2 k else 0)) = tw (ws w) i j := e
      rw [e'] at q3
      exact q3
    · have hs := sw_lt hi hj (show c < (ws w).1 by omega)
      rw [if_neg (nI_ge (by omega) (by omega)), m_turned (by omega) (by omega) (show c < 6 by omega), jb2_some, q65_3 h, Option.bind_some, q65_1 h, Option.bind_some, m_marks h a (show w < 8 by omega) (show sw i j c < 6 by omega), Option.bind_some, stI_n (t69 h) (show c < 6 by omega) (by decide), Option.bind_some]
      have e1 : Ex CMA M (wI M 69 c (nI ((ws w).2.1 (sw i j c)))) := ex_wI Ex.rf (by unfold CMA; omega)
      rw [q65_4 (Sh_ex e1 h), Option.bind_some, stI_n (t70 (Sh_ex e1 h)) (show c < 6 by omega) (by decide), Option.bind_some]
      have e2 := ex_wI (a := 70) (k := c) (v := nI 0) e1 (by unfold CMA; omega)
      have a2 : MA ws (wI (wI M 69 c (nI ((ws w).2.1 (sw i j c)))) 70 c (nI 0)) := MA_ex (ex_wI (a := 70) (k := c) (v := nI 0) (ex_wI (C := fun q => q = 69 ∨ q = 70) (M := M) (a := 69) (k := c) (v := nI ((ws w).2.1 (sw i j c))) Ex.rf (Or.inl rfl)) (Or.inr rfl)) a (by decide) (by decide) (by decide)
      obtain ⟨N, q1, q2, q3, q4⟩ := m_turn_81 hf (k31 := l_X12_turn_31 n) (v4 := nI z) hw hi hj (show c < (ws w).1 by omega) jF0 0 _ (Sh_ex e2 h) a2 (by rw [rI_wI]; simp [Nat.mod_one]) (Nat.zero_le _) (by omega)
      rw [q1]
      have e3 := e2.tr (q2.mono (fun c hc => by unfold CMA; omega))
      obtain ⟨N2, p1, p2, p3⟩ := ih (c + 1) N (Sh_ex e3 h) (MA_ex q2 a2 (by decide) (by decide) (by decide)) (fun k hk => by
        by_cases hkc : k = c
        · subst hkc
          refine ⟨?_, q3⟩
          rw [ex_rI q2 (by decide)]
          simp only [rI_wI]
          rw [if_neg (by omega), if_pos (by simp)]; rfl
        · rw [q4 k hkc, ex_rI q2 (by decide)]
          simp only [rI_wI]
          rw [if_neg (by omega), if_neg (by omega), if_neg (by omega), if_neg (by omega)]
          exact hr k (by omega)) (by omega) (by omega)
      exact ⟨N2, p1, p2, e3.tr p3⟩
theorem m_turn (h : Sh M) (a : MA ws M) (hf : WF ws) (x s t y : Int32) : ∃ N, f_X12_turn 65 x s t y M = some ((sp_turn ws x s t y).1, N) ∧ MA (sp_turn ws x s t y).2 N ∧ Ex CMA M N := by
  unfold f_X12_turn sp_turn
  rw [jiv_n (t65 h), m_noThing h a hf]
  cases hc : wok ws x with
  | none => exact ⟨M, rfl, a, Ex.rf⟩
  | some j =>
    obtain ⟨hj, rfl, h0⟩ := wok_some hc
    have h6 := (hf j).1
    simp only [Option.bind_some, jb2_some]
    cases hi : ixo s (ws j).1 with
    | none => exact ⟨M, rfl, a, Ex.rf⟩
    | some i =>
      obtain ⟨hi2, rfl⟩ := (ixo_some (by omega)).mp hi
      simp only [Option.isNone_some, bI_z, if_true]
      rw [jiv_n (t65 h), m_noThing h a hf, hc]
      simp only [jb2_some, Option.bind_some]
      cases hq : ixo t (ws j).1 with
      | none => exact ⟨M, rfl, a, Ex.rf⟩
      | some c =>
        obtain ⟨hc2, rfl⟩ := (ixo_some (by omega)).mp hq
        simp only [Option.isNone_some, bI_z, if_true, m_noPlace, jb2_some]
        cases hy : ixo y 6 with
        | none => exact ⟨M, rfl, a, Ex.rf⟩
        | some z =>
          obtain ⟨hz, rfl⟩ := (ixo_some (by decide)).mp hy
          simp only [Option.isNone_some, if_true]
          obtain ⟨n0, hn0⟩ := jF_is
          exact m_turn_31 hf hj hi2 hc2 hz jF0 0 M h a (fun k hk => by omega) (Nat.zero_le _) (by omega)
theorem m_join_57 (hf : WF ws) {w v z : Nat} (hw : w < 6) (hv : v < 6) (hz : z < 6) (h6 : (ws w).1 + (ws v).1 ≤ 6) : ∀ (n c : Nat) (M : jM), Sh M → MA ws M → (∀ k, k < c → rI M 69 k = nI ((jn2 (ws w) (ws v)).2.1 k) ∧ rI M 70 k = nI ((jn2 (ws w) (ws v)).2.2 k)) → c ≤ (ws w).1 + (ws v).1 → (ws w).1 + (ws v).1 - c < n →
    ∃ N, l_X12_join_57 n 65 (nI w) (nI v) (nI z) (nI (ws w).1) (nI ((ws w).1 + (ws v).1)) (nI c) M = some (nI ((ws w).1 + (ws v).1), N) ∧ MA (upw ws z (jn2 (ws w) (ws v))) N ∧ Ex CMA M N := by
  intro n
  induction n with
  | zero => intro c M _ _ _ _ h; omega
  | succ n ih =>
    intro c M h a hr hc hn
    show ∃ N, b_X12_join_57 (l_X12_join_57 n) 65 (nI w) (nI v) (nI z) (nI (ws w).1) (nI ((ws w).1 + (ws v).1)) (nI c) M = _ ∧ _
    unfold b_X12_join_57
    by_cases hcn : (ws w).1 + (ws v).1 ≤ c
    · rw [if_pos (nI_le hcn (by omega)), jiv_n (t65 h)]
      obtain ⟨N, q1, q2, q3⟩ := m_lay h a (show z < 8 by omega) h6 (nm := (jn2 (ws w) (ws v)).2.1) (nt := (jn2 (ws w) (ws v)).2.2) (fun k hk => hr k (by omega))
      rw [q1]
      refine ⟨N, rfl, ?_, q2.mono (fun c hc => by unfold CMA; omega)⟩
      have e := wd_eq (jn2_wf (hf w) (hf v) h6)
      have e' : ((ws w).1 + (ws v).1, (fun k => if k < (ws w).1 + (ws v).1 then (jn2 (ws w) (ws v)).2.1 k else 0), (fun k => if k < (ws w).1 + (ws v).1 then (jn2 (ws w) (ws v)).2.2 k else 0)) = jn2 (ws w) (ws v) := e
      rw [e'] at q3
      exact q3
    · rw [if_neg (nI_ge (by omega) (by omega)), q65_3 h, Option.bind_some]
      have go : ∀ p q, p = (jn2 (ws w) (ws v)).2.1 c → q = (jn2 (ws w) (ws v)).2.2 c → ∃ N, l_X12_join_57 n 65 (nI w) (nI v) (nI z) (nI (ws w).1) (nI ((ws w).1 + (ws v).1)) (nI (c + 1)) (wI (wI M 69 c (nI p)) 70 c (nI q)) = some (nI ((ws w).1 + (ws v).1), N) ∧ MA (upw ws z (jn2 (ws w) (ws v))) N ∧ Ex CMA M N := by
        intro p q hp hq
        have e1 : Ex (fun q => q = 69 ∨ q = 70) M (wI (wI M 69 c (nI p)) 70 c (nI q)) := ex_wI (ex_wI Ex.rf (Or.inl rfl)) (Or.inr rfl)
        obtain ⟨N, q1, q2, q3⟩ := ih (c + 1) _ (Sh_ex e1 h) (MA_ex e1 a (by decide) (by decide) (by decide)) (fun k hk => by
          simp only [rI_wI]
          by_cases hkc : k = c
          · subst hkc; rw [if_neg (by omega), if_pos (by simp), if_pos (by simp), hp, hq]; exact ⟨rfl, rfl⟩
          · rw [if_neg (by omega), if_neg (by omega), if_neg (by omega), if_neg (by omega)]; exact hr k (by omega)) (by omega) (by omega)
        exact ⟨N, q1, q2, (e1.mono (fun c hc => by unfold CMA; omega)).tr q3⟩
      have e1 : ∀ p, Ex (fun q => q = 69 ∨ q = 70) M (wI M 69 c (nI p)) := fun p => ex_wI Ex.rf (Or.inl rfl)
      have a1 : ∀ p, MA ws (wI M 69 c (nI p)) := fun p => MA_ex (e1 p) a (by decide) (by decide) (by decide)
      by_cases hcw : (ws w).1 ≤ c
      · have hsub : nI 6 * nI v + nI c - nI (ws w).1 = nI 6 * nI v + nI (c - (ws w).1) := by
          rw [pk_mul, nI_add, pk_sub (by omega), nI_add]; congr 1; omega
        rw [if_pos (nI_le hcw (by omega)), q65_1 h, Option.bind_some, hsub, m_marks h a (show v < 8 by omega) (show c - (ws w).1 < 6 by omega), Option.bind_some]
        unfold j_X12_join_107 j_X12_join_154
        rw [stI_n (t69 h) (show c < 6 by omega) (by decide), Option.bind_some, q65_4 (Sh_ex (e1 _) h), Option.bind_some, if_pos (nI_le hcw (by omega)), q65_2 (Sh_ex (e1 _) h), Option.bind_some, hsub, m_ties (Sh_ex (e1 _) h) (a1 _) (show v < 8 by omega) (show c - (ws w).1 < 6 by omega), Option.bind_some]
        have hlt : (ws v).2.2 (c - (ws w).1) * 2 ^ (ws w).1 < 2 ^ 32 := by
          have h1 := wwf_64 (hf v) (c - (ws w).1)
          have h2 : 2 ^ (ws w).1 ≤ 2 ^ 6 := Nat.pow_le_pow_right (by decide) (by omega)
          have h3 : (ws v).2.2 (c - (ws w).1) * 2 ^ (ws w).1 ≤ 64 * 2 ^ 6 := Nat.mul_le_mul (Nat.le_of_lt h1) h2
          omega
        rw [nI_shl (by omega) hlt, stI_n (t70 (Sh_ex (e1 _) h)) (show c < 6 by omega) (by decide), Option.bind_some, nI_add]
        refine go _ _ ?_ ?_
        · show _ = (if c < (ws w).1 then _ else (ws v).2.1 (c - (ws w).1)); rw [if_neg (by omega)]
        · show _ = (if c < (ws w).1 then _ else (ws v).2.2 (c - (ws w).1) <<< (ws w).1); rw [if_neg (by omega)]
      · rw [if_neg (nI_ge (by omega) (by omega)), q65_1 h, Option.bind_some, m_marks h a (show w < 8 by omega) (show c < 6 by omega), Option.bind_some]
        unfold j_X12_join_107 j_X12_join_154
        rw [stI_n (t69 h) (show c < 6 by omega) (by decide), Option.bind_some, q65_4 (Sh_ex (e1 _) h), Option.bind_some, if_neg (nI_ge (by omega) (by omega)), q65_2 (Sh_ex (e1 _) h), Option.bind_some, m_ties (Sh_ex (e1 _) h) (a1 _) (show w < 8 by omega) (show c < 6 by omega), Option.bind_some, stI_n (t70 (Sh_ex (e1 _) h)) (show c < 6 by omega) (by decide), Option.bind_some, nI_add]
        refine go _ _ ?_ ?_
        · show _ = (if c < (ws w).1 then (ws w).2.1 c else _); rw [if_pos (by omega)]
        · show _ = (if c < (ws w).1 then (ws w).2.2 c else _); rw [if_pos (by omega)]
theorem m_join (h : Sh M) (a : MA ws M) (hf : WF ws) (x y z : Int32) : ∃ N, f_X12_join 65 x y z M = some ((sp_join ws x y z).1, N) ∧ MA (sp_join ws x y z).2 N ∧ Ex CMA M N := by
  unfold f_X12_join sp_join
  rw [jiv_n (t65 h), m_noWorld h a hf, jb2_some]
  cases hc : wok ws x with
  | none => exact ⟨M, rfl, a, Ex.rf⟩
  | some j =>
    obtain ⟨hj, rfl, h0⟩ := wok_some hc
    have h6 := (hf j).1
    simp only [Option.isNone_some, bI_z, if_true]
    rw [jiv_n (t65 h), m_noWorld h a hf, jb2_some]
    cases hk : wok ws y with
    | none => exact ⟨M, rfl, a, Ex.rf⟩
    | some k =>
      obtain ⟨hk2, rfl, h02⟩ := wok_some hk
      have h62 := (hf k).1
      simp only [Option.isNone_some, bI_z, if_true]
      rw [m_noPlace, jb2_some]
      cases hz : ixo z 6 with
      | none => exact ⟨M, rfl, a, Ex.rf⟩
      | some q =>
        obtain ⟨hq2, rfl⟩ := (ixo_some (by decide)).mp hz
        simp only [Option.isNone_some, bI_z, if_true, q65_0 h, Option.bind_some, m_things h a (show j < 8 by omega), m_things h a (show k < 8 by omega), jv, nI_add]
        by_cases hs : (ws j).1 + (ws k).1 ≤ 6
        · rw [if_pos (nI_le hs (by decide)), if_pos hs]
          obtain ⟨n0, hn0⟩ := jF_is
          exact m_join_57 hf hj hk2 hq2 hs jF0 0 M h a (fun k hk => by omega) (Nat.zero_le _) (by omega)
        · rw [if_neg (nI_ge (by omega) (by omega)), if_neg hs]
          exact ⟨M, rfl, a, Ex.rf⟩
theorem m_bits_l {x : Nat} (hx : x < 64) : ∀ (n i : Nat), i ≤ 6 → 6 - i < n → l_X12_bits_4 n (nI x) (nI (sm (fun k => (x >>> k) &&& 1) i)) (nI i) M = some (nI (pop6 x), M) := by
  intro n
  induction n with
  | zero => intro i _ h; omega
  | succ n ih =>
    intro i hi hn
    show b_X12_bits_4 (l_X12_bits_4 n) (nI x) _ (nI i) M = _
    unfold b_X12_bits_4
    by_cases hc : 6 ≤ i
    · rw [if_pos (nI_le hc (by omega)), show i = 6 by omega]; rfl
    · rw [if_neg (nI_ge (by omega) (by omega)), nI_shr (by omega) (by omega), nI_and, nI_add]
      simp only [jv, Option.bind_some, nI_add]
      exact ih (i + 1) (by omega) (by omega)
theorem m_bits {x : Nat} (hx : x < 64) : f_X12_bits (nI x) M = some (nI (pop6 x), M) := by
  obtain ⟨n0, hn0⟩ := jF_is
  exact m_bits_l hx jF0 0 (by decide) (by omega)
theorem m_about_60 (h : Sh M) (a : MA ws M) (hf : WF ws) {j q : Nat} (hj : j < 6) (hq : q < 4) (f : Nat → Nat) (hfq : f = fun i => if q = 0 then 1 else if q = 3 then pop6 ((ws j).2.2 i) else ((ws j).2.1 i >>> (q - 1)) &&& 1) : ∀ (n i : Nat), i ≤ (ws j).1 → (ws j).1 - i < n → l_X12_about_60 n 65 (nI j) (nI q) (nI (sm f i)) (nI i) M = some (nI (sm f (ws j).1), M) := by
  have h6 := (hf j).1
  intro n
  induction n with
  | zero => intro i _ h; omega
  | succ n ih =>
    intro i hi hn
    show b_X12_about_60 (l_X12_about_60 n) 65 (nI j) (nI q) _ (nI i) M = _
    unfold b_X12_about_60
    rw [q65_0 h, Option.bind_some, m_things h a (show j < 8 by omega), Option.bind_some]
    by_cases hc : (ws j).1 ≤ i
    · rw [if_pos (nI_le hc (by omega)), show i = (ws j).1 by omega]; rfl
    · rw [if_neg (nI_ge (by omega) (by omega))]
      have fin : ∀ v, v = nI (f i) → j_X12_about_121 (l_X12_about_60 n) 65 (nI j) (nI q) (nI i) (nI (sm f i)) v M = some (nI (sm f (ws j).1), M) := by
        intro v hv
        unfold j_X12_about_121
        rw [hv, nI_add]
        simp only [jv, Option.bind_some, nI_add]
        exact ih (i + 1) (by omega) (by omega)
      by_cases q0 : q = 0
      · rw [if_pos (by rw [q0]; rfl)]
        refine fin _ ?_
        rw [hfq]; simp [q0]
      · rw [if_neg (nI_ne0 (by omega) (by omega))]
        by_cases q3 : q = 3
        · rw [if_pos (by rw [q3]), q65_2 h, Option.bind_some, m_ties h a (show j < 8 by omega) (show i < 6 by omega), Option.bind_some, m_bits (wwf_64 (hf j) i), jb2_some]
          refine fin _ ?_
          rw [hfq]; simp [q3]
        · have h4 := (hf j).2.1 i
          rw [if_neg (fun e => q3 ((nI_eq (by omega) (by decide)).mp e)), q65_1 h, Option.bind_some, m_marks h a (show j < 8 by omega) (show i < 6 by omega), Option.bind_some]
          refine fin _ ?_
          rw [pk_sub (by omega), nI_shr (by omega) (by omega), nI_and, hfq]
          simp [q0, q3]
theorem m_about (h : Sh M) (a : MA ws M) (hf : WF ws) (x q : Int32) : f_X12_about 65 x q M = some (sp_about ws x q, M) := by
  unfold f_X12_about sp_about
  rw [jiv_n (t65 h), m_noWorld h a hf, jb2_some]
  cases hc : wok ws x with
  | none => rfl
  | some j =>
    obtain ⟨hj, rfl, h0⟩ := wok_some hc
    have h6 := (hf j).1
    simp only [Option.isNone_some, bI_z, if_true, q65_0 h, Option.bind_some, m_things h a (show j < 8 by omega), nI_add, m_in, jb2_some, decide_eq_false_iff_not]
    obtain ⟨n0, hn0⟩ := jF_is
    cases hq : ixo q 16 with
    | none =>
      have hbig : q < 0 ∨ nI 16 ≤ q := (ixo_none (by decide)).mp hq
      rw [if_pos (fun p => ?_), if_pos (fun p => ?_)]
      · rfl
      · rcases hbig with q1 | q1
        · exact p.1 (by rw [nI_0]; exact q1)
        · exact p.2 (Int32.lt_of_lt_of_le (nI_lt (by decide) (by decide)) q1)
      · rcases hbig with q1 | q1
        · exact p.1 (Int32.lt_of_lt_of_le q1 (nI_pos' (by decide)))
        · exact p.2 (Int32.lt_of_lt_of_le (nI_lt (by omega) (by decide)) q1)
    | some k =>
      obtain ⟨hk, rfl⟩ := (ixo_some (by decide)).mp hq
      by_cases k10 : 10 ≤ k ∧ k - 10 < (ws j).1
      · rw [if_neg (fun p => p ⟨nI_nlt k10.1 (by omega), nI_nlt (by omega) (by omega)⟩), q65_1 h, Option.bind_some]
        have e : nI 6 * nI j + nI k - nI 10 = nI 6 * nI j + nI (k - 10) := by rw [pk_mul, nI_add, pk_sub (by omega), nI_add]; congr 1; omega
        rw [e, m_marks h a (show j < 8 by omega) (show k - 10 < 6 by omega), Option.bind_some]
        dsimp only
        rw [if_neg (by omega), if_neg (by omega), if_neg (by omega), if_neg (by omega), if_pos k10]; rfl
      · rw [if_pos (fun p => by
          have p1 := p.1
          have p2 := p.2
          by_cases q10 : 10 ≤ k
          · exact p2 (nI_lt (by omega) (by omega))
          · exact p1 (nI_lt (by omega) (by decide)))]
        by_cases k4 : k < 4
        · rw [if_neg (fun p => p ⟨nI_nlt (Nat.zero_le _) (by omega), nI_nlt (by omega) (by decide)⟩)]
          have e := m_about_60 h a hf hj k4 _ rfl jF0 0 (Nat.zero_le _) (by omega)
          have e0 : sm (fun i => if k = 0 then 1 else if k = 3 then pop6 ((ws j).2.2 i) else ((ws j).2.1 i >>> (k - 1)) &&& 1) 0 = 0 := rfl
          rw [e0] at e
          rw [e]
          dsimp only
          rcases (show k = 0 ∨ k = 1 ∨ k = 2 ∨ k = 3 by omega) with rfl | rfl | rfl | rfl
          · simp only [if_true]
            have : ∀ n, sm (fun _ => 1) n = n := by
              intro n
              induction n with
              | zero => rfl
              | succ n ih => show sm (fun _ => 1) n + 1 = n + 1; rw [ih]
            rw [this]
          · rfl
          · rfl
          · rfl
        · rw [if_pos (fun p => p.2 (nI_lt (by omega) (by omega)))]
          dsimp only
          rw [if_neg (by omega), if_neg (by omega), if_neg (by omega), if_neg (by omega), if_neg k10]; rfl
end M3
