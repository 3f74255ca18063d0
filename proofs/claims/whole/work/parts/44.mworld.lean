/-! The reference's worlds. -/
def MW (M : jM) (w : Nat) (u : Wd) : Prop := rI M 66 w = nI u.1 ∧ (∀ k, k < 6 → rI M 67 (6 * w + k) = nI (u.2.1 k)) ∧ (∀ k, k < 6 → rI M 68 (6 * w + k) = nI (u.2.2 k))
def upw (ws : Nat → Wd) (j : Nat) (u : Wd) : Nat → Wd := fun w => if w = j then u else ws w
def XA (ws : Nat → Wd) (M : jM) : Prop := ∀ w, w < 6 → Wat M (47 + 3 * w) (ws w)
def MA (ws : Nat → Wd) (M : jM) : Prop := ∀ w, w < 8 → MW M w (ws w)
def WF (ws : Nat → Wd) : Prop := ∀ w, wwf (ws w)
def wok (ws : Nat → Wd) (x : Int32) : Option Nat := (ixo x 6).bind (fun j => if (ws j).1 = 0 then none else some j)
theorem WF_up {ws : Nat → Wd} {j : Nat} {u : Wd} (h : WF ws) (hu : wwf u) : WF (upw ws j u) := fun w => by
  unfold upw; split
  · exact hu
  · exact h w
theorem wok_some {ws : Nat → Wd} {x : Int32} {j : Nat} (h : wok ws x = some j) : j < 6 ∧ x = nI j ∧ 0 < (ws j).1 := by
  unfold wok at h
  obtain ⟨i, h1, h2⟩ := Option.bind_eq_some_iff.mp h
  split at h2
  · cases h2
  · cases h2
    obtain ⟨h3, h4⟩ := (ixo_some (by decide)).mp h1
    exact ⟨h3, h4, by omega⟩
theorem MA_ex {C : Nat → Prop} {ws : Nat → Wd} {M N : jM} (h : Ex C M N) (k : MA ws M) (h0 : ¬ C 66) (h1 : ¬ C 67) (h2 : ¬ C 68) : MA ws N := fun w hw => by
  obtain ⟨a, b, c⟩ := k w hw
  exact ⟨by rw [ex_rI h h0]; exact a, fun q hq => by rw [ex_rI h h1]; exact b q hq, fun q hq => by rw [ex_rI h h2]; exact c q hq⟩
theorem m_in (x lo hi : Int32) (M : jM) : f_X12_in x lo hi M = some (bI (decide (¬ x < lo ∧ ¬ hi < x)), M) := by
  unfold f_X12_in
  by_cases h1 : x < lo
  · rw [if_pos h1]; simp [h1, rZ_0]
  · by_cases h2 : hi < x
    · rw [if_neg h1, if_pos h2]; simp [h2, rZ_0]
    · rw [if_neg h1, if_neg h2]; simp [h1, h2, rZ_1]
theorem m_in0 {x : Int32} {n : Nat} (hn : n < 2 ^ 31) (h0 : 0 < n) (M : jM) : f_X12_in x (nI 0) (nI (n - 1)) M = some (bI (ixo x n).isSome, M) := by
  rw [m_in]
  have key : decide (¬ x < nI 0 ∧ ¬ nI (n - 1) < x) = (ixo x n).isSome := by
    cases hc : ixo x n with
    | none =>
      apply decide_eq_false
      rintro ⟨p1, p2⟩
      rcases (ixo_none hn).mp hc with q | q
      · exact p1 (by rw [nI_0]; exact q)
      · apply p2
        rcases pk_ix x (n := n - 1) (by omega) with q3 | q3 | ⟨j, hj, rfl⟩
        · exact absurd (Int32.lt_of_lt_of_le (Int32.lt_of_lt_of_le q3 (nI_pos' hn)) q) (fun q9 => Int32.lt_irrefl q9)
        · exact Int32.lt_of_lt_of_le (nI_lt (by omega) hn) q
        · exact absurd q (nI_ge (by omega) hn)
    | some j =>
      obtain ⟨hj, rfl⟩ := (ixo_some hn).mp hc
      exact decide_eq_true (p := ¬ nI j < nI 0 ∧ ¬ nI (n - 1) < nI j) ⟨nI_nlt (Nat.zero_le _) (by omega), nI_nlt (by omega) (by omega)⟩
  rw [key]
theorem m_noPlace (x : Int32) (M : jM) : f_X12_noPlace x M = some (bI (ixo x 6).isNone, M) := by
  unfold f_X12_noPlace
  rw [show nI 5 = nI (6 - 1) from rfl, m_in0 (by decide) (by decide)]
  simp only [jb2_some, bI_z]
  cases ixo x 6 <;> rfl
section M1
variable {M : jM} {ws : Nat → Wd}
theorem m_things (h : Sh M) (a : MA ws M) {w : Nat} (hw : w < 8) : ldI M 66 (nI w) = some (nI (ws w).1) := by
  rw [ldI_n (t66 h) hw (by decide), (a w hw).1]
theorem m_marks (h : Sh M) (a : MA ws M) {w k : Nat} (hw : w < 8) (hk : k < 6) : ldI M 67 (nI 6 * nI w + nI k) = some (nI ((ws w).2.1 k)) := by
  rw [pk_mul, nI_add, ldI_n (t67 h) (by omega) (by decide), (a w hw).2.1 k hk]
theorem m_ties (h : Sh M) (a : MA ws M) {w k : Nat} (hw : w < 8) (hk : k < 6) : ldI M 68 (nI 6 * nI w + nI k) = some (nI ((ws w).2.2 k)) := by
  rw [pk_mul, nI_add, ldI_n (t68 h) (by omega) (by decide), (a w hw).2.2 k hk]
theorem m_noWorld (h : Sh M) (a : MA ws M) (hf : WF ws) (x : Int32) : f_X12_noWorld 65 x M = some (bI (wok ws x).isNone, M) := by
  unfold f_X12_noWorld wok
  rw [m_noPlace]
  simp only [jb2_some, bI_z]
  cases hc : ixo x 6 with
  | none => rfl
  | some j =>
    obtain ⟨hj, rfl⟩ := (ixo_some (by decide)).mp hc
    have h6 := (hf j).1
    simp only [Option.isNone_some, if_true, q65_0 h, Option.bind_some, m_things h a (show j < 8 by omega)]
    by_cases hz : (ws j).1 = 0
    · rw [hz, if_pos (show nI 0 = 0 from rfl), if_pos rfl]; rfl
    · rw [if_neg (nI_ne0 (by omega) (by omega)), if_neg hz]; rfl
theorem m_noThing (h : Sh M) (a : MA ws M) (hf : WF ws) (x t : Int32) : f_X12_noThing 65 x t M = some (bI ((wok ws x).bind (fun j => ixo t (ws j).1)).isNone, M) := by
  unfold f_X12_noThing
  rw [jiv_n (t65 h), m_noWorld h a hf]
  simp only [jb2_some, bI_z]
  cases hc : wok ws x with
  | none => rfl
  | some j =>
    obtain ⟨hj, rfl, h0⟩ := wok_some hc
    have h6 := (hf j).1
    simp only [Option.isNone_some, if_true, q65_0 h, Option.bind_some, m_things h a (show j < 8 by omega)]
    rw [pk_sub (show 1 ≤ (ws j).1 by omega), m_in0 (by omega) h0]
    simp only [jb2_some, bI_z]
    cases ixo t (ws j).1 <;> rfl
theorem m_isTied (h : Sh M) (a : MA ws M) (hf : WF ws) {w i j : Nat} (hw : w < 8) (hi : i < 6) (hj : j < 6) : f_X12_isTied 65 (nI w) (nI i) (nI j) M = some (bI (eb (ws w) i j), M) := by
  unfold f_X12_isTied
  simp only [q65_2 h, Option.bind_some, m_ties h a hw hi]
  rw [nI_shr (Nat.lt_trans (wwf_64 (hf w) i) (by decide)) (by omega)]
  have hb := bit1 ((ws w).2.2 i) (wwf_64 (hf w) i) j hj
  unfold eb
  by_cases hc : ((ws w).2.2 i).testBit j = true
  · rw [if_pos (hb.mpr hc), hc]; rfl
  · rw [if_neg (fun q => hc (hb.mp q))]; simp only [Bool.not_eq_true] at hc; rw [hc]; rfl
/-- one world of the reference has changed -/
theorem MA_set {N : jM} {j : Nat} {u : Wd} (a : MA ws M) (h0 : ∀ w, w ≠ j → rI N 66 w = rI M 66 w) (h1 : ∀ w, w < 8 → w ≠ j → ∀ k, k < 6 → rI N 67 (6 * w + k) = rI M 67 (6 * w + k) ∧ rI N 68 (6 * w + k) = rI M 68 (6 * w + k)) (hu : MW N j u) : MA (upw ws j u) N := fun w hw => by
  unfold upw
  by_cases hwj : w = j
  · subst hwj; rw [if_pos rfl]; exact hu
  · rw [if_neg hwj]
    obtain ⟨p, q, r⟩ := a w hw
    exact ⟨by rw [h0 w hwj]; exact p, fun k hk => by rw [(h1 w hw hwj k hk).1]; exact q k hk, fun k hk => by rw [(h1 w hw hwj k hk).2]; exact r k hk⟩
/-- the loop of world() -/
theorem m_world_l {j : Nat} (hj : j < 6) (n0 : Int32) : ∀ (n c : Nat) (M : jM), Sh M → c ≤ 6 → 6 - c < n → ∃ N, l_X12_world_31 n 65 (nI j) n0 (nI c) M = some (n0, N) ∧ Ex (fun q => q = 67 ∨ q = 68) M N ∧ (∀ k, (k < 6 * j + c ∨ 6 * j + 6 ≤ k) → rI N 67 k = rI M 67 k ∧ rI N 68 k = rI M 68 k) ∧ (∀ k, c ≤ k → k < 6 → rI N 67 (6 * j + k) = nI 0 ∧ rI N 68 (6 * j + k) = nI 0) := by
  intro n
  induction n with
  | zero => intro c M _ _ h; omega
  | succ n ih =>
    intro c M h hc hn
    show ∃ N, b_X12_world_31 (l_X12_world_31 n) 65 (nI j) n0 (nI c) M = some (n0, N) ∧ _
    unfold b_X12_world_31
    by_cases hc6 : 6 ≤ c
    · rw [if_pos (nI_le hc6 (by omega))]
      exact ⟨M, rfl, Ex.rf, fun _ _ => ⟨rfl, rfl⟩, fun k h1 h2 => by omega⟩
    · rw [if_neg (nI_ge (by omega) (by decide)), q65_1 h, Option.bind_some, pk_mul, nI_add, stI_n (t67 h) (by omega) (by decide), Option.bind_some]
      have e1 : Ex (fun q => q = 67 ∨ q = 68) M (wI M 67 (6 * j + c) (nI 0)) := ex_wI Ex.rf (Or.inl rfl)
      rw [q65_2 (Sh_ex e1 h), Option.bind_some, stI_n (t68 (Sh_ex e1 h)) (by omega) (by decide), Option.bind_some, nI_add]
      have e2 := ex_wI (a := 68) (k := 6 * j + c) (v := nI 0) e1 (Or.inr rfl)
      obtain ⟨N, q1, q2, q3, q4⟩ := ih (c + 1) _ (Sh_ex e2 h) (by omega) (by omega)
      refine ⟨N, q1, e2.tr q2, fun k hk => ?_, fun k h1 h2 => ?_⟩
      · rw [(q3 k (by omega)).1, (q3 k (by omega)).2]
        simp only [rI_wI]
        refine ⟨?_, ?_⟩
        · rw [if_neg (by omega), if_neg (by omega)]
        · rw [if_neg (by omega), if_neg (by omega)]
      · by_cases hkc : k = c
        · subst hkc
          rw [(q3 (6 * j + k) (by omega)).1, (q3 (6 * j + k) (by omega)).2]
          simp [rI_wI]
        · exact q4 k (by omega) h2
/-- lay: out of the new rows -/
theorem m_lay_l {j n1 : Nat} (hj : j < 8) (hn1 : n1 ≤ 6) {nm nt : Nat → Nat} : ∀ (n c : Nat) (M : jM), Sh M → (∀ k, k < n1 → rI M 69 k = nI (nm k) ∧ rI M 70 k = nI (nt k)) → c ≤ 6 → 6 - c < n → ∃ N, l_X12_lay_9 n 65 (nI j) (nI n1) (nI c) M = some ((), N) ∧ Ex (fun q => q = 67 ∨ q = 68) M N ∧ (∀ k, (k < 6 * j + c ∨ 6 * j + 6 ≤ k) → rI N 67 k = rI M 67 k ∧ rI N 68 k = rI M 68 k) ∧ (∀ k, c ≤ k → k < 6 → rI N 67 (6 * j + k) = nI (if k < n1 then nm k else 0) ∧ rI N 68 (6 * j + k) = nI (if k < n1 then nt k else 0)) := by
  intro n
  induction n with
  | zero => intro c M _ _ _ h; omega
  | succ n ih =>
    intro c M h hnew hc hn
    show ∃ N, b_X12_lay_9 (l_X12_lay_9 n) 65 (nI j) (nI n1) (nI c) M = some ((), N) ∧ _
    unfold b_X12_lay_9
    by_cases hc6 : 6 ≤ c
    · rw [if_pos (nI_le hc6 (by omega))]
      exact ⟨M, rfl, Ex.rf, fun _ _ => ⟨rfl, rfl⟩, fun k h1 h2 => by omega⟩
    · rw [if_neg (nI_ge (by omega) (by decide)), q65_1 h, Option.bind_some, q65_3 h]
      have e1 : ∀ v, Ex (fun q => q = 67 ∨ q = 68) M (wI M 67 (6 * j + c) v) := fun v => ex_wI Ex.rf (Or.inl rfl)
      have key : ∀ v w, ∃ N, l_X12_lay_9 n 65 (nI j) (nI n1) (nI (c + 1)) (wI (wI M 67 (6 * j + c) v) 68 (6 * j + c) w) = some ((), N) ∧ Ex (fun q => q = 67 ∨ q = 68) M N ∧ (∀ k, (k < 6 * j + c ∨ 6 * j + 6 ≤ k) → rI N 67 k = rI M 67 k ∧ rI N 68 k = rI M 68 k) ∧ (∀ k, c ≤ k → k < 6 → rI N 67 (6 * j + k) = (if k = c then v else nI (if k < n1 then nm k else 0)) ∧ rI N 68 (6 * j + k) = (if k = c then w else nI (if k < n1 then nt k else 0))) := by
        intro v w
        have e2 := ex_wI (a := 68) (k := 6 * j + c) (v := w) (e1 v) (Or.inr rfl)
        obtain ⟨N, q1, q2, q3, q4⟩ := ih (c + 1) _ (Sh_ex e2 h) (fun k hk => by simp only [rI_wI]; rw [if_neg (by omega), if_neg (by omega), if_neg (by omega), if_neg (by omega)]; exact hnew k hk) (by omega) (by omega)
        refine ⟨N, q1, e2.tr q2, fun k hk => ?_, fun k h1 h2 => ?_⟩
        · rw [(q3 k (by omega)).1, (q3 k (by omega)).2]
          simp only [rI_wI]
          refine ⟨?_, ?_⟩
          · rw [if_neg (by omega), if_neg (by omega)]
          · rw [if_neg (by omega), if_neg (by omega)]
        · by_cases hkc : k = c
          · subst hkc
            rw [(q3 (6 * j + k) (by omega)).1, (q3 (6 * j + k) (by omega)).2]
            simp [rI_wI]
          · rw [if_neg hkc, if_neg hkc]; exact q4 k (by omega) h2
      by_cases hcn : n1 ≤ c
      · rw [if_pos (nI_le hcn (by omega))]
        unfold j_X12_lay_40 j_X12_lay_66
        rw [pk_mul, nI_add, stI_n (t67 h) (by omega) (by decide), Option.bind_some, q65_2 (Sh_ex (e1 _) h), Option.bind_some, if_pos (nI_le hcn (by omega)), stI_n (t68 (Sh_ex (e1 _) h)) (by omega) (by decide), Option.bind_some, nI_add]
        obtain ⟨N, q1, q2, q3, q4⟩ := key (nI 0) (nI 0)
        refine ⟨N, q1, q2, q3, fun k h1 h2 => ?_⟩
        rw [(q4 k h1 h2).1, (q4 k h1 h2).2]
        by_cases hkc : k = c
        · rw [if_pos hkc, if_pos hkc, if_neg (by omega), if_neg (by omega)]; exact ⟨rfl, rfl⟩
        · rw [if_neg hkc, if_neg hkc]; exact ⟨rfl, rfl⟩
      · rw [if_neg (nI_ge (by omega) (by omega)), Option.bind_some, ldI_n (t69 h) (by omega) (by decide), Option.bind_some, (hnew c (by omega)).1]
        unfold j_X12_lay_40 j_X12_lay_66
        rw [pk_mul, nI_add, stI_n (t67 h) (by omega) (by decide), Option.bind_some, q65_2 (Sh_ex (e1 _) h), Option.bind_some, if_neg (nI_ge (by omega) (by omega)), q65_4 (Sh_ex (e1 _) h), Option.bind_some, ldI_n (t70 (Sh_ex (e1 _) h)) (by omega) (by decide), Option.bind_some, stI_n (t68 (Sh_ex (e1 _) h)) (by omega) (by decide), Option.bind_some, nI_add, rI_wI, if_neg (by omega), (hnew c (by omega)).2]
        obtain ⟨N, q1, q2, q3, q4⟩ := key (nI (nm c)) (nI (nt c))
        refine ⟨N, q1, q2, q3, fun k h1 h2 => ?_⟩
        rw [(q4 k h1 h2).1, (q4 k h1 h2).2]
        by_cases hkc : k = c
        · subst hkc; rw [if_pos rfl, if_pos rfl, if_pos (by omega), if_pos (by omega)]; exact ⟨rfl, rfl⟩
        · rw [if_neg hkc, if_neg hkc]; exact ⟨rfl, rfl⟩
theorem m_lay (h : Sh M) (a : MA ws M) {j n1 : Nat} (hj : j < 8) (hn1 : n1 ≤ 6) {nm nt : Nat → Nat} (hnew : ∀ k, k < n1 → rI M 69 k = nI (nm k) ∧ rI M 70 k = nI (nt k)) : ∃ N, f_X12_lay 65 (nI j) (nI n1) M = some ((), N) ∧ Ex (fun q => q = 66 ∨ q = 67 ∨ q = 68) M N ∧ MA (upw ws j (n1, fun k => if k < n1 then nm k else 0, fun k => if k < n1 then nt k else 0)) N := by
  unfold f_X12_lay
  rw [q65_0 h, Option.bind_some, stI_n (t66 h) hj (by decide), Option.bind_some]
  have e1 : Ex (fun q => q = 66 ∨ q = 67 ∨ q = 68) M (wI M 66 j (nI n1)) := ex_wI Ex.rf (Or.inl rfl)
  obtain ⟨n0, hn0⟩ := jF_is
  obtain ⟨N, q1, q2, q3, q4⟩ := m_lay_l (nm := nm) (nt := nt) hj hn1 jF0 0 _ (Sh_ex e1 h) (fun k hk => by simp only [rI_wI]; rw [if_neg (by omega), if_neg (by omega)]; exact hnew k hk) (by decide) (by omega)
  have e2 := e1.tr (q2.mono (fun c hc => Or.inr hc))
  refine ⟨N, q1, e2, MA_set a (fun w hw => ?_) (fun w hw hwj k hk => ?_) ⟨?_, fun k hk => (q4 k (Nat.zero_le _) hk).1, fun k hk => (q4 k (Nat.zero_le _) hk).2⟩⟩
  · rw [ex_rI q2 (by omega), rI_wI, if_neg (by omega)]
  · rw [(q3 (6 * w + k) (by omega)).1, (q3 (6 * w + k) (by omega)).2, rI_wI, rI_wI, if_neg (by omega), if_neg (by omega)]; exact ⟨rfl, rfl⟩
  · rw [ex_rI q2 (by omega), rI_wI]; simp
end M1
