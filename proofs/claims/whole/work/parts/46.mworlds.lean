/-! The reference's side of the calls on worlds. -/
def CMA (c : Nat) : Prop := 66 ≤ c ∧ c ≤ 70
section M2
variable {M : jM} {ws : Nat → Wd}
theorem m_world (h : Sh M) (a : MA ws M) (x n : Int32) : ∃ N, f_X12_world 65 x n M = some ((sp_world ws x n).1, N) ∧ MA (sp_world ws x n).2 N ∧ Ex CMA M N := by
  unfold f_X12_world sp_world
  rw [m_noPlace]
  simp only [jb2_some, bI_z]
  cases hc : ixo x 6 with
  | none => exact ⟨M, rfl, a, Ex.rf⟩
  | some j =>
    obtain ⟨hj, rfl⟩ := (ixo_some (by decide)).mp hc
    simp only [Option.isNone_some, if_true, m_in, jb2_some, bI_z, decide_eq_false_iff_not]
    cases hn : ixo n 7 with
    | none =>
      rw [if_pos (fun q => ?_)]
      · exact ⟨M, rfl, a, Ex.rf⟩
      · rcases (ixo_none (by decide)).mp hn with q1 | q1
        · exact q.1 (Int32.lt_of_lt_of_le q1 (nI_pos' (by decide)))
        · exact q.2 (Int32.lt_of_lt_of_le (nI_lt (by decide) (by decide)) q1)
    | some k =>
      obtain ⟨hk, rfl⟩ := (ixo_some (by decide)).mp hn
      cases k with
      | zero => rw [if_pos (fun q => q.1 (nI_lt (by decide) (by decide)))]; exact ⟨M, rfl, a, Ex.rf⟩
      | succ k =>
        rw [if_neg (fun q => q ⟨nI_nlt (by omega) (by omega), nI_nlt (by omega) (by decide)⟩), q65_0 h, Option.bind_some, stI_n (t66 h) (by omega) (by decide), Option.bind_some]
        have e1 : Ex CMA M (wI M 66 j (nI (k + 1))) := ex_wI Ex.rf (by unfold CMA; omega)
        obtain ⟨n0, hn0⟩ := jF_is
        obtain ⟨N, q1, q2, q3, q4⟩ := m_world_l hj (nI (k + 1)) jF0 0 _ (Sh_ex e1 h) (by decide) (by omega)
        refine ⟨N, q1, MA_set a (fun w hw => ?_) (fun w hw hwj i hi => ?_) ⟨?_, fun i hi => (q4 i (Nat.zero_le _) hi).1, fun i hi => (q4 i (Nat.zero_le _) hi).2⟩, e1.tr (q2.mono (fun c hc => by unfold CMA; omega))⟩
        · rw [ex_rI q2 (by omega), rI_wI, if_neg (by omega)]
        · rw [(q3 (6 * w + i) (by omega)).1, (q3 (6 * w + i) (by omega)).2, rI_wI, rI_wI, if_neg (by omega), if_neg (by omega)]; exact ⟨rfl, rfl⟩
        · rw [ex_rI q2 (by omega), rI_wI]; simp
/-- a row of marks, or of ties, is written -/
theorem MA_mark (a : MA ws M) {j i v : Nat} (hj : j < 8) (hi : i < 6) : MA (upw ws j ((ws j).1, up1 (ws j).2.1 i v, (ws j).2.2)) (wI M 67 (6 * j + i) (nI v)) := by
  obtain ⟨p1, p2, p3⟩ := a j hj
  refine MA_set a (fun w hw => ?_) (fun w hw hwj k hk => ?_) ⟨?_, fun k hk => ?_, fun k hk => ?_⟩
  · rw [rI_wI, if_neg (by omega)]
  · rw [rI_wI, rI_wI, if_neg (by omega), if_neg (by omega)]; exact ⟨rfl, rfl⟩
  · rw [rI_wI, if_neg (by omega)]; exact p1
  · rw [rI_wI]
    show _ = nI (if k = i then v else (ws j).2.1 k)
    by_cases hki : k = i
    · subst hki; simp
    · rw [if_neg (by omega), if_neg hki]; exact p2 k hk
  · rw [rI_wI, if_neg (by omega)]; exact p3 k hk
theorem MA_tie (a : MA ws M) {j i v : Nat} (hj : j < 8) (hi : i < 6) : MA (upw ws j ((ws j).1, (ws j).2.1, up1 (ws j).2.2 i v)) (wI M 68 (6 * j + i) (nI v)) := by
  obtain ⟨p1, p2, p3⟩ := a j hj
  refine MA_set a (fun w hw => ?_) (fun w hw hwj k hk => ?_) ⟨?_, fun k hk => ?_, fun k hk => ?_⟩
  · rw [rI_wI, if_neg (by omega)]
  · rw [rI_wI, rI_wI, if_neg (by omega), if_neg (by omega)]; exact ⟨rfl, rfl⟩
  · rw [rI_wI, if_neg (by omega)]; exact p1
  · rw [rI_wI, if_neg (by omega)]; exact p2 k hk
  · rw [rI_wI]
    show _ = nI (if k = i then v else (ws j).2.2 k)
    by_cases hki : k = i
    · subst hki; simp
    · rw [if_neg (by omega), if_neg hki]; exact p3 k hk
theorem m_mark (h : Sh M) (a : MA ws M) (hf : WF ws) (x t q v : Int32) : ∃ N, f_X12_mark 65 x t q v M = some ((sp_mark ws x t q v).1, N) ∧ MA (sp_mark ws x t q v).2 N ∧ Ex CMA M N := by
  unfold f_X12_mark sp_mark
  rw [jiv_n (t65 h), m_noThing h a hf]
  cases hc : wok ws x with
  | none => exact ⟨M, rfl, a, Ex.rf⟩
  | some j =>
    obtain ⟨hj, rfl, h0⟩ := wok_some hc
    have h6 := (hf j).1
    simp only [Option.bind_some, jb2_some]
    cases hi : ixo t (ws j).1 with
    | none => exact ⟨M, rfl, a, Ex.rf⟩
    | some i =>
      obtain ⟨hi2, rfl⟩ := (ixo_some (by omega)).mp hi
      simp only [Option.isNone_some, bI_z, if_true]
      rw [show nI 1 = nI (2 - 1) from rfl, m_in0 (by decide) (by decide)]
      simp only [jb2_some, bI_z]
      cases hq : ixo q 2 with
      | none => exact ⟨M, rfl, a, Ex.rf⟩
      | some c =>
        obtain ⟨hc2, rfl⟩ := (ixo_some (by decide)).mp hq
        have h4 := (hf j).2.1 i
        simp only [Option.isSome_some, Bool.true_eq_false, if_false, q65_1 h, Option.bind_some, m_marks h a (show j < 8 by omega) (show i < 6 by omega)]
        have go : ∀ r, r < 4 → j_X12_mark_68 65 (nI j) (nI i) (nI ((ws j).2.1 i)) 67 (nI 6 * nI j + nI i) (nI r) M = some (bI (decide (r ≠ (ws j).2.1 i)), wI M 67 (6 * j + i) (nI r)) := by
          intro r hr
          unfold j_X12_mark_68
          have e1 : Ex CMA M (wI M 67 (6 * j + i) (nI r)) := ex_wI Ex.rf (by unfold CMA; omega)
          rw [pk_mul, nI_add, stI_n (t67 h) (by omega) (by decide), Option.bind_some, q65_1 (Sh_ex e1 h), Option.bind_some, ldI_n (t67 (Sh_ex e1 h)) (by omega) (by decide), Option.bind_some, rI_wI]
          simp only [and_self, if_true]
          by_cases hr2 : r = (ws j).2.1 i
          · rw [hr2, if_pos rfl]; simp; rfl
          · rw [if_neg (fun e => hr2 ((nI_eq (by omega) (by omega)).mp e)), decide_eq_true (p := _ ≠ _) hr2]; rfl
        have hsb := sb_64 2 (by decide) c hc2 _ h4 (decide (v ≠ 0))
        refine ⟨wI M 67 (6 * j + i) (nI (sb ((ws j).2.1 i) c (decide (v ≠ 0)))), ?_, MA_mark a (by omega) (by omega), ex_wI Ex.rf (by unfold CMA; omega)⟩
        by_cases hv : v = 0
        · rw [if_pos hv, sb_f c (by omega) _ (show (ws j).2.1 i < 64 by omega), go _ (by simpa [hv] using hsb)]; simp [hv]
        · rw [if_neg hv, sb_t c (by omega) _ (show (ws j).2.1 i < 64 by omega), go _ (by simpa [hv] using hsb)]; simp [hv]
theorem m_tie (h : Sh M) (a : MA ws M) (hf : WF ws) (x s t v : Int32) : ∃ N, f_X12_tie 65 x s t v M = some ((sp_tie ws x s t v).1, N) ∧ MA (sp_tie ws x s t v).2 N ∧ Ex CMA M N := by
  unfold f_X12_tie sp_tie
  rw [jiv_n (t65 h), m_noThing h a hf]
  cases hc : wok ws x with
  | none => exact ⟨M, rfl, a, Ex.rf⟩
  | some j =>
    obtain ⟨hj, rfl, h0⟩ := wok_some hc
    have h6 := (hf j).1
    simp only [Option.bind_some, jb2_some]
    cases hi : ixo s (ws j).1 with
    | none => exact ⟨M, rfl, a, Ex.rf⟩
    | some i =>
      obtain ⟨hi2, rfl⟩ := (ixo_some (by omega)).mp hi
      simp only [Option.isNone_some, bI_z, if_true]
      rw [jiv_n (t65 h), m_noThing h a hf, hc]
      simp only [jb2_some, Option.bind_some]
      cases hq : ixo t (ws j).1 with
      | none => exact ⟨M, rfl, a, Ex.rf⟩
      | some c =>
        obtain ⟨hc2, rfl⟩ := (ixo_some (by omega)).mp hq
        have h4 := wwf_64 (hf j) i
        simp only [Option.isNone_some, bI_z, if_true, q65_2 h, Option.bind_some, m_ties h a (show j < 8 by omega) (show i < 6 by omega)]
        have go : ∀ r, r < 64 → j_X12_tie_65 65 (nI j) (nI i) (nI ((ws j).2.2 i)) 68 (nI 6 * nI j + nI i) (nI r) M = some (bI (decide (r ≠ (ws j).2.2 i)), wI M 68 (6 * j + i) (nI r)) := by
          intro r hr
          unfold j_X12_tie_65
          have e1 : Ex CMA M (wI M 68 (6 * j + i) (nI r)) := ex_wI Ex.rf (by unfold CMA; omega)
          rw [pk_mul, nI_add, stI_n (t68 h) (by omega) (by decide), Option.bind_some, q65_2 (Sh_ex e1 h), Option.bind_some, ldI_n (t68 (Sh_ex e1 h)) (by omega) (by decide), Option.bind_some, rI_wI]
          simp only [and_self, if_true]
          by_cases hr2 : r = (ws j).2.2 i
          · rw [hr2, if_pos rfl]; simp; rfl
          · rw [if_neg (fun e => hr2 ((nI_eq (by omega) (by omega)).mp e)), decide_eq_true (p := _ ≠ _) hr2]; rfl
        have hsb := sb_64 6 (by decide) c (by omega) _ h4 (decide (v ≠ 0))
        refine ⟨wI M 68 (6 * j + i) (nI (sb ((ws j).2.2 i) c (decide (v ≠ 0)))), ?_, MA_tie a (by omega) (by omega), ex_wI Ex.rf (by unfold CMA; omega)⟩
        by_cases hv : v = 0
        · rw [if_pos hv, sb_f c (by omega) _ h4, go _ (by simpa [hv] using hsb)]; simp [hv]
        · rw [if_neg hv, sb_t c (by omega) _ h4, go _ (by simpa [hv] using hsb)]; simp [hv]
theorem m_tied (h : Sh M) (a : MA ws M) (hf : WF ws) (x s t : Int32) : f_X12_tied 65 x s t M = some (sp_tied ws x s t, M) := by
  unfold f_X12_tied sp_tied
  rw [jiv_n (t65 h), m_noThing h a hf]
  cases hc : wok ws x with
  | none => rfl
  | some j =>
    obtain ⟨hj, rfl, h0⟩ := wok_some hc
    have h6 := (hf j).1
    simp only [Option.bind_some, jb2_some]
    cases hi : ixo s (ws j).1 with
    | none => rfl
    | some i =>
      obtain ⟨hi2, rfl⟩ := (ixo_some (by omega)).mp hi
      simp only [Option.isNone_some, bI_z, if_true]
      rw [jiv_n (t65 h), m_noThing h a hf, hc]
      simp only [jb2_some, Option.bind_some]
      cases hq : ixo t (ws j).1 with
      | none => rfl
      | some c =>
        obtain ⟨hc2, rfl⟩ := (ixo_some (by omega)).mp hq
        simp only [Option.isNone_some, bI_z, if_true, jiv_n (t65 h), m_isTied h a hf (show j < 8 by omega) (show i < 6 by omega) (show c < 6 by omega), jb2_some, bI_z]
        cases eb (ws j) i c <;> rfl
end M2
