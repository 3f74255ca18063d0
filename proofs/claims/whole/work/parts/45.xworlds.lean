/-! What the calls on worlds answer, and the class's side of it. -/
def sp_world (ws : Nat → Wd) (x n : Int32) : Int32 × (Nat → Wd) := match ixo x 6 with
  | none => (-1, ws)
  | some j => match ixo n 7 with
    | some (k + 1) => (nI (k + 1), upw ws j (k + 1, fun _ => 0, fun _ => 0))
    | _ => (-2, ws)
def sp_mark (ws : Nat → Wd) (x t q v : Int32) : Int32 × (Nat → Wd) := match wok ws x with
  | none => (-1, ws)
  | some j => match ixo t (ws j).1 with
    | none => (-1, ws)
    | some i => match ixo q 2 with
      | none => (-2, ws)
      | some c => (bI (decide (sb ((ws j).2.1 i) c (decide (v ≠ 0)) ≠ (ws j).2.1 i)), upw ws j ((ws j).1, up1 (ws j).2.1 i (sb ((ws j).2.1 i) c (decide (v ≠ 0))), (ws j).2.2))
def sp_tie (ws : Nat → Wd) (x s t v : Int32) : Int32 × (Nat → Wd) := match wok ws x with
  | none => (-1, ws)
  | some j => match ixo s (ws j).1 with
    | none => (-1, ws)
    | some i => match ixo t (ws j).1 with
      | none => (-1, ws)
      | some c => (bI (decide (sb ((ws j).2.2 i) c (decide (v ≠ 0)) ≠ (ws j).2.2 i)), upw ws j ((ws j).1, (ws j).2.1, up1 (ws j).2.2 i (sb ((ws j).2.2 i) c (decide (v ≠ 0)))))
def sp_turn (ws : Nat → Wd) (x s t y : Int32) : Int32 × (Nat → Wd) := match wok ws x with
  | none => (-1, ws)
  | some j => match ixo s (ws j).1 with
    | none => (-1, ws)
    | some i => match ixo t (ws j).1 with
      | none => (-1, ws)
      | some c => match ixo y 6 with
        | none => (-1, ws)
        | some z => (nI 1, upw ws z (tw (ws j) i c))
def sp_join (ws : Nat → Wd) (x y z : Int32) : Int32 × (Nat → Wd) := match wok ws x with
  | none => (-1, ws)
  | some j => match wok ws y with
    | none => (-1, ws)
    | some k => match ixo z 6 with
      | none => (-1, ws)
      | some q => if (ws j).1 + (ws k).1 ≤ 6 then (nI ((ws j).1 + (ws k).1), upw ws q (jn2 (ws j) (ws k))) else (-2, ws)
def sp_about (ws : Nat → Wd) (x q : Int32) : Int32 := match wok ws x with
  | none => -1
  | some j => match ixo q 16 with
    | none => -2
    | some k => if k = 0 then nI (ws j).1 else if k = 1 then nI (sm (fun i => ((ws j).2.1 i >>> 0) &&& 1) (ws j).1) else if k = 2 then nI (sm (fun i => ((ws j).2.1 i >>> 1) &&& 1) (ws j).1) else if k = 3 then nI (sm (fun i => pop6 ((ws j).2.2 i)) (ws j).1) else if 10 ≤ k ∧ k - 10 < (ws j).1 then nI ((ws j).2.1 (k - 10)) else -2
def sp_tied (ws : Nat → Wd) (x s t : Int32) : Int32 := match wok ws x with
  | none => -1
  | some j => match ixo s (ws j).1 with
    | none => -1
    | some i => match ixo t (ws j).1 with
      | none => -1
      | some c => bI (eb (ws j) i c)
def CXA (c : Nat) : Prop := c = 3 ∨ c = 4 ∨ c = 5 ∨ (47 ≤ c ∧ c < 65)
theorem sp_mark_wf {ws : Nat → Wd} {x t q v : Int32} (hf : WF ws) : WF (sp_mark ws x t q v).2 := by
  unfold sp_mark
  split
  · exact hf
  · rename_i j hj
    split
    · exact hf
    · rename_i i hi
      split
      · exact hf
      · rename_i c hc
        have h6 := (hf j).1
        obtain ⟨hi2, -⟩ := (ixo_some (by omega)).mp hi
        obtain ⟨hc2, -⟩ := (ixo_some (by omega)).mp hc
        refine WF_up hf ⟨(hf j).1, fun k => ?_, (hf j).2.2.1, fun k hk => ⟨?_, ((hf j).2.2.2 k hk).2⟩⟩
        · show up1 _ _ _ k < 4
          unfold up1
          split
          · exact sb_64 2 (by decide) c hc2 _ ((hf j).2.1 i) _
          · exact (hf j).2.1 k
        · have hk : (ws j).1 ≤ k := hk
          show up1 _ _ _ k = 0
          unfold up1
          rw [if_neg (by omega)]
          exact ((hf j).2.2.2 k hk).1
theorem sp_tie_wf {ws : Nat → Wd} {x s t v : Int32} (hf : WF ws) : WF (sp_tie ws x s t v).2 := by
  unfold sp_tie
  split
  · exact hf
  · rename_i j hj
    split
    · exact hf
    · rename_i i hi
      split
      · exact hf
      · rename_i c hc
        have h6 := (hf j).1
        obtain ⟨hi2, -⟩ := (ixo_some (by omega)).mp hi
        obtain ⟨hc2, -⟩ := (ixo_some (by omega)).mp hc
        refine WF_up hf ⟨(hf j).1, (hf j).2.1, fun k => ?_, fun k hk => ⟨((hf j).2.2.2 k hk).1, ?_⟩⟩
        · show up1 _ _ _ k < 2 ^ (ws j).1
          unfold up1
          split
          · exact sb_64 (ws j).1 h6 c hc2 _ ((hf j).2.2.1 i) _
          · exact (hf j).2.2.1 k
        · have hk : (ws j).1 ≤ k := hk
          show up1 _ _ _ k = 0
          unfold up1
          rw [if_neg (by omega)]
          exact ((hf j).2.2.2 k hk).2
theorem sp_world_wf {ws : Nat → Wd} {x n : Int32} (hf : WF ws) : WF (sp_world ws x n).2 := by
  unfold sp_world
  split
  · exact hf
  · split
    · rename_i k hk
      obtain ⟨hk2, -⟩ := (ixo_some (by decide)).mp hk
      exact WF_up hf ⟨by show k + 1 ≤ 6; omega, fun _ => by show 0 < 4; decide, fun _ => Nat.two_pow_pos _, fun _ _ => ⟨rfl, rfl⟩⟩
    · exact hf
theorem sp_turn_wf {ws : Nat → Wd} {x s t y : Int32} (hf : WF ws) : WF (sp_turn ws x s t y).2 := by
  unfold sp_turn
  split
  · exact hf
  · rename_i j hj
    have h6 := (hf j).1
    split
    · exact hf
    · rename_i i hi
      split
      · exact hf
      · rename_i c hc
        split
        · exact hf
        · exact WF_up hf (tw_wf (hf j) ((ixo_some (by omega)).mp hi).1 ((ixo_some (by omega)).mp hc).1)
theorem sp_join_wf {ws : Nat → Wd} {x y z : Int32} (hf : WF ws) : WF (sp_join ws x y z).2 := by
  unfold sp_join
  split
  · exact hf
  · split
    · exact hf
    · split
      · exact hf
      · split
        · rename_i h; exact WF_up hf (jn2_wf (hf _) (hf _) h)
        · exact hf
section X1
variable {M : jM} {ws : Nat → Wd}
theorem XA_ex {C : Nat → Prop} {N : jM} (h : Ex C M N) (a : XA ws M) (hc : ∀ c, 47 ≤ c → c < 65 → ¬ C c) : XA ws N := fun w hw => Wat_ex h (a w hw) (hc _ (by omega) (by omega)) (hc _ (by omega) (by omega)) (hc _ (by omega) (by omega))
theorem XA_set {N : jM} {j : Nat} {u : Wd} (a : XA ws M) (hj : j < 6) (hu : Wat N (47 + 3 * j) u) (e : Ex (cW (47 + 3 * j)) M N) : XA (upw ws j u) N := fun w hw => by
  unfold upw
  by_cases hwj : w = j
  · subst hwj; rw [if_pos rfl]; exact hu
  · rw [if_neg hwj]
    exact Wat_ex e (a w hw) (by unfold cW; omega) (by unfold cW; omega) (by unfold cW; omega)
theorem cW_CXA {j : Nat} (hj : j < 6) : ∀ c, cW (47 + 3 * j) c → CXA c := fun c hc => by unfold cW at hc; unfold CXA; omega
theorem x_placeOf (h : Sh M) (x : Int32) : f_X11_placeOf 1 x M = some ((ixo x 6).map (fun j => 47 + 3 * j), M) := by
  unfold f_X11_placeOf
  cases hc : ixo x 6 with
  | none =>
    by_cases h0 : x < 0
    · rw [if_pos h0]; rfl
    · rw [if_neg h0, q1_0 h, Option.bind_some, ln_n (t2 h) (by decide) (by decide), Option.bind_some, if_pos (((ixo_none (by decide)).mp hc).resolve_left h0)]; rfl
  | some j =>
    obtain ⟨hj, rfl⟩ := (ixo_some (by decide)).mp hc
    rw [if_neg (nI_pos (by omega)), q1_0 h, Option.bind_some, ln_n (t2 h) (by decide) (by decide), Option.bind_some, if_neg (nI_ge hj (by decide)), Option.bind_some, ldA_n (t2 h) hj (by decide), r2 h hj]; rfl
theorem x_worldOf (h : Sh M) (a : XA ws M) (hf : WF ws) (x : Int32) : f_X11_worldOf 1 x M = some ((wok ws x).map (fun j => 47 + 3 * j), M) := by
  unfold f_X11_worldOf wok
  rw [jiv_n (t1 h), x_placeOf h]
  simp only [jb2_some]
  cases hc : ixo x 6 with
  | none => rfl
  | some j =>
    obtain ⟨hj, rfl⟩ := (ixo_some (by decide)).mp hc
    have h6 := (hf j).1
    simp only [Option.map_some, jnl, jiv_n (a j hj).1.1, w_size (a j hj), jb2_some, Option.bind_some]
    by_cases hz : (ws j).1 = 0
    · rw [hz, if_pos (show nI 0 ≤ 0 by decide), if_pos rfl]; rfl
    · rw [if_neg (nI_nle (by omega) (by omega)), if_neg hz]; rfl
theorem x_world (h : Sh M) (a : XA ws M) (x n : Int32) : ∃ N, f_X11_world 1 x n M = some ((sp_world ws x n).1, N) ∧ XA (sp_world ws x n).2 N ∧ Ex CXA M N := by
  unfold f_X11_world sp_world
  rw [jiv_n (t1 h), x_placeOf h]
  simp only [jb2_some]
  cases hc : ixo x 6 with
  | none => exact ⟨M, rfl, a, Ex.rf⟩
  | some j =>
    obtain ⟨hj, rfl⟩ := (ixo_some (by decide)).mp hc
    simp only [Option.map_some, jnl]
    cases hn : ixo n 7 with
    | none =>
      rcases (ixo_none (by decide)).mp hn with q | q
      · rw [if_pos (Int32.lt_of_lt_of_le q (nI_pos' (by decide)))]; exact ⟨M, rfl, a, Ex.rf⟩
      · rw [if_neg (fun q2 => absurd (Int32.lt_of_le_of_lt q q2) (nI_nlt (by decide) (by decide))), if_neg (fun q2 => nI_ge (show 6 < 7 by decide) (by decide) (Int32.le_trans q q2))]; exact ⟨M, rfl, a, Ex.rf⟩
    | some k =>
      obtain ⟨hk, rfl⟩ := (ixo_some (by decide)).mp hn
      cases k with
      | zero => rw [if_pos (nI_lt (by decide) (by decide))]; exact ⟨M, rfl, a, Ex.rf⟩
      | succ k =>
        rw [if_neg (nI_nlt (by omega) (by omega)), if_pos (nI_le (by omega) (by decide)), jiv_n (iw h hj).1]
        obtain ⟨N, q1, q2, q3⟩ := w_makeBare (iw h hj) (show 1 ≤ k + 1 by omega) (show k + 1 ≤ 6 by omega)
        rw [q1]
        exact ⟨N, rfl, XA_set a hj q2 q3, q3.mono (cW_CXA hj)⟩
theorem x_mark (h : Sh M) (a : XA ws M) (hf : WF ws) (x t q v : Int32) : ∃ N, f_X11_mark 1 x t q v M = some ((sp_mark ws x t q v).1, N) ∧ XA (sp_mark ws x t q v).2 N ∧ Ex CXA M N := by
  unfold f_X11_mark sp_mark
  rw [jiv_n (t1 h), x_worldOf h a hf]
  simp only [jb2_some]
  cases hc : wok ws x with
  | none => exact ⟨M, rfl, a, Ex.rf⟩
  | some j =>
    obtain ⟨hj, rfl, h0⟩ := wok_some hc
    have h6 := (hf j).1
    simp only [Option.map_some, jnl, jiv_n (a j hj).1.1, w_has (a j hj) h6, jb2_some, bI_z]
    cases hi : ixo t (ws j).1 with
    | none => exact ⟨M, rfl, a, Ex.rf⟩
    | some i =>
      obtain ⟨hi2, rfl⟩ := (ixo_some (by omega)).mp hi
      simp only [Option.isSome_some, Bool.true_eq_false, if_false]
      have go : ∀ c, c < 2 → ∃ N, j_X11_mark_35 (nI i) (nI c) v (47 + 3 * j) M = some (bI (decide (sb ((ws j).2.1 i) c (decide (v ≠ 0)) ≠ (ws j).2.1 i)), N) ∧ XA (upw ws j ((ws j).1, up1 (ws j).2.1 i (sb ((ws j).2.1 i) c (decide (v ≠ 0))), (ws j).2.2)) N ∧ Ex CXA M N := by
        intro c hc2
        obtain ⟨N, q1, q2, q3⟩ := w_setMark (v := v) (a j hj) (hf j) hi2 hc2
        unfold j_X11_mark_35
        rw [jiv_n (a j hj).1.1, q1]
        simp only [jb2_some, bI_z]
        refine ⟨N, ?_, XA_set a hj q2 q3, q3.mono (cW_CXA hj)⟩
        cases decide (sb ((ws j).2.1 i) c (decide (v ≠ 0)) ≠ (ws j).2.1 i) <;> rfl
      cases hq : ixo q 2 with
      | none =>
        rw [if_neg (fun e => by rw [e] at hq; exact absurd hq (by decide)), if_neg (fun e => by rw [e] at hq; exact absurd hq (by decide))]
        exact ⟨M, rfl, a, Ex.rf⟩
      | some c =>
        obtain ⟨hc2, rfl⟩ := (ixo_some (by decide)).mp hq
        rcases (show c = 0 ∨ c = 1 by omega) with rfl | rfl
        · rw [if_pos (show nI 0 = 0 from rfl)]; exact go 0 (by decide)
        · rw [if_neg (show ¬ nI 1 = 0 by decide), if_pos rfl]; exact go 1 (by decide)
theorem x_tie (h : Sh M) (a : XA ws M) (hf : WF ws) (x s t v : Int32) : ∃ N, f_X11_tie 1 x s t v M = some ((sp_tie ws x s t v).1, N) ∧ XA (sp_tie ws x s t v).2 N ∧ Ex CXA M N := by
  unfold f_X11_tie sp_tie
  rw [jiv_n (t1 h), x_worldOf h a hf]
  simp only [jb2_some]
  cases hc : wok ws x with
  | none => exact ⟨M, rfl, a, Ex.rf⟩
  | some j =>
    obtain ⟨hj, rfl, h0⟩ := wok_some hc
    have h6 := (hf j).1
    simp only [Option.map_some, jnl, jiv_n (a j hj).1.1, w_has (a j hj) h6, jb2_some, bI_z]
    cases hi : ixo s (ws j).1 with
    | none => exact ⟨M, rfl, a, Ex.rf⟩
    | some i =>
      obtain ⟨hi2, rfl⟩ := (ixo_some (by omega)).mp hi
      simp only [Option.isSome_some, Bool.true_eq_false, if_false]
      cases hq : ixo t (ws j).1 with
      | none => exact ⟨M, rfl, a, Ex.rf⟩
      | some c =>
        obtain ⟨hc2, rfl⟩ := (ixo_some (by omega)).mp hq
        simp only [Option.isSome_some, Bool.true_eq_false, if_false]
        obtain ⟨N, q1, q2, q3⟩ := w_setTie (v := v) (a j hj) (hf j) hi2 hc2
        rw [q1]
        simp only [jb2_some, bI_z]
        refine ⟨N, ?_, XA_set a hj q2 q3, q3.mono (cW_CXA hj)⟩
        cases decide (sb ((ws j).2.2 i) c (decide (v ≠ 0)) ≠ (ws j).2.2 i) <;> rfl
theorem x_tied (h : Sh M) (a : XA ws M) (hf : WF ws) (x s t : Int32) : f_X11_tied 1 x s t M = some (sp_tied ws x s t, M) := by
  unfold f_X11_tied sp_tied
  rw [jiv_n (t1 h), x_worldOf h a hf]
  simp only [jb2_some]
  cases hc : wok ws x with
  | none => rfl
  | some j =>
    obtain ⟨hj, rfl, h0⟩ := wok_some hc
    have h6 := (hf j).1
    simp only [Option.map_some, jnl, jiv_n (a j hj).1.1, w_has (a j hj) h6, jb2_some, bI_z]
    cases hi : ixo s (ws j).1 with
    | none => rfl
    | some i =>
      obtain ⟨hi2, rfl⟩ := (ixo_some (by omega)).mp hi
      simp only [Option.isSome_some, Bool.true_eq_false, if_false]
      cases hq : ixo t (ws j).1 with
      | none => rfl
      | some c =>
        obtain ⟨hc2, rfl⟩ := (ixo_some (by omega)).mp hq
        simp only [Option.isSome_some, Bool.true_eq_false, if_false, w_isTied (a j hj) (hf j) (show i < 2 ^ 31 by omega) (show c < 2 ^ 31 by omega), jb2_some, bI_z]
        cases eb (ws j) i c <;> rfl
theorem x_turn (h : Sh M) (a : XA ws M) (hf : WF ws) (x s t y : Int32) : ∃ N, f_X11_turn 1 x s t y M = some ((sp_turn ws x s t y).1, N) ∧ XA (sp_turn ws x s t y).2 N ∧ Ex CXA M N := by
  unfold f_X11_turn sp_turn
  rw [jiv_n (t1 h), x_worldOf h a hf]
  simp only [jb2_some]
  rw [jiv_n (t1 h), x_placeOf h]
  simp only [jb2_some]
  cases hc : wok ws x with
  | none => exact ⟨M, rfl, a, Ex.rf⟩
  | some j =>
    obtain ⟨hj, rfl, h0⟩ := wok_some hc
    have h6 := (hf j).1
    simp only [Option.map_some, jnl, jiv_n (a j hj).1.1, w_has (a j hj) h6, jb2_some, bI_z]
    cases hi : ixo s (ws j).1 with
    | none => exact ⟨M, rfl, a, Ex.rf⟩
    | some i =>
      obtain ⟨hi2, rfl⟩ := (ixo_some (by omega)).mp hi
      simp only [Option.isSome_some, Bool.true_eq_false, if_false]
      cases hq : ixo t (ws j).1 with
      | none => exact ⟨M, rfl, a, Ex.rf⟩
      | some c =>
        obtain ⟨hc2, rfl⟩ := (ixo_some (by omega)).mp hq
        simp only [Option.isSome_some, Bool.true_eq_false, if_false]
        cases hy : ixo y 6 with
        | none => exact ⟨M, rfl, a, Ex.rf⟩
        | some z =>
          obtain ⟨hz, rfl⟩ := (ixo_some (by decide)).mp hy
          simp only [Option.map_some, jiv_n (iw h hz).1]
          have fin : ∀ N, Wat N (47 + 3 * z) (ws j) → Ex (cW (47 + 3 * z)) M N → ∃ N2, (jb2 (jiv 8 N (47 + 3 * z) (f_X9_exchange (47 + 3 * z) (nI i) (nI c) N)) fun _ M12 => rt (nI 1) M12) = some (nI 1, N2) ∧ XA (upw ws z (tw (ws j) i c)) N2 ∧ Ex CXA M N2 := by
            intro N w1 e1
            obtain ⟨N2, q1, q2, q3⟩ := w_exchange w1 (hf j) hi2 hc2
            rw [jiv_n w1.1.1, q1]
            exact ⟨N2, rfl, XA_set a hz q2 (e1.tr q3), (e1.tr q3).mono (cW_CXA hz)⟩
          by_cases hzj : z = j
          · subst hzj
            -- a world in its own place: what become does leaves it
            obtain ⟨N, q1, q2, q3⟩ := w_becomeS (a z hz)
            rw [q1]
            exact fin N q2 q3
          · obtain ⟨N, q1, q2, q3⟩ := w_become (a := 47 + 3 * z) (b := 47 + 3 * j) (by omega) (by omega) (iw h hz) (a j hj)
            rw [q1]
            exact fin N q2 q3
theorem x_join (h : Sh M) (a : XA ws M) (hf : WF ws) (x y z : Int32) : ∃ N, f_X11_join 1 x y z M = some ((sp_join ws x y z).1, N) ∧ XA (sp_join ws x y z).2 N ∧ Ex CXA M N := by
  unfold f_X11_join sp_join
  rw [jiv_n (t1 h), x_worldOf h a hf]
  simp only [jb2_some]
  rw [jiv_n (t1 h), x_worldOf h a hf]
  simp only [jb2_some]
  rw [jiv_n (t1 h), x_placeOf h]
  simp only [jb2_some]
  cases hc : wok ws x with
  | none => exact ⟨M, rfl, a, Ex.rf⟩
  | some j =>
    obtain ⟨hj, rfl, h0⟩ := wok_some hc
    have h6 := (hf j).1
    cases hk : wok ws y with
    | none => exact ⟨M, rfl, a, Ex.rf⟩
    | some k =>
      obtain ⟨hk2, rfl, h02⟩ := wok_some hk
      have h62 := (hf k).1
      cases hz : ixo z 6 with
      | none => exact ⟨M, rfl, a, Ex.rf⟩
      | some q =>
        obtain ⟨hq2, rfl⟩ := (ixo_some (by decide)).mp hz
        simp only [Option.map_some, jnl, jiv_n (a j hj).1.1, jiv_n (a k hk2).1.1, w_size (a j hj), w_size (a k hk2), jb2_some, nI_add]
        by_cases hs : (ws j).1 + (ws k).1 ≤ 6
        · rw [if_pos (nI_le hs (by decide)), if_pos hs, q1_1 h, Option.bind_some, jiv_n (t3 h)]
          obtain ⟨N1, p1, p2, p3⟩ := w_become (a := 3) (b := 47 + 3 * j) (by omega) (by omega) (iw3 h) (a j hj)
          rw [p1]
          simp only [jb2_some]
          have s1 := Sh_ex p3 h
          rw [q1_1 s1, Option.bind_some, jiv_n (t3 s1)]
          obtain ⟨N2, v1, v2, v3⟩ := w_append (a := 3) (b := 47 + 3 * k) p2 (hf j) (Wat_ex p3 (a k hk2) (by unfold cW; omega) (by unfold cW; omega) (by unfold cW; omega)) (hf k) hs (by omega)
          rw [v1]
          simp only [jb2_some]
          have e2 := p3.tr v3
          have s2 := Sh_ex e2 h
          rw [q1_1 s2, Option.bind_some, jiv_n (iw s2 hq2).1]
          obtain ⟨N3, u1, u2, u3⟩ := w_become (a := 47 + 3 * q) (b := 3) (by omega) (by omega) (iw s2 hq2) v2
          rw [u1]
          simp only [jb2_some]
          rw [jiv_n u2.1.1, w_size u2]
          refine ⟨N3, rfl, XA_set (XA_ex e2 a (fun c h1 h2 => by unfold cW; omega)) hq2 u2 u3, (e2.mono (fun c hc => ?_)).tr (u3.mono (cW_CXA hq2))⟩
          unfold cW at hc; unfold CXA; omega
        · rw [if_neg (nI_ge (by omega) (by omega)), if_neg hs]
          exact ⟨M, rfl, a, Ex.rf⟩
theorem x_about (h : Sh M) (a : XA ws M) (hf : WF ws) (x q : Int32) : f_X11_about 1 x q M = some (sp_about ws x q, M) := by
  unfold f_X11_about sp_about
  rw [jiv_n (t1 h), x_worldOf h a hf]
  simp only [jb2_some]
  cases hc : wok ws x with
  | none => rfl
  | some j =>
    obtain ⟨hj, rfl, h0⟩ := wok_some hc
    have h6 := (hf j).1
    simp only [Option.map_some, jnl, jiv_n (a j hj).1.1, w_size (a j hj), jb2_some]
    cases hq : ixo q 16 with
    | none =>
      rcases (ixo_none (by decide)).mp hq with q1 | q1
      · rw [if_neg (fun e => by rw [e] at q1; exact absurd q1 (by decide)), if_neg (fun e => by rw [e] at q1; exact absurd q1 (by decide)), if_neg (fun e => by rw [e] at q1; exact absurd q1 (by decide)), if_neg (fun e => by rw [e] at q1; exact absurd q1 (by decide)), if_pos (Int32.lt_of_lt_of_le q1 (nI_pos' (by decide)))]; rfl
      · have hnn : ¬ q < 0 := fun q2 => absurd (Int32.lt_of_le_of_lt q1 q2) (nI_pos (by decide))
        obtain ⟨k, hk, rfl⟩ := nI_of hnn
        have hk16 : 16 ≤ k := (nI_leI (by decide) hk).mp q1
        rw [if_neg (nI_ne0 (by omega) hk), if_neg (fun e => by have := (nI_eq hk (by decide)).mp e; omega), if_neg (fun e => by have := (nI_eq hk (by decide)).mp e; omega), if_neg (fun e => by have := (nI_eq hk (by decide)).mp e; omega), if_neg (nI_nlt (by omega) hk), pk_sub (by omega), w_hasN (a j hj) h6 (by omega)]
        simp only [jb2_some, bI_z, decide_eq_false_iff_not]
        rw [if_pos (by omega)]; rfl
    | some k =>
      obtain ⟨hk, rfl⟩ := (ixo_some (by decide)).mp hq
      by_cases k0 : k = 0
      · subst k0; rw [if_pos (show nI 0 = 0 from rfl)]; rfl
      · rw [if_neg (nI_ne0 (by omega) (by omega))]
        by_cases k1 : k = 1
        · subst k1
          rw [if_pos rfl]
          unfold j_X11_about_31
          rw [jiv_n (a j hj).1.1, pk_sub (show 1 ≤ 1 by decide), w_countMarked (a j hj) (hf j) (show 1 - 1 < 2 by decide)]; rfl
        · rw [if_neg (fun e => k1 ((nI_eq (by omega) (by decide)).mp e))]
          by_cases k2 : k = 2
          · subst k2
            rw [if_pos rfl]
            unfold j_X11_about_31
            rw [jiv_n (a j hj).1.1, pk_sub (show 1 ≤ 2 by decide), w_countMarked (a j hj) (hf j) (show 2 - 1 < 2 by decide)]; rfl
          · rw [if_neg (fun e => k2 ((nI_eq (by omega) (by decide)).mp e))]
            by_cases k3 : k = 3
            · subst k3
              rw [if_pos rfl, w_countTies (a j hj) (hf j)]; rfl
            · dsimp only
              rw [if_neg (fun e => k3 ((nI_eq (by omega) (by decide)).mp e)), if_neg k0, if_neg k1, if_neg k2, if_neg k3]
              by_cases k10 : k < 10
              · rw [if_pos (nI_lt k10 (by decide)), if_neg (by omega)]; rfl
              · rw [if_neg (nI_nlt (by omega) (by omega)), pk_sub (by omega), w_hasN (a j hj) h6 (by omega)]
                simp only [jb2_some, bI_z, decide_eq_false_iff_not]
                by_cases kn : k - 10 < (ws j).1
                · rw [if_neg (by omega), if_pos ⟨by omega, kn⟩, jiv_n (a j hj).1.1, w_marksOf (a j hj) (hf j) (by omega)]; rfl
                · rw [if_pos kn, if_neg (by omega)]; rfl
end X1
