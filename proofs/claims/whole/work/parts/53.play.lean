/-! game, rank, and THE PLAY, on both sides. -/
def sp_game (ws : Nat → Wd) (x y k : Int32) : Int32 := match wok ws x with
  | none => -1
  | some i => match wok ws y with
    | none => -1
    | some j => match ixo k 4 with
      | none => -2
      | some q => bI (kw (ws i) (ws j) q [])
def sp_rank (ws : Nat → Wd) (x y : Int32) : Int32 := match wok ws x with
  | none => -1
  | some i => match wok ws y with
    | none => -1
    | some j => oI (lrd (ws i) (ws j) [] 1 3) (-9)
/-- state, rounds left, rows, the side and the thing that were picked -/
abbrev Pl : Type := Nat × Nat × Rw × Nat × Nat
def PI (ws : Nat → Wd) (p : Pl) : Prop := p.1 ≤ 4 ∧ p.2.1 ≤ 3 ∧ (p.1 ≠ 0 → rv (ws 6) (ws 7) p.2.2.1 ∧ p.2.2.1.length + p.2.1 ≤ 3) ∧ ((p.1 = 1 ∨ p.1 = 2) → alk (ws 6) (ws 7) p.2.2.1 = true ∧ 1 ≤ p.2.1) ∧ (p.1 = 2 → p.2.2.2.1 < 2 ∧ p.2.2.2.2 < sz2 (ws 6) (ws 7) p.2.2.2.1)
def XB (ws : Nat → Wd) (p : Pl) (M : jM) : Prop := rI M 17 1 = nI p.1 ∧ rI M 17 2 = nI p.2.1 ∧ (p.1 ≠ 0 → MS M 18 (ws 6) (ws 7) ∧ MR M 18 p.2.2.1) ∧ (p.1 = 2 → rI M 17 3 = nI p.2.2.2.1 ∧ rI M 17 4 = nI p.2.2.2.2)
def MB (p : Pl) (M : jM) : Prop := rI M 65 10 = nI p.1 ∧ rI M 65 11 = nI p.2.1 ∧ (p.1 ≠ 0 → rI M 65 12 = nI p.2.2.1.length ∧ ∀ k, k < p.2.2.1.length → rI M 73 k = nI (ro p.2.2.1 k).1 ∧ rI M 74 k = nI (ro p.2.2.1 k).2) ∧ (p.1 = 2 → rI M 65 15 = nI p.2.2.2.1 ∧ rI M 65 16 = nI p.2.2.2.2)
def CB (c : Nat) : Prop := 17 ≤ c ∧ c ≤ 28
def PB (c k : Nat) : Prop := c = 73 ∨ c = 74 ∨ (c = 65 ∧ ((10 ≤ k ∧ k ≤ 12) ∨ k = 15 ∨ k = 16 ∨ k = 5 ∨ k = 6 ∨ k = 7)) ∨ c = 71 ∨ c = 72 ∨ (66 ≤ c ∧ c ≤ 70)
def sp_play (ws : Nat → Wd) (p : Pl) (x y k : Int32) : Int32 × (Nat → Wd) × Pl := match wok ws x with
  | none => (-1, ws, p)
  | some i => match wok ws y with
    | none => (-1, ws, p)
    | some j => match ixo k 4 with
      | none => (-2, ws, p)
      | some q => (nI 1, upw (upw ws 6 (ws i)) 7 (ws j), (if q = 0 then 3 else 1, q, [], 0, 0))
def sp_pick (ws : Nat → Wd) (p : Pl) (x t : Int32) : Int32 × Pl := if p.1 = 1 then (match ixo x 2 with
  | none => (-2, p)
  | some s => match ixo t (sz2 (ws 6) (ws 7) s) with
    | none => (-2, p)
    | some q => (nI 1, (2, p.2.1, p.2.2.1, s, q))) else (-3, p)
def sp_answer (ws : Nat → Wd) (p : Pl) (t : Int32) : Int32 × Pl := if p.1 = 2 then (match ixo t (sz2 (ws 6) (ws 7) (1 - p.2.2.2.1)) with
  | none => (-2, p)
  | some q => (nI 1, (if alk (ws 6) (ws 7) (pr2 p.2.2.2.1 p.2.2.2.2 q :: p.2.2.1) = true then (if p.2.1 - 1 = 0 then 3 else 1) else 4, p.2.1 - 1, pr2 p.2.2.2.1 p.2.2.2.2 q :: p.2.2.1, 0, 0))) else (-3, p)
def sp_best (ws : Nat → Wd) (p : Pl) : Int32 := if p.1 = 1 then oI (fpk (ws 6) (ws 7) p.2.2.1 0 (p.2.1 - 1)) (-9) else if p.1 = 2 then oI (lrep (ws 6) (ws 7) p.2.2.1 p.2.2.2.1 p.2.2.2.2 (p.2.1 - 1)) (-9) else -3
def sp_left (p : Pl) : Int32 := if p.1 = 0 then -3 else nI p.2.1
theorem XB_ex {C : Nat → Prop} {ws : Nat → Wd} {p : Pl} {M N : jM} (h : Ex C M N) (k : XB ws p M) (hc : ∀ c, CB c → ¬ C c) : XB ws p N := by
  obtain ⟨k1, k2, k3, k4⟩ := k
  have hcb : ∀ c, 17 ≤ c → c ≤ 28 → ¬ C c := fun c h1 h2 => hc c ⟨h1, h2⟩
  refine ⟨by rw [ex_rI h (hcb _ (by omega) (by omega))]; exact k1, by rw [ex_rI h (hcb _ (by omega) (by omega))]; exact k2, fun q => ?_, fun q => ?_⟩
  · exact ⟨MS_ex h (k3 q).1 (fun c h1 h2 => hcb c (by omega) (by omega)), MR_ex h (k3 q).2 (hcb _ (by omega) (by omega)) (hcb _ (by omega) (by omega))⟩
  · rw [ex_rI h (hcb _ (by omega) (by omega)), ex_rI h (hcb _ (by omega) (by omega))]; exact k4 q
theorem MB_ey {P : Nat → Nat → Prop} {p : Pl} {M N : jM} (h : Ey P M N) (k : MB p M) (hc : ∀ c i, (c = 73 ∨ c = 74 ∨ (c = 65 ∧ ((10 ≤ i ∧ i ≤ 12) ∨ i = 15 ∨ i = 16))) → ¬ P c i) : MB p N := by
  obtain ⟨k1, k2, k3, k4⟩ := k
  refine ⟨by rw [ey_rI h (hc _ _ (by omega))]; exact k1, by rw [ey_rI h (hc _ _ (by omega))]; exact k2, fun q => ⟨by rw [ey_rI h (hc _ _ (by omega))]; exact (k3 q).1, fun i hi => ?_⟩, fun q => ?_⟩
  · rw [ey_rI h (hc _ _ (by omega)), ey_rI h (hc _ _ (by omega))]; exact (k3 q).2 i hi
  · rw [ey_rI h (hc _ _ (by omega)), ey_rI h (hc _ _ (by omega))]; exact k4 q
theorem PI_ws {ws ws' : Nat → Wd} {p : Pl} (h : PI ws p) (h6 : ws' 6 = ws 6) (h7 : ws' 7 = ws 7) : PI ws' p := by unfold PI; rw [h6, h7]; exact h
theorem XB_ws {ws ws' : Nat → Wd} {p : Pl} {M : jM} (h : XB ws p M) (h6 : ws' 6 = ws 6) (h7 : ws' 7 = ws 7) : XB ws' p M := by unfold XB; rw [h6, h7]; exact h
theorem rv_nil {u v : Wd} : rv u v [] := fun q hq => by cases hq
section P1
variable {M : jM} {ws : Nat → Wd} {p : Pl}
theorem x_game (h : Sh M) (a : XA ws M) (hf : WF ws) (x y k : Int32) : ∃ N, f_X11_game 1 x y k M = some (sp_game ws x y k, N) ∧ Ex (cM 6) M N := by
  unfold f_X11_game sp_game
  rw [jiv_n (t1 h), x_worldOf h a hf]
  simp only [jb2_some]
  rw [jiv_n (t1 h), x_worldOf h a hf]
  simp only [jb2_some]
  cases hc : wok ws x with
  | none => exact ⟨M, rfl, Ex.rf⟩
  | some i =>
    obtain ⟨hi, rfl, h0⟩ := wok_some hc
    cases hd : wok ws y with
    | none => exact ⟨M, rfl, Ex.rf⟩
    | some j =>
      obtain ⟨hj, rfl, h02⟩ := wok_some hd
      simp only [Option.map_some, jnl]
      cases hk : ixo k 4 with
      | none =>
        by_cases hk0 : k < 0
        · rw [if_pos hk0]; exact ⟨M, rfl, Ex.rf⟩
        · have := ((ixo_none (by decide)).mp hk).resolve_left hk0
          rw [if_neg hk0, if_neg (fun q => nI_ge (show 3 < 4 by decide) (by decide) (Int32.le_trans this q))]; exact ⟨M, rfl, Ex.rf⟩
      | some q =>
        obtain ⟨hq, rfl⟩ := (ixo_some (by decide)).mp hk
        rw [if_neg (nI_pos (by omega)), if_pos (nI_le (by omega) (by decide)), q1_2 h, Option.bind_some, jiv_n (t6 h)]
        obtain ⟨N, p1, p2, p3, p4⟩ := x_mbegin (a := 6) (b := 47 + 3 * i) (c := 47 + 3 * j) (hf i) (hf j) (isM6 h) (a i hi) (a j hj) (by omega) (by omega)
        rw [p1, jb2_some, q1_2 (Sh_ex p4 h), Option.bind_some, jiv_n (t6 (Sh_ex p4 h))]
        obtain ⟨N2, s1, s2⟩ := x_keeperWins (a := 6) (hf i) (hf j) jR0 q (by have := jR0_eq; omega) [] N (by simp; omega) rfl rv_nil p2 p3
        rw [s1, jb2_some]
        refine ⟨N2, ?_, p4.tr (s2.2.2.1.mono (fun c hc => by unfold cK at hc; unfold cM; omega))⟩
        dsimp only
        cases kw (ws i) (ws j) q [] <;> rfl
theorem x_rank (h : Sh M) (a : XA ws M) (hf : WF ws) (x y : Int32) : ∃ N, f_X11_rank 1 x y M = some (sp_rank ws x y, N) ∧ Ex (cM 6) M N := by
  unfold f_X11_rank sp_rank
  rw [jiv_n (t1 h), x_worldOf h a hf]
  simp only [jb2_some]
  rw [jiv_n (t1 h), x_worldOf h a hf]
  simp only [jb2_some]
  cases hc : wok ws x with
  | none => exact ⟨M, rfl, Ex.rf⟩
  | some i =>
    obtain ⟨hi, rfl, h0⟩ := wok_some hc
    cases hd : wok ws y with
    | none => exact ⟨M, rfl, Ex.rf⟩
    | some j =>
      obtain ⟨hj, rfl, h02⟩ := wok_some hd
      simp only [Option.map_some, jnl]
      rw [q1_2 h, Option.bind_some, jiv_n (t6 h)]
      obtain ⟨N, p1, p2, p3, p4⟩ := x_mbegin (a := 6) (b := 47 + 3 * i) (c := 47 + 3 * j) (hf i) (hf j) (isM6 h) (a i hi) (a j hj) (by omega) (by omega)
      rw [p1, jb2_some, q1_2 (Sh_ex p4 h), Option.bind_some, jiv_n (t6 (Sh_ex p4 h))]
      obtain ⟨N2, s1, s2⟩ := x_lrd (a := 6) (hf i) (hf j) rfl rv_nil p2 p3
      rw [s1, jb2_some]
      exact ⟨N2, rfl, p4.tr (s2.2.2.1.mono (fun c hc => by unfold cK at hc; unfold cM; omega))⟩
theorem m_game (h : Sh M) (a : MA ws M) (hf : WF ws) (x y k : Int32) : ∃ N, f_X12_game 65 x y k M = some (sp_game ws x y k, N) ∧ Ey PG M N := by
  unfold f_X12_game sp_game
  rw [jiv_n (t65 h), m_noWorld h a hf, jb2_some]
  cases hc : wok ws x with
  | none => exact ⟨M, rfl, Ey.rf⟩
  | some i =>
    obtain ⟨hi, rfl, h0⟩ := wok_some hc
    simp only [Option.isNone_some, bI_z, if_true]
    rw [jiv_n (t65 h), m_noWorld h a hf, jb2_some]
    cases hd : wok ws y with
    | none => exact ⟨M, rfl, Ey.rf⟩
    | some j =>
      obtain ⟨hj, rfl, h02⟩ := wok_some hd
      simp only [Option.isNone_some, bI_z, if_true]
      rw [show nI 3 = nI (4 - 1) from rfl, m_in0 (by decide) (by decide), jb2_some]
      cases hk : ixo k 4 with
      | none => exact ⟨M, rfl, Ey.rf⟩
      | some q =>
        obtain ⟨hq, rfl⟩ := (ixo_some (by decide)).mp hk
        rw [if_neg (show ¬ bI (some q).isSome = 0 by show ¬ bI true = 0; decide), jiv_n (t65 h)]
        obtain ⟨N, p1, p2, p3⟩ := n_begin (w1 := i) (w2 := j) h a
        rw [p1, jb2_some, jiv_n (t65 p2.1)]
        obtain ⟨N2, s1, s2, s3⟩ := n_keeps hf (show i < 8 by omega) (show j < 8 by omega) rv_nil (show q + ([] : Rw).length ≤ 5 by simp; omega) (by omega) p2
        rw [s1, jb2_some]
        refine ⟨N2, ?_, p3.tr s3⟩
        dsimp only
        cases kw (ws i) (ws j) q [] <;> rfl
theorem m_rank (h : Sh M) (a : MA ws M) (hf : WF ws) (x y : Int32) : ∃ N, f_X12_rank 65 x y M = some (sp_rank ws x y, N) ∧ Ey PG M N := by
  unfold f_X12_rank sp_rank
  rw [jiv_n (t65 h), m_noWorld h a hf, jb2_some]
  cases hc : wok ws x with
  | none => exact ⟨M, rfl, Ey.rf⟩
  | some i =>
    obtain ⟨hi, rfl, h0⟩ := wok_some hc
    simp only [Option.isNone_some, bI_z, if_true]
    rw [jiv_n (t65 h), m_noWorld h a hf, jb2_some]
    cases hd : wok ws y with
    | none => exact ⟨M, rfl, Ey.rf⟩
    | some j =>
      obtain ⟨hj, rfl, h02⟩ := wok_some hd
      simp only [Option.isNone_some, bI_z, if_true]
      rw [jiv_n (t65 h)]
      obtain ⟨N, p1, p2, p3⟩ := n_begin (w1 := i) (w2 := j) h a
      rw [p1, jb2_some, jiv_n (t65 p2.1)]
      obtain ⟨N2, s1, s2, s3⟩ := n_least hf (show i < 8 by omega) (show j < 8 by omega) rv_nil (show 3 + ([] : Rw).length ≤ 5 by simp) (by decide) p2
      rw [s1, jb2_some, lrd_0 rfl]
      refine ⟨N2, ?_, p3.tr s3⟩
      cases hl : lrd (ws i) (ws j) [] 1 3 with
      | none => rw [if_neg (show ¬ (0 : Int32) ≤ oI none (-1) by decide)]; rfl
      | some k =>
        have := (ff_some hl).2.1
        rw [if_pos (show (0 : Int32) ≤ oI (some k) (-1) from (n9 k (by omega)).2.2)]; rfl
theorem x_play (h : Sh M) (a : XA ws M) (hf : WF ws) (b : XB ws p M) (x y k : Int32) : ∃ N, f_X11_play 1 x y k M = some ((sp_play ws p x y k).1, N) ∧ XB (sp_play ws p x y k).2.1 (sp_play ws p x y k).2.2 N ∧ Ex CB M N := by
  unfold f_X11_play sp_play
  rw [jiv_n (t1 h), x_worldOf h a hf]
  simp only [jb2_some]
  rw [jiv_n (t1 h), x_worldOf h a hf]
  simp only [jb2_some]
  cases hc : wok ws x with
  | none => exact ⟨M, rfl, b, Ex.rf⟩
  | some i =>
    obtain ⟨hi, rfl, h0⟩ := wok_some hc
    cases hd : wok ws y with
    | none => exact ⟨M, rfl, b, Ex.rf⟩
    | some j =>
      obtain ⟨hj, rfl, h02⟩ := wok_some hd
      simp only [Option.map_some, jnl]
      cases hk : ixo k 4 with
      | none =>
        by_cases hk0 : k < 0
        · rw [if_pos hk0]; exact ⟨M, rfl, b, Ex.rf⟩
        · have := ((ixo_none (by decide)).mp hk).resolve_left hk0
          rw [if_neg hk0, if_neg (fun q => nI_ge (show 3 < 4 by decide) (by decide) (Int32.le_trans this q))]; exact ⟨M, rfl, b, Ex.rf⟩
      | some q =>
        obtain ⟨hq, rfl⟩ := (ixo_some (by decide)).mp hk
        rw [if_neg (nI_pos (by omega)), if_pos (nI_le (by omega) (by decide)), q1_3 h, Option.bind_some, jiv_n (t17 h)]
        unfold f_X6_begin j_X6_begin_24
        rw [q17_0 h, Option.bind_some, jiv_n (t18 h)]
        obtain ⟨N, p1, p2, p3, p4⟩ := x_mbegin (a := 18) (b := 47 + 3 * i) (c := 47 + 3 * j) (hf i) (hf j) (isM18 h) (a i hi) (a j hj) (by omega) (by omega)
        rw [p1, jb2_some, pI_n (t17 (Sh_ex p4 h)), Option.bind_some]
        have e2 : Ex CB M (wI N 17 2 (nI q)) := ex_wI (p4.mono (fun c hc => by unfold cM at hc; unfold CB; omega)) (by unfold CB; omega)
        have fin : ∀ st : Nat, ∃ N2, (jb2 ((pI 5 (wI N 17 2 (nI q)) 17 1 (nI st)).bind fun M1 => rt () M1) fun _ M8 => rt (nI 1) M8) = some (nI 1, N2) ∧ XB (upw (upw ws 6 (ws i)) 7 (ws j)) (st, q, [], 0, 0) N2 ∧ Ex CB M N2 ∨ st = 2 := by
          intro st
          by_cases hst : st = 2
          · exact ⟨M, Or.inr hst⟩
          refine ⟨wI (wI N 17 2 (nI q)) 17 1 (nI st), Or.inl ⟨?_, ⟨?_, ?_, fun _ => ?_, fun hh => absurd hh hst⟩, ex_wI e2 (by unfold CB; omega)⟩⟩
          · rw [pI_n (t17 (Sh_ex e2 h))]; rfl
          · rw [rI_wI]; simp
          · rw [rI_wI, rI_wI]; simp
          · have e3 : Ex (fun c => c = 17) N (wI (wI N 17 2 (nI q)) 17 1 (nI st)) := ex_wI (ex_wI Ex.rf rfl) rfl
            exact ⟨MS_ex e3 p2 (fun c h1 h2 => by omega), MR_ex e3 p3 (by omega) (by omega)⟩
        by_cases hq0 : q = 0
        · subst hq0
          rw [if_pos (show nI 0 = 0 from rfl)]
          obtain ⟨N2, s⟩ := fin 3
          exact ⟨N2, s.resolve_right (by decide)⟩
        · rw [if_neg (nI_ne0 (by omega) (by omega))]
          obtain ⟨N2, s⟩ := fin 1
          have s := s.resolve_right (by decide)
          dsimp only
          rw [if_neg hq0]
          exact ⟨N2, s⟩
theorem sp_play_pi (hp : PI ws p) (x y k : Int32) : PI (sp_play ws p x y k).2.1 (sp_play ws p x y k).2.2 := by
  unfold sp_play
  split
  · exact hp
  · split
    · exact hp
    · split
      · exact hp
      · rename_i q hq
        obtain ⟨hq, -⟩ := (ixo_some (by decide)).mp hq
        refine ⟨?_, by show q ≤ 3; omega, fun _ => ⟨rv_nil, by show 0 + q ≤ 3; omega⟩, fun hh => ⟨rfl, ?_⟩, fun hh => ?_⟩
        · show (if q = 0 then 3 else 1) ≤ 4; split <;> omega
        · show 1 ≤ q
          have hh : (if q = 0 then 3 else 1) = 1 ∨ (if q = 0 then 3 else 1) = 2 := hh
          split at hh <;> omega
        · have hh : (if q = 0 then 3 else 1) = 2 := hh
          split at hh <;> omega
theorem sp_play_wf (hf : WF ws) (x y k : Int32) : WF (sp_play ws p x y k).2.1 := by
  unfold sp_play
  split
  · exact hf
  · split
    · exact hf
    · split
      · exact hf
      · exact WF_up (WF_up hf (hf _)) (hf _)
theorem x_pick (h : Sh M) (hf : WF ws) (hp : PI ws p) (b : XB ws p M) (x t : Int32) : ∃ N, f_X11_pick 1 x t M = some ((sp_pick ws p x t).1, N) ∧ XB ws (sp_pick ws p x t).2 N ∧ Ex CB M N := by
  unfold f_X11_pick sp_pick f_X6_seekerPicks
  rw [q1_3 h, Option.bind_some, jiv_n (t17 h), gI_n (t17 h), Option.bind_some, b.1]
  have h4 := hp.1
  by_cases h1 : p.1 = 1
  · rw [if_pos (by rw [h1]), if_pos h1]
    obtain ⟨ms, mr⟩ := b.2.2.1 (by omega)
    have h6 := (hf 6).1
    have h7 := (hf 7).1
    have go : ∀ s, s < 2 → ∃ N, (jb2 (j_X6_seekerPicks_20 17 (nI s) t M) fun x3 M2 => rt x3 M2) = some ((match ixo t (sz2 (ws 6) (ws 7) s) with | none => ((-2 : Int32), p) | some q => (nI 1, (2, p.2.1, p.2.2.1, s, q))).1, N) ∧ XB ws (match ixo t (sz2 (ws 6) (ws 7) s) with | none => ((-2 : Int32), p) | some q => (nI 1, (2, p.2.1, p.2.2.1, s, q))).2 N ∧ Ex CB M N := by
      intro s hs
      have hz : sz2 (ws 6) (ws 7) s ≤ 6 := by unfold sz2; split <;> omega
      unfold j_X6_seekerPicks_20
      obtain ⟨w1, w2⟩ := x_worldOn ms hs
      have hsz : (if s = 0 then ws 6 else ws 7).1 = sz2 (ws 6) (ws 7) s := by unfold sz2; split <;> rfl
      rw [q17_0 h, Option.bind_some, jiv_n (t18 h), w1, jb2_some, jiv_n w2.1.1, w_has w2 (by rw [hsz]; exact hz), jb2_some, hsz]
      cases ht : ixo t (sz2 (ws 6) (ws 7) s) with
      | none => exact ⟨M, rfl, b, Ex.rf⟩
      | some q =>
        obtain ⟨hq, rfl⟩ := (ixo_some (by omega)).mp ht
        have e1 : Ex (fun c => c = 17) M (wI M 17 3 (nI s)) := ex_wI Ex.rf rfl
        have e2 := ex_wI (a := 17) (k := 4) (v := nI q) e1 rfl
        have e3 := ex_wI (a := 17) (k := 1) (v := nI 2) e2 rfl
        rw [if_neg (show ¬ bI (some q).isSome = 0 by show ¬ bI true = 0; decide), pI_n (t17 h), Option.bind_some, pI_n (t17 (Sh_ex e1 h)), Option.bind_some, pI_n (t17 (Sh_ex e2 h)), Option.bind_some]
        refine ⟨_, rfl, ⟨by rw [rI_wI]; simp, ?_, fun _ => ⟨MS_ex e3 ms (fun c h1 h2 => by omega), MR_ex e3 mr (by omega) (by omega)⟩, fun _ => ⟨?_, ?_⟩⟩, e3.mono (fun c hc => by unfold CB; omega)⟩
        · simp only [rI_wI]; rw [if_neg (by omega), if_neg (by omega), if_neg (by omega)]; exact b.2.1
        · simp [rI_wI]
        · simp [rI_wI]
    cases hx : ixo x 2 with
    | none =>
      rw [if_neg (fun e => by rw [e] at hx; exact absurd hx (by decide)), if_neg (fun e => by rw [e] at hx; exact absurd hx (by decide))]
      exact ⟨M, rfl, b, Ex.rf⟩
    | some s =>
      obtain ⟨hs, rfl⟩ := (ixo_some (by decide)).mp hx
      rcases (show s = 0 ∨ s = 1 by omega) with rfl | rfl
      · rw [if_pos (show nI 0 = 0 from rfl)]; exact go 0 (by decide)
      · rw [if_neg (show ¬ nI 1 = 0 by decide), if_pos rfl]; exact go 1 (by decide)
  · rw [if_neg (fun e => h1 ((nI_eq (by omega) (by decide)).mp e)), if_neg h1]
    exact ⟨M, rfl, b, Ex.rf⟩
theorem x_answer (h : Sh M) (hf : WF ws) (hp : PI ws p) (b : XB ws p M) (t : Int32) : ∃ N, f_X11_answer 1 t M = some ((sp_answer ws p t).1, N) ∧ XB ws (sp_answer ws p t).2 N ∧ Ex CB M N := by
  unfold f_X11_answer sp_answer f_X6_keeperAnswers
  rw [q1_3 h, Option.bind_some, jiv_n (t17 h), gI_n (t17 h), Option.bind_some, b.1]
  have h4 := hp.1
  by_cases h2 : p.1 = 2
  · rw [if_pos (by rw [h2]), if_pos h2]
    obtain ⟨ms, mr⟩ := b.2.2.1 (by omega)
    obtain ⟨f3, f4⟩ := b.2.2.2 h2
    obtain ⟨hs, hth⟩ := hp.2.2.2.2 h2
    obtain ⟨hal, h1⟩ := hp.2.2.2.1 (Or.inr h2)
    obtain ⟨hr, hlen⟩ := hp.2.2.1 (by omega)
    have h6 := (hf 6).1
    have h7 := (hf 7).1
    have hz : sz2 (ws 6) (ws 7) (1 - p.2.2.2.1) ≤ 6 := by unfold sz2; split <;> omega
    obtain ⟨w1, w2⟩ := x_worldOn ms (show 1 - p.2.2.2.1 < 2 by omega)
    have hsz : (if 1 - p.2.2.2.1 = 0 then ws 6 else ws 7).1 = sz2 (ws 6) (ws 7) (1 - p.2.2.2.1) := by unfold sz2; split <;> rfl
    rw [q17_0 h, Option.bind_some, gI_n (t17 h), Option.bind_some, f3, pk_sub (by omega), jiv_n (t18 h), w1, jb2_some, jiv_n w2.1.1, w_has w2 (by rw [hsz]; exact hz), jb2_some, hsz]
    cases ht : ixo t (sz2 (ws 6) (ws 7) (1 - p.2.2.2.1)) with
    | none => exact ⟨M, rfl, b, Ex.rf⟩
    | some q =>
      obtain ⟨hq, rfl⟩ := (ixo_some (by omega)).mp ht
      have hok := pr2_ok hs hth hq
      rw [if_neg (show ¬ bI (some q).isSome = 0 by show ¬ bI true = 0; decide), q17_0 h, Option.bind_some, gI_n (t17 h), Option.bind_some, f3, gI_n (t17 h), Option.bind_some, f4, jiv_n (t18 h), x_staysAlike ms mr (hf 6) (hf 7) hr hs hok.1 hok.2, jb2_some, q17_0 h, Option.bind_some, gI_n (t17 h), Option.bind_some, f3, gI_n (t17 h), Option.bind_some, f4, jiv_n (t18 h)]
      obtain ⟨N, s1, s2, s3, s4⟩ := x_lengthen (t := p.2.2.2.2) (s := q) ms mr hs (show p.2.2.1.length < 3 by omega)
      have hN := Sh_ex s4 h
      have f2 : rI N 17 2 = nI p.2.1 := by rw [ex_rI s4 (by omega)]; exact b.2.1
      rw [s1, jb2_some, gI_n (t17 hN), Option.bind_some, f2, pk_sub (by omega), pI_n (t17 hN), Option.bind_some]
      have e2 : Ex (fun c => c = 17) N (wI N 17 2 (nI (p.2.1 - 1))) := ex_wI Ex.rf rfl
      have h2' := Sh_ex e2 hN
      have fin : ∀ st : Nat, ∃ N2, (jb2 ((pI 5 (wI N 17 2 (nI (p.2.1 - 1))) 17 1 (nI st)).bind fun M20 => rt (nI 1) M20) fun x3 M2 => rt x3 M2) = some (nI 1, N2) ∧ (st ≠ 2 → XB ws (st, p.2.1 - 1, pr2 p.2.2.2.1 p.2.2.2.2 q :: p.2.2.1, 0, 0) N2) ∧ Ex CB M N2 := by
        intro st
        have e3 := ex_wI (a := 17) (k := 1) (v := nI st) e2 rfl
        refine ⟨wI (wI N 17 2 (nI (p.2.1 - 1))) 17 1 (nI st), by rw [pI_n (t17 h2')]; rfl, fun hst => ⟨by rw [rI_wI]; simp, by rw [rI_wI, rI_wI]; simp, fun _ => ⟨MS_ex e3 s2 (fun c h1 h2 => by omega), MR_ex e3 s3 (by omega) (by omega)⟩, fun hh => absurd hh hst⟩, (s4.mono (fun c hc => by unfold CB; omega)).tr (e3.mono (fun c hc => by unfold CB; omega))⟩
      have hal2 : alk (ws 6) (ws 7) (pr2 p.2.2.2.1 p.2.2.2.2 q :: p.2.2.1) = pla (ws 6) (ws 7) p.2.2.1 (pr2 p.2.2.2.1 p.2.2.2.2 q) := by unfold alk; rw [hal, Bool.true_and]
      dsimp only
      rw [hal2]
      cases hpl : pla (ws 6) (ws 7) p.2.2.1 (pr2 p.2.2.2.1 p.2.2.2.2 q) with
      | false =>
        rw [if_pos (show bI false = 0 from rfl), if_neg (by decide)]
        obtain ⟨N2, v1, v2, v3⟩ := fin 4
        exact ⟨N2, v1, v2 (by decide), v3⟩
      | true =>
        rw [if_neg (show ¬ bI true = 0 by decide), if_pos rfl, gI_n (t17 h2'), Option.bind_some, rI_wI]
        simp only [and_self, if_true]
        unfold j_X6_keeperAnswers_103
        by_cases hr0 : p.2.1 - 1 = 0
        · rw [if_pos (by rw [hr0]; rfl), if_pos hr0]
          obtain ⟨N2, v1, v2, v3⟩ := fin 3
          exact ⟨N2, v1, v2 (by decide), v3⟩
        · rw [if_neg (nI_ne0 (by omega) (by omega)), if_neg hr0]
          obtain ⟨N2, v1, v2, v3⟩ := fin 1
          exact ⟨N2, v1, v2 (by decide), v3⟩
  · rw [if_neg (fun e => h2 ((nI_eq (by omega) (by decide)).mp e)), if_neg h2]
    exact ⟨M, rfl, b, Ex.rf⟩
theorem x_best (h : Sh M) (hf : WF ws) (hp : PI ws p) (b : XB ws p M) : ∃ N, f_X11_best 1 M = some (sp_best ws p, N) ∧ XB ws p N ∧ Ex CB M N := by
  unfold f_X11_best sp_best f_X6_bestMove
  rw [q1_3 h, Option.bind_some, jiv_n (t17 h), gI_n (t17 h), Option.bind_some, b.1]
  have h4 := hp.1
  have fin : ∀ N, KL M N 18 (ws 6) (ws 7) p.2.2.1 (12 * p.2.2.1.length) → p.1 ≠ 0 → XB ws p N ∧ Ex CB M N := by
    intro N hN h0
    refine ⟨⟨by rw [ex_rI hN.2.2.1 (by unfold cK; omega)]; exact b.1, by rw [ex_rI hN.2.2.1 (by unfold cK; omega)]; exact b.2.1, fun _ => ⟨hN.1, hN.2.1⟩, fun q => ?_⟩, hN.2.2.1.mono (fun c hc => by unfold cK at hc; unfold CB; omega)⟩
    rw [ex_rI hN.2.2.1 (by unfold cK; omega), ex_rI hN.2.2.1 (by unfold cK; omega)]; exact b.2.2.2 q
  by_cases h1 : p.1 = 1
  · obtain ⟨ms, mr⟩ := b.2.2.1 (by omega)
    obtain ⟨hal, hr1⟩ := hp.2.2.2.1 (Or.inl h1)
    obtain ⟨hr, hlen⟩ := hp.2.2.1 (by omega)
    rw [if_pos (by rw [h1]), if_pos h1, q17_0 h, Option.bind_some, gI_n (t17 h), Option.bind_some, b.2.1, jiv_n (t18 h)]
    obtain ⟨N, s1, s2⟩ := x_fpk (a := 18) (front := 0) (k := p.2.1 - 1) (hf 6) (hf 7) hal hr (by decide) (by omega) ms mr
    rw [show p.2.1 - 1 + 1 = p.2.1 by omega] at s1
    rw [s1, jb2_some]
    exact ⟨N, rfl, fin N s2 (by omega)⟩
  · rw [if_neg (fun e => h1 ((nI_eq (by omega) (by decide)).mp e)), if_neg h1, Option.bind_some]
    by_cases h2 : p.1 = 2
    · obtain ⟨ms, mr⟩ := b.2.2.1 (by omega)
      obtain ⟨f3, f4⟩ := b.2.2.2 h2
      obtain ⟨hs, hth⟩ := hp.2.2.2.2 h2
      obtain ⟨hal, hr1⟩ := hp.2.2.2.1 (Or.inr h2)
      obtain ⟨hr, hlen⟩ := hp.2.2.1 (by omega)
      rw [if_pos (by rw [h2]), if_pos h2, q17_0 h, Option.bind_some, gI_n (t17 h), Option.bind_some, f3, gI_n (t17 h), Option.bind_some, f4, gI_n (t17 h), Option.bind_some, b.2.1, jiv_n (t18 h)]
      obtain ⟨N, s1, s2⟩ := x_lrep (a := 18) (k := p.2.1 - 1) (hf 6) (hf 7) hal hr hs hth (by omega) ms mr
      rw [show p.2.1 - 1 + 1 = p.2.1 by omega] at s1
      rw [s1, jb2_some]
      exact ⟨N, rfl, fin N s2 (by omega)⟩
    · rw [if_neg (fun e => h2 ((nI_eq (by omega) (by decide)).mp e)), if_neg h2]
      exact ⟨M, rfl, b, Ex.rf⟩
theorem x_state (h : Sh M) (b : XB ws p M) : f_X11_state 1 M = some (nI p.1, M) := by
  unfold f_X11_state f_X6_stage
  rw [q1_3 h, Option.bind_some, jiv_n (t17 h), gI_n (t17 h), Option.bind_some, b.1]; rfl
theorem x_left (h : Sh M) (hp : PI ws p) (b : XB ws p M) : f_X11_left 1 M = some (sp_left p, M) := by
  have h4 := hp.1
  unfold f_X11_left f_X6_stage f_X6_roundsLeft sp_left
  rw [q1_3 h, Option.bind_some, jiv_n (t17 h), gI_n (t17 h), Option.bind_some, b.1]
  show (if nI p.1 = 0 then _ else _) = _
  by_cases h0 : p.1 = 0
  · rw [if_pos (by rw [h0]; rfl), if_pos h0]; rfl
  · rw [if_neg (nI_ne0 (by omega) (by omega)), if_neg h0, q1_3 h, Option.bind_some, jiv_n (t17 h), gI_n (t17 h), Option.bind_some, b.2.1]; rfl
end P1
