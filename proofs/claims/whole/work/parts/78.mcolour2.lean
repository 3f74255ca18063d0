/-! COLOURS: the reference's call colour, its loop. -/
theorem pZ_b {M : jM} {a ci k : Nat} {p : Bool} (ht : tg M a = (ci, 0)) : pZ ci M a k (bI p) = some (wI M a k (bI p)) := by
  unfold pZ
  rw [if_pos ⟨ht, by cases p; exact Or.inl rfl; exact Or.inr rfl⟩]
theorem PT_no {k : Nat} (h : k = 51 ∨ k = 52 ∨ k = 53 ∨ k = 54) : ¬ PT 65 k := by unfold PT PS PG; omega
def PD (c k : Nat) : Prop := (c = 65 ∧ (k = 51 ∨ k = 53 ∨ k = 54)) ∨ PT c k
section Z4
variable {ws : Nat → Wd} {x y : Nat} {b : Bool} {M : jM}
theorem mcol_57 (hf : WF ws) (hx : x < 6) (hy : y < 6) {T : Nat} : ∀ (f t : Nat) (M : jM), Sh M → MA ws M → LT b (ws x) (ws y) (itN b (ws x) (ws y)) M → rI M 65 51 = nI (cit b (ws x) (ws y) t).1 → rI M 65 53 = nI t → (∀ e, e < itN b (ws x) (ws y) → rI M 95 e = nI ((cit b (ws x) (ws y) t).2 e)) → t ≤ 72 → 73 - t < f → ff (fun t => decide ((cit b (ws x) (ws y) (t + 1)).1 = (cit b (ws x) (ws y) t).1)) t (72 - t) = some T →
    ∃ N, l_X12_colour_57 f 65 (nI x) (nI y) (bI b) (nI 1) M = some (nI (cit b (ws x) (ws y) (T + 1)).1, N) ∧ Ez PD M N ∧ rI N 65 51 = nI (cit b (ws x) (ws y) (T + 1)).1 ∧ rI N 65 53 = nI T ∧ rI N 65 54 = bI (bal (itN b (ws x) (ws y), csz b (ws x).1, T, (cit b (ws x) (ws y) (T + 1)).2)) ∧ (∀ e, e < itN b (ws x) (ws y) → rI N 95 e = nI ((cit b (ws x) (ws y) (T + 1)).2 e)) := by
  have hN := itN_le (b := b) (hf x) (hf y)
  intro f
  induction f with
  | zero => intro t M _ _ _ _ _ _ _ k; omega
  | succ f ih =>
    intro t M h a l h1 h3 hg ht hf' hT
    have k1 := cit_le (b := b) (u := ws x) (v := ws y) t
    have k2 := cit_le (b := b) (u := ws x) (v := ws y) (t + 1)
    have km := cit_mono (b := b) (u := ws x) (v := ws y) t
    have toC : ∀ c k, PT c k → PD c k := fun c k hc => Or.inr hc
    show ∃ N, b_X12_colour_57 (l_X12_colour_57 f) 65 (nI x) (nI y) (bI b) (nI 1) M = _ ∧ _
    unfold b_X12_colour_57
    rw [if_neg (show ¬ nI 1 = 0 by decide), gI_n (t65 h), Option.bind_some, h1, jiv_n (t65 h)]
    obtain ⟨M6, s1, s2, s3⟩ := m_stepS (b := b) hf hx hy h a l (g := (cit b (ws x) (ws y) t).2) k1.1 k1.2 hg h1
    have hc1 : rg (stM b (ws x) (ws y) (cit b (ws x) (ws y) t).2) (itN b (ws x) (ws y)) = cit b (ws x) (ws y) (t + 1) := rfl
    rw [hc1] at s1 s2
    have h6 := Sh_ez s3 h
    have e6 : Ez PD M M6 := s3.mono toC
    rw [s1, jb2_some, pI_n (t65 h6), Option.bind_some]
    generalize hM8 : wI M6 65 51 (nI (cit b (ws x) (ws y) (t + 1)).1) = M8
    have e8 : Ez PD M M8 := by rw [← hM8]; exact ez_wI e6 (Or.inl ⟨rfl, Or.inl rfl⟩)
    have h8 := Sh_ez e8 h
    have r51 : rI M8 65 51 = nI (cit b (ws x) (ws y) (t + 1)).1 := by rw [← hM8, rI_wI, if_pos ⟨rfl, rfl⟩]
    have r53 : rI M8 65 53 = nI t := by rw [← hM8, rI_wI, if_neg (by omega), ez_rI s3 (PT_no (by omega)), h3]
    have r95 : ∀ e, e < itN b (ws x) (ws y) → rI M8 95 e = nI ((cit b (ws x) (ws y) (t + 1)).2 e) := fun e he => by rw [← hM8, rI_wI, if_neg (by omega)]; exact s2 e he
    have l8 : LT b (ws x) (ws y) (itN b (ws x) (ws y)) M8 := by
      have l6 := LT_ez s3 l (PT_no (by omega)) (fun c k hc => by unfold PT PS PG; omega)
      rw [← hM8]
      exact LT_ey (P := fun c k => c = 65 ∧ k = 51) (ey_wI Ey.rf ⟨rfl, rfl⟩) l6 (by omega) (fun c k hc => by omega)
    have a8 : MA ws M8 := MA_ez e8 a (fun c k hc => by unfold PD PT PS PG; omega)
    rw [gI_n (t65 h8), Option.bind_some, r51]
    unfold j_X12_colour_94 j_X12_colour_111
    rw [gI_n (t65 h8), Option.bind_some, r53]
    by_cases hs : (cit b (ws x) (ws y) (t + 1)).1 = (cit b (ws x) (ws y) t).1
    · have hTt : T = t := by
        by_cases h72 : 72 ≤ t
        · rw [show 72 - t = 0 by omega] at hT; exact nomatch (show (none : Option Nat) = some T from hT)
        · rw [show 72 - t = (71 - t) + 1 by omega] at hT
          unfold ff at hT
          rw [if_pos (decide_eq_true hs)] at hT
          cases hT; rfl
      subst hTt
      rw [if_pos (nI_le (by omega) (by omega)), if_pos (show nI 0 = 0 from rfl), pI_n (t65 h8), Option.bind_some, show nI T + nI 0 = nI T from nI_add T 0]
      generalize hM9 : wI M8 65 53 (nI T) = M9
      have e9 : Ez PD M M9 := by rw [← hM9]; exact ez_wI e8 (Or.inl ⟨rfl, Or.inr (Or.inl rfl)⟩)
      have h9 := Sh_ez e9 h
      have q51 : rI M9 65 51 = nI (cit b (ws x) (ws y) (T + 1)).1 := by rw [← hM9, rI_wI, if_neg (by omega), r51]
      have q53 : rI M9 65 53 = nI T := by rw [← hM9, rI_wI, if_pos ⟨rfl, rfl⟩]
      have q95 : ∀ e, e < itN b (ws x) (ws y) → rI M9 95 e = nI ((cit b (ws x) (ws y) (T + 1)).2 e) := fun e he => by rw [← hM9, rI_wI, if_neg (by omega)]; exact r95 e he
      have l9 : LT b (ws x) (ws y) (itN b (ws x) (ws y)) M9 := by
        rw [← hM9]
        exact LT_ey (P := fun c k => c = 65 ∧ k = 53) (ey_wI Ey.rf ⟨rfl, rfl⟩) l8 (by omega) (fun c k hc => by omega)
      obtain ⟨f', rfl⟩ : ∃ f', f = f' + 1 := ⟨f - 1, by omega⟩
      show ∃ N, b_X12_colour_57 (l_X12_colour_57 f') 65 (nI x) (nI y) (bI b) (nI 0) M9 = _ ∧ _
      unfold b_X12_colour_57
      rw [if_pos (show nI 0 = 0 from rfl), jiv_n (t65 h9), m_balanced (b := b) (d := (itN b (ws x) (ws y), csz b (ws x).1, T, (cit b (ws x) (ws y) (T + 1)).2)) rfl rfl hN (K := (cit b (ws x) (ws y) (T + 1)).1) (by omega) k2.2 h9 l9 q95 q51, jb2_some, pZ_b (t65 h9), Option.bind_some]
      generalize hM10 : wI M9 65 54 (bI (bal (itN b (ws x) (ws y), csz b (ws x).1, T, (cit b (ws x) (ws y) (T + 1)).2))) = M10
      have e10 : Ez PD M M10 := by rw [← hM10]; exact ez_wI e9 (Or.inl ⟨rfl, Or.inr (Or.inr rfl)⟩)
      have z51 : rI M10 65 51 = nI (cit b (ws x) (ws y) (T + 1)).1 := by rw [← hM10, rI_wI, if_neg (by omega), q51]
      rw [gI_n (t65 (Sh_ez e10 h)), Option.bind_some, z51]
      exact ⟨M10, rfl, e10, z51, by rw [← hM10, rI_wI, if_neg (by omega), q53], by rw [← hM10, rI_wI, if_pos ⟨rfl, rfl⟩], fun e he => by rw [← hM10, rI_wI, if_neg (by omega)]; exact q95 e he⟩
    · have h72 : t < 72 := by
        by_cases h72 : 72 ≤ t
        · rw [show 72 - t = 0 by omega] at hT; exact nomatch (show (none : Option Nat) = some T from hT)
        · omega
      rw [show 72 - t = (72 - (t + 1)) + 1 by omega] at hT
      unfold ff at hT
      rw [if_neg (by rw [decide_eq_true_iff]; exact hs)] at hT
      rw [if_neg (nI_ge (by omega) (by omega)), Option.bind_some, if_neg (show ¬ nI 1 = 0 by decide), pI_n (t65 h8), Option.bind_some, nI_add]
      generalize hM9 : wI M8 65 53 (nI (t + 1)) = M9
      have e9 : Ez PD M M9 := by rw [← hM9]; exact ez_wI e8 (Or.inl ⟨rfl, Or.inr (Or.inl rfl)⟩)
      have l9 : LT b (ws x) (ws y) (itN b (ws x) (ws y)) M9 := by
        rw [← hM9]
        exact LT_ey (P := fun c k => c = 65 ∧ k = 53) (ey_wI Ey.rf ⟨rfl, rfl⟩) l8 (by omega) (fun c k hc => by omega)
      obtain ⟨N, p1, p2, p3, p4, p5, p6⟩ := ih (t + 1) M9 (Sh_ez e9 h) (MA_ez e9 a (fun c k hc => by unfold PD PT PS PG; omega)) l9 (by rw [← hM9, rI_wI, if_neg (by omega), r51]) (by rw [← hM9, rI_wI, if_pos ⟨rfl, rfl⟩]) (fun e he => by rw [← hM9, rI_wI, if_neg (by omega)]; exact r95 e he) (by omega) (by omega) hT
      exact ⟨N, p1, e9.tr p2, p3, p4, p5, p6⟩
theorem m_colour (h : Sh M) (a : MA ws M) (hf : WF ws) {d : Co} (f : MC d M) (x y k : Int32) : ∃ N, f_X12_colour 65 x y k M = some ((sp_colour ws d x y k).1, N) ∧ MC (sp_colour ws d x y k).2 N ∧ Ez PC M N := by
  unfold f_X12_colour sp_colour
  rw [jiv_n (t65 h), m_noWorld h a hf, jb2_some]
  cases hc : wok ws x with
  | none => exact ⟨M, rfl, f, Ez.rf⟩
  | some i =>
    obtain ⟨hi, rfl, h0⟩ := wok_some hc
    simp only [Option.isNone_some, bI_z, if_true]
    rw [jiv_n (t65 h), m_noWorld h a hf, jb2_some]
    cases hd : wok ws y with
    | none => exact ⟨M, rfl, f, Ez.rf⟩
    | some j =>
      obtain ⟨hj, rfl, h02⟩ := wok_some hd
      simp only [Option.isNone_some, bI_z, if_true]
      rw [show nI 1 = nI (2 - 1) from rfl, m_in0 (by decide) (by decide), jb2_some]
      cases hk : ixo k 2 with
      | none => exact ⟨M, rfl, f, Ez.rf⟩
      | some q =>
        obtain ⟨hq, rfl⟩ := (ixo_some (by decide)).mp hk
        rw [if_neg (show ¬ bI (some q).isSome = 0 by show ¬ bI true = 0; decide)]
        have hb : nI q = bI (decide (q = 1)) := by
          rcases (show q = 0 ∨ q = 1 by omega) with rfl | rfl <;> rfl
        rw [hb]
        dsimp only
        generalize decide (q = 1) = b
        have hN := itN_le (b := b) (hf i) (hf j)
        obtain ⟨n0, hn0⟩ := jF_is
        obtain ⟨T, t1, t2⟩ := cit_rest (b := b) (hf i) (hf j)
        have hT : cT b (ws i) (ws j) = T := by unfold cT; rw [t1]; rfl
        obtain ⟨M7, p1, p2, p3⟩ := m_layc (b := b) hf hi hj h a
        have e7 : Ez PC M M7 := Ez.of (p3.mono (fun c k hc => Or.inr (Or.inl hc)))
        have h7 := Sh_ez e7 h
        rw [jiv_n (t65 h), p1, jb2_some, jiv_n (t65 h7)]
        have a7 : MA ws M7 := MA_ez e7 a (fun c k hc => by unfold PC PL PT PS PG; omega)
        obtain ⟨M8, q1, q2, q3⟩ := m_step0 (b := b) hf hi hj h7 a7 p2
        have e8 : Ez PC M M8 := e7.tr (Ez.of (q3.mono (fun c k hc => Or.inr (Or.inr hc))))
        have h8 := Sh_ez e8 h
        rw [q1, jb2_some, pI_n (t65 h8), Option.bind_some]
        generalize hM9 : wI M8 65 51 (nI (cit b (ws i) (ws j) 0).1) = M9
        have e9 : Ez PC M M9 := by rw [← hM9]; exact ez_wI e8 (Or.inl ⟨rfl, Or.inl rfl⟩)
        rw [pI_n (t65 (Sh_ez e9 h)), Option.bind_some]
        generalize hM10 : wI M9 65 53 (nI 0) = M10
        have e10 : Ez PC M M10 := by rw [← hM10]; exact ez_wI e9 (Or.inl ⟨rfl, Or.inr (Or.inl rfl)⟩)
        have l8 := LT_ey q3 p2 (PT_no (by omega)) (fun c k hc => by unfold PT PS PG; omega)
        have y10 : Ey (fun c k => c = 65 ∧ (k = 51 ∨ k = 53)) M8 M10 := by rw [← hM10, ← hM9]; exact ey_wI (ey_wI Ey.rf ⟨rfl, Or.inl rfl⟩) ⟨rfl, Or.inr rfl⟩
        have l10 := LT_ey y10 l8 (by omega) (fun c k hc => by omega)
        obtain ⟨N, r1, r2, r3, r4, r5, r6⟩ := mcol_57 (b := b) hf hi hj (T := T) jF0 0 M10 (Sh_ez e10 h) (MA_ez e10 a (fun c k hc => by unfold PC PL PT PS PG; omega)) l10 (by rw [← hM10, rI_wI, if_neg (by omega), ← hM9, rI_wI, if_pos ⟨rfl, rfl⟩]) (by rw [← hM10, rI_wI, if_pos ⟨rfl, rfl⟩]) (fun e he => by rw [← hM10, rI_wI, if_neg (by omega), ← hM9, rI_wI, if_neg (by omega)]; exact q2 e he) (Nat.zero_le _) (by omega) t1
        rw [r1]
        unfold cS
        rw [hT]
        have kc := cit_le (b := b) (u := ws i) (v := ws j) (T + 1)
        have hpos : itN b (ws i) (ws j) ≠ 0 := by
          unfold itN csz
          cases b with
          | false => show (ws i).1 + (ws j).1 ≠ 0; omega
          | true => have := Nat.mul_pos h0 h0; show (ws i).1 * (ws i).1 + (ws j).1 * (ws j).1 ≠ 0; omega
        have z52 : rI N 65 52 = nI (itN b (ws i) (ws j)) := by rw [ez_rI r2 (by unfold PD PT PS PG; omega)]; exact l10.1
        exact ⟨N, rfl, ⟨z52, fun z => absurd z hpos, fun _ => ⟨⟨_, by omega, r3⟩, r4, r5⟩, r6⟩, e10.tr (r2.mono (fun c k hc => by unfold PC; exact hc.elim Or.inl (fun q => Or.inr (Or.inr q))))⟩
end Z4
