/-! COLOURS: the class's three calls. -/
/-- colours: how many items, how many of them of the first world, steps, the colour of each -/
abbrev Co : Type := Nat × Nat × Nat × (Nat → Nat)
def cT (b : Bool) (u v : Wd) : Nat := (ff (fun t => decide ((cit b u v (t + 1)).1 = (cit b u v t).1)) 0 72).getD 0
def cS (b : Bool) (u v : Wd) : Int32 × Co := (nI (cit b u v (cT b u v + 1)).1, (itN b u v, csz b u.1, cT b u v, (cit b u v (cT b u v + 1)).2))
def sp_colour (ws : Nat → Wd) (d : Co) (x y k : Int32) : Int32 × Co := match wok ws x with
  | none => (-1, d)
  | some i => match wok ws y with
    | none => (-1, d)
    | some j => match ixo k 2 with
      | none => (-2, d)
      | some q => cS (decide (q = 1)) (ws i) (ws j)
def sp_coloured (d : Co) (i : Int32) : Int32 := match ixo i d.1 with
  | none => -1
  | some q => nI (d.2.2.2 q)
/-- a colour's surplus among the first n items -/
def sur (d : Co) (c : Nat) : Nat → Int32
  | 0 => nI 0
  | e + 1 => sur d c e + (if d.2.2.2 e = c then (if e < d.2.1 then nI 1 else (-1 : Int32)) else nI 0)
def bal (d : Co) : Bool := allB 72 (fun c => decide (sur d c d.1 = 0))
def sp_still (d : Co) (x : Int32) : Int32 := match ixo x 2 with
  | none => -2
  | some q => if d.1 = 0 then -3 else if q = 0 then nI d.2.2.1 else bI (bal d)
def CV (d : Co) : Prop := d.1 ≤ 72 ∧ d.2.1 ≤ 72 ∧ d.2.2.1 ≤ 72 ∧ ∀ e, e < d.1 → d.2.2.2 e < 72
def XC (d : Co) (M : jM) : Prop := rI M 42 4 = nI d.1 ∧ rI M 42 5 = nI d.2.1 ∧ rI M 42 7 = nI d.2.2.1 ∧ ∀ e, e < d.1 → rI M 43 e = nI (d.2.2.2 e)
theorem XC_el {C : Nat → Prop} {d : Co} {M N : jM} (h : El C M N) (x : XC d M) (h2 : ¬ C 42) (h3 : ¬ C 43) : XC d N := by
  obtain ⟨x1, x2, x3, x4⟩ := x
  exact ⟨by rw [el_rI h h2, x1], by rw [el_rI h h2, x2], by rw [el_rI h h2, x3], fun e he => by rw [el_rI h h3]; exact x4 e he⟩
theorem sp_colour_cv {ws : Nat → Wd} {d : Co} (hd : CV d) (hf : WF ws) (x y k : Int32) : CV (sp_colour ws d x y k).2 := by
  unfold sp_colour
  cases wok ws x with
  | none => exact hd
  | some i =>
    cases wok ws y with
    | none => exact hd
    | some j =>
      cases ixo k 2 with
      | none => exact hd
      | some q =>
        have hN := itN_le (b := decide (q = 1)) (hf i) (hf j)
        have c1 := csz_le (b := decide (q = 1)) (hf i).1
        obtain ⟨T, t1, t2⟩ := cit_rest (b := decide (q = 1)) (hf i) (hf j)
        refine ⟨hN, by show csz (decide (q = 1)) (ws i).1 ≤ 72; omega, ?_, fun e he => ?_⟩
        · show cT _ _ _ ≤ 72
          unfold cT
          rw [t1]
          exact Nat.le_of_lt t2
        · have := (cit_le (b := decide (q = 1)) (u := ws i) (v := ws j) (cT (decide (q = 1)) (ws i) (ws j) + 1)).2 e he
          have l := (cit_le (b := decide (q = 1)) (u := ws i) (v := ws j) (cT (decide (q = 1)) (ws i) (ws j) + 1)).1
          show (cit _ _ _ _).2 e < 72
          omega
section L7
variable {M : jM} {ws : Nat → Wd}
theorem x_colour (h : Sh M) (a : XA ws M) (hf : WF ws) {d : Co} (f : XC d M) (x y k : Int32) : ∃ N, f_X11_colour 1 x y k M = some ((sp_colour ws d x y k).1, N) ∧ XC (sp_colour ws d x y k).2 N ∧ El C3 M N := by
  unfold f_X11_colour sp_colour
  rw [jiv_n (t1 h), x_worldOf h a hf]
  simp only [jb2_some]
  rw [jiv_n (t1 h), x_worldOf h a hf]
  simp only [jb2_some]
  cases hc : wok ws x with
  | none => exact ⟨M, rfl, f, El.rf⟩
  | some i =>
    obtain ⟨hi, rfl, h0⟩ := wok_some hc
    cases hd : wok ws y with
    | none => exact ⟨M, rfl, f, El.rf⟩
    | some j =>
      obtain ⟨hj, rfl, h02⟩ := wok_some hd
      simp only [Option.map_some, jnl]
      cases hk : ixo k 2 with
      | none =>
        have hk' := (ixo_none (by decide)).mp hk
        rw [if_neg (fun e => by subst e; rcases hk' with q | q <;> revert q <;> decide), if_neg (fun e => by subst e; rcases hk' with q | q <;> revert q <;> decide)]
        exact ⟨M, rfl, f, El.rf⟩
      | some q =>
        obtain ⟨hq, rfl⟩ := (ixo_some (by decide)).mp hk
        have main : ∀ b : Bool, ∃ N, j_X11_colour_56 42 (47 + 3 * i) (47 + 3 * j) (bI b) M = some ((cS b (ws i) (ws j)).1, N) ∧ XC (cS b (ws i) (ws j)).2 N ∧ El C3 M N := by
          intro b
          obtain ⟨T, t1, t2⟩ := cit_rest (b := b) (hf i) (hf j)
          have hT : cT b (ws i) (ws j) = T := by unfold cT; rw [t1]; rfl
          obtain ⟨N, s1, s2, s3, s4, s5, s6⟩ := x_settle (b := b) (w1 := 47 + 3 * i) (w2 := 47 + 3 * j) (hf i) (hf j) (by omega) (by omega) h (a i hi) (a j hj) t1
          unfold j_X11_colour_56 cS XC
          rw [jiv_n (t42 h), s1, jb2_some, hT]
          exact ⟨N, rfl, ⟨s3, s4, s5, s6⟩, s2⟩
        have hq2 : q = 0 ∨ q = 1 := by omega
        rcases hq2 with rfl | rfl
        · rw [if_pos (show nI 0 = 0 from rfl)]
          unfold j_X11_colour_38
          rw [q1_11 h, Option.bind_some, if_neg (by decide)]
          exact main false
        · rw [if_neg (show ¬ nI 1 = 0 by decide), if_pos rfl]
          unfold j_X11_colour_38
          rw [q1_11 h, Option.bind_some, if_pos rfl]
          exact main true
theorem x_coloured (h : Sh M) {d : Co} (hd : CV d) (f : XC d M) (i : Int32) : f_X11_coloured 1 i M = some (sp_coloured d i, M) := by
  have hd1 := hd.1
  unfold f_X11_coloured f_X1_colourOf sp_coloured
  rw [q1_11 h, Option.bind_some, jiv_n (t42 h)]
  cases hi : ixo i d.1 with
  | none =>
    by_cases h0 : i < 0
    · rw [if_pos h0]; rfl
    · rw [if_neg h0, gI_n (t42 h), Option.bind_some, f.1, if_pos (((ixo_none (by omega)).mp hi).resolve_left h0)]; rfl
  | some q =>
    obtain ⟨hq, rfl⟩ := (ixo_some (by omega)).mp hi
    rw [if_neg (nI_pos (by omega)), gI_n (t42 h), Option.bind_some, f.1, if_neg (nI_ge hq (by omega)), jiv_n (t42 h), x_colourAt h (by omega), jb2_some, f.2.2.2 q hq]
    rfl
theorem bal_67 : ∀ (n c : Nat) (M : jM), Sh M → c ≤ 72 → 72 - c < n → ∀ (S : Nat → Int32), (∀ k, k < 72 → rI M 46 k = S k) → l_X1_balance_67 n 42 (nI c) M = some (bI (allB 72 (fun k => decide (k < c) || decide (S k = 0))), M) := by
  intro n
  induction n with
  | zero => intro c M _ _ q; omega
  | succ n ih =>
    intro c M h hc hn S hS
    show b_X1_balance_67 (l_X1_balance_67 n) 42 (nI c) M = _
    unfold b_X1_balance_67
    rw [q42_3 h, Option.bind_some, ln_n (t46 h) (by decide) (by decide), Option.bind_some]
    by_cases hcc : 72 ≤ c
    · rw [if_pos (nI_le hcc (by omega)), allB_end hcc]
      exact rZ_n (p := true)
    · rw [if_neg (nI_ge (by omega) (by decide)), Option.bind_some, ldI_n (t46 h) (by omega) (by decide), Option.bind_some, hS c (by omega), allB_at (f := fun k => decide (S k = 0)) (by omega)]
      by_cases hz : S c = 0
      · rw [if_pos hz, nI_add, ih (c + 1) M h (by omega) (by omega) S hS, decide_eq_true hz, Bool.true_and]
      · rw [if_neg hz, decide_eq_false hz, Bool.false_and]
        exact rZ_n (p := false)
theorem bal_10 {d : Co} (hd : CV d) : ∀ (n e : Nat) (M : jM), Sh M → XC d M → e ≤ d.1 → d.1 - e < n → (∀ k, k < 72 → rI M 46 k = sur d k e) → ∃ N, l_X1_balance_10 n 42 (nI e) M = some (bI (bal d), N) ∧ Ex (fun c => c = 46) M N := by
  have hd1 := hd.1
  have hd2 := hd.2.1
  intro n
  induction n with
  | zero => intro c M _ _ _ q; omega
  | succ n ih =>
    intro e M h f he hn hS
    show ∃ N, b_X1_balance_10 (l_X1_balance_10 n) 42 (nI e) M = _ ∧ _
    unfold b_X1_balance_10
    rw [gI_n (t42 h), Option.bind_some, f.1]
    by_cases hc : d.1 ≤ e
    · obtain rfl : e = d.1 := by omega
      obtain ⟨n0, hn0⟩ := jF_is
      rw [if_pos (nI_le hc (by omega)), bal_67 jF0 0 M h (Nat.zero_le _) (by omega) (fun k => sur d k d.1) hS, allB_0]
      exact ⟨M, rfl, Ex.rf⟩
    · have c7 := hd.2.2.2 e (by omega)
      rw [if_neg (nI_ge (by omega) (by omega)), jiv_n (t42 h), x_colourAt h (by omega), jb2_some, f.2.2.2 e (by omega), if_neg (nI_pos (by omega)), q42_3 h, Option.bind_some, ln_n (t46 h) (by decide) (by decide), Option.bind_some, if_neg (nI_ge c7 (by decide)), Option.bind_some, ldI_n (t46 h) c7 (by decide), Option.bind_some, gI_n (t42 h), Option.bind_some, f.2.1, hS _ c7]
      have go : ∀ s : Int32, s = (if e < d.2.1 then nI 1 else (-1 : Int32)) → ∃ N, j_X1_balance_57 (l_X1_balance_10 n) 42 (nI e) 46 (nI (d.2.2.2 e)) (sur d (d.2.2.2 e) e) s M = some (bI (bal d), N) ∧ Ex (fun c => c = 46) M N := by
        intro s hs
        unfold j_X1_balance_57 j_X1_balance_59
        rw [stI_n (t46 h) c7 (by decide), Option.bind_some, nI_add]
        have e1 : Ex (fun c => c = 46) M (wI M 46 (d.2.2.2 e) (sur d (d.2.2.2 e) e + s)) := ex_wI Ex.rf rfl
        obtain ⟨N, p1, p2⟩ := ih (e + 1) _ (Sh_ex e1 h) (XC_el (El.of e1) f (by decide) (by decide)) (by omega) (by omega) (fun k hk => by
          rw [rI_wI]
          have hd : sur d k (e + 1) = sur d k e + (if d.2.2.2 e = k then (if e < d.2.1 then nI 1 else (-1 : Int32)) else nI 0) := rfl
          by_cases hkc : k = d.2.2.2 e
          · rw [if_pos ⟨rfl, hkc⟩, hd, if_pos hkc.symm, hs, hkc]
          · rw [if_neg (fun q => hkc q.2), hd, if_neg (fun q => hkc q.symm), hS k hk]
            exact (Int32.add_zero _).symm)
        exact ⟨N, p1, e1.tr p2⟩
      by_cases hsp : d.2.1 ≤ e
      · rw [if_pos (nI_le hsp (by omega))]
        exact go _ (by rw [if_neg (by omega)])
      · rw [if_neg (nI_ge (by omega) (by omega))]
        exact go _ (by rw [if_pos (by omega)])
theorem x_still (h : Sh M) {d : Co} (hd : CV d) (f : XC d M) (x : Int32) : ∃ N, f_X11_still 1 x M = some (sp_still d x, N) ∧ Ex (fun c => c = 46) M N := by
  have hd1 := hd.1
  unfold f_X11_still sp_still
  cases hk : ixo x 2 with
  | none =>
    have hk' := (ixo_none (by decide)).mp hk
    rw [if_neg (fun e => by subst e; rcases hk' with q | q <;> revert q <;> decide), if_neg (fun e => by subst e; rcases hk' with q | q <;> revert q <;> decide)]
    exact ⟨M, rfl, Ex.rf⟩
  | some q =>
    obtain ⟨hq, rfl⟩ := (ixo_some (by decide)).mp hk
    have main : ∃ N, j_X11_still_12 1 (nI q) M = some (if d.1 = 0 then -3 else if q = 0 then nI d.2.2.1 else bI (bal d), N) ∧ Ex (fun c => c = 46) M N := by
      unfold j_X11_still_12 f_X1_items f_X1_steps
      rw [q1_11 h, Option.bind_some, jiv_n (t42 h), gI_n (t42 h), Option.bind_some, f.1]
      show ∃ N, (if nI d.1 = 0 then _ else _) = _ ∧ _
      by_cases hz : d.1 = 0
      · rw [hz, if_pos (show nI 0 = 0 from rfl), if_pos rfl]
        exact ⟨M, rfl, Ex.rf⟩
      · rw [if_neg (nI_ne0 (by omega) (by omega)), if_neg hz]
        by_cases hq0 : q = 0
        · subst hq0
          rw [if_pos (show nI 0 = 0 from rfl), if_pos rfl, q1_11 h, Option.bind_some, jiv_n (t42 h), gI_n (t42 h), Option.bind_some, f.2.2.1]
          exact ⟨M, rfl, Ex.rf⟩
        · rw [if_neg (nI_ne0 (by omega) (by omega)), if_neg hq0, q1_11 h, Option.bind_some, jiv_n (t42 h)]
          unfold f_X1_balance
          rw [q42_3 h, Option.bind_some]
          obtain ⟨N1, f1, f2, f3⟩ := fill_n (x := nI 0) (by decide) (t46 h)
          obtain ⟨n0, hn0⟩ := jF_is
          obtain ⟨N, p1, p2⟩ := bal_10 hd jF0 0 N1 (Sh_ex f2 h) (XC_el (El.of f2) f (by decide) (by decide)) (Nat.zero_le _) (by omega) (fun k hk => f3 k hk)
          rw [f1, jb2_some, p1, jb2_some]
          refine ⟨N, ?_, f2.tr p2⟩
          cases bal d <;> rfl
    have hq2 : q = 0 ∨ q = 1 := by omega
    rcases hq2 with rfl | rfl
    · rw [if_pos (show nI 0 = 0 from rfl)]; exact main
    · rw [if_neg (show ¬ nI 1 = 0 by decide), if_pos rfl]; exact main
end L7
