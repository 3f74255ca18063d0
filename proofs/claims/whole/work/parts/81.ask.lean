/-! ASKING: what a formula answers, how many are asked; the class's Asker. -/
theorem n_sign {c : Nat} {M : jM} (h : c < 2 ^ 31) : f_X4_signOf (nI c) M = some (nI (c % 256), M) := by
  unfold f_X4_signOf
  rw [pk_andN (by omega) 8 (by decide)]; rfl
theorem n_first {c : Nat} {M : jM} (h : c < 2 ^ 31) : f_X4_firstOf (nI c) M = some (nI (c / 256 % 16), M) := by
  unfold f_X4_firstOf
  rw [pk_shrN h _ 8 (by decide), pk_andN (by omega) 4 (by decide)]; rfl
theorem n_second {c : Nat} {M : jM} (h : c < 2 ^ 31) : f_X4_secondOf (nI c) M = some (nI (c / 4096 % 16), M) := by
  unfold f_X4_secondOf
  rw [pk_shrN h _ 12 (by decide), pk_andN (by omega) 4 (by decide)]; rfl
theorem n_span {c s : Nat} {M : jM} (hs : 1 ≤ s) (h8 : s ≤ 800) (hc : c < 65536) : f_X4_spanOf (nI (c + 65536 * s)) M = some (nI s, M) := by
  unfold f_X4_spanOf
  rw [pk_shrN (by omega) _ 16 (by decide), show (c + 65536 * s) / 2 ^ 16 = s by omega]
  unfold jmx
  by_cases h1 : s = 1
  · subst h1; rw [if_neg (by decide)]; rfl
  · rw [if_pos (nI_lt (by omega) (by omega))]; rfl
theorem n_isList {k : Nat} {M : jM} (h : k < 256) : f_X4_isList (nI k) M = some (bI (decide (k = 38 ∨ k = 124)), M) := by
  unfold f_X4_isList j_X4_isList_12
  by_cases h1 : k = 38
  · rw [if_pos (by rw [h1]), decide_eq_true (Or.inl h1)]; rfl
  · rw [if_neg (fun e => h1 ((nI_eq (by omega) (by decide)).mp e))]
    by_cases h2 : k = 124
    · rw [if_pos (by rw [h2]), decide_eq_true (Or.inr h2)]; rfl
    · rw [if_neg (fun e => h2 ((nI_eq (by omega) (by decide)).mp e)), decide_eq_false (by omega)]; rfl
theorem n_isQ {k : Nat} {M : jM} (h : k < 256) : f_X4_isQuantifier (nI k) M = some (bI (isQ k), M) := by
  unfold f_X4_isQuantifier j_X4_isQuantifier_12 isQ
  by_cases h1 : k = 64
  · rw [if_pos (by rw [h1]), decide_eq_true h1]; rfl
  · rw [if_neg (fun e => h1 ((nI_eq (by omega) (by decide)).mp e)), decide_eq_false h1]
    by_cases h2 : k = 63
    · rw [if_pos (by rw [h2]), decide_eq_true h2]; rfl
    · rw [if_neg (fun e => h2 ((nI_eq (by omega) (by decide)).mp e)), decide_eq_false h2]; rfl
/-- the first node tells how many there are -/
theorem Nx_head {g : Nat → Int32} {f : Fm} {m p q : Nat} (hm : m ≠ 2) (h0 : ∀ l r, f ≠ .branch 0 l r) (hw : wf m q f) (n : Nx g p q f) : ∃ c, g p = nI (c + 65536 * sz f) ∧ c < 65536 := by
  cases f with
  | leaf c =>
    refine ⟨c, n, ?_⟩
    have hq := hw.2.1
    rcases hw.2.2 with ⟨s, a, hs, ha, hb, rfl⟩ | ⟨s, a, b, hs, ha, hb, hc, hd, rfl⟩ | rfl | rfl <;> omega
  | branch k l r =>
    have hk : k ≠ 0 := fun e => h0 l r (by rw [e])
    simp only [wf] at hw
    rw [if_neg hk] at hw
    simp only [Nx] at n
    rw [if_neg hk] at n
    simp only [sz]
    rw [if_neg hk]
    by_cases hQ : isQ k = true
    · rw [if_pos hQ] at n
      have k6 : k = 64 ∨ k = 63 := by simpa [isQ] using hQ
      rw [if_neg (by omega), if_pos hQ] at hw
      exact ⟨_, n.1, by omega⟩
    · rw [if_neg hQ] at n
      refine ⟨_, n.1, ?_⟩
      by_cases h5 : k = 45
      · omega
      · rw [if_neg h5, if_neg hQ] at hw
        by_cases h3 : k = 38 ∨ k = 124
        · omega
        · rw [if_neg h3] at hw; exact absurd hw.2.2 id
theorem wf0_nb {q : Nat} {f : Fm} (h : wf 0 q f) : ∀ l r, f ≠ .branch 0 l r := by
  rintro l r rfl
  simp only [wf] at h
  exact absurd rfl h.1
def atv (w : Wd) (env : Nat → Nat) (c : Nat) : Bool := if aS c = 61 then decide (env (aA c) = env (aB c)) else if aS c = 65 then (w.2.1 (env (aA c))).testBit 0 else if aS c = 66 then (w.2.1 (env (aA c))).testBit 1 else if aS c = 69 then eb w (env (aA c)) (env (aB c)) else decide (aS c = 84)
def lpq (g : Nat → Bool × Nat) (so : Bool) : Nat → Nat → Bool × Nat
  | 0, _ => (!so, 0)
  | m + 1, t => if (g t).1 = so then (so, (g t).2) else ((lpq g so m (t + 1)).1, (g t).2 + (lpq g so m (t + 1)).2)
/-- what it answers, and how many are asked for it -/
def ev (w : Wd) : Bool → (Nat → Nat) → Nat → Fm → Bool × Nat
  | _, env, _, .leaf c => (atv w env c, 1)
  | so, env, q, .branch k l r =>
    if k = 0 then (if (ev w so env q l).1 = so then (so, (ev w so env q l).2) else ((ev w so env q r).1, (ev w so env q l).2 + (ev w so env q r).2))
    else if k = 45 then (!(ev w so env q l).1, (ev w so env q l).2 + 1)
    else if isQ k = true then ((lpq (fun t => ev w so (up1 env (q + 1) t) (q + 1) l) (decide (k = 63)) w.1 0).1, (lpq (fun t => ev w so (up1 env (q + 1) t) (q + 1) l) (decide (k = 63)) w.1 0).2 + 1)
    else ((ev w (decide (k = 124)) env q l).1, (ev w (decide (k = 124)) env q l).2 + 1)
theorem lpq_congr {g g' : Nat → Bool × Nat} {so : Bool} : ∀ m t, (∀ t, g t = g' t) → lpq g so m t = lpq g' so m t
  | 0, t, h => rfl
  | m + 1, t, h => by simp only [lpq]; rw [h t, lpq_congr m (t + 1) h]
section EV
variable {w : Wd} {so : Bool} {env : Nat → Nat} {q k : Nat} {l r : Fm}
theorem hk_Q (hk : k = 64 ∨ k = 63) : isQ k = true := by unfold isQ; simpa using hk
theorem hk_L (hk : k = 38 ∨ k = 124) : ¬ isQ k = true := by rcases hk with rfl | rfl <;> decide
theorem ev_n : ev w so env q (.branch 45 l r) = (!(ev w so env q l).1, (ev w so env q l).2 + 1) := by
  rw [ev, if_neg (by decide), if_pos rfl]
theorem ev_q (hk : k = 64 ∨ k = 63) : ev w so env q (.branch k l r) = ((lpq (fun t => ev w so (up1 env (q + 1) t) (q + 1) l) (decide (k = 63)) w.1 0).1, (lpq (fun t => ev w so (up1 env (q + 1) t) (q + 1) l) (decide (k = 63)) w.1 0).2 + 1) := by
  rw [ev, if_neg (by omega), if_neg (by omega), if_pos (hk_Q hk)]
theorem ev_l (hk : k = 38 ∨ k = 124) : ev w so env q (.branch k l r) = ((ev w (decide (k = 124)) env q l).1, (ev w (decide (k = 124)) env q l).2 + 1) := by
  rw [ev, if_neg (by omega), if_neg (by omega), if_neg (hk_L hk)]
theorem ev_c : ev w so env q (.branch 0 l r) = (if (ev w so env q l).1 = so then (so, (ev w so env q l).2) else ((ev w so env q r).1, (ev w so env q l).2 + (ev w so env q r).2)) := by
  rw [ev, if_pos rfl]
theorem sz_u (hk : k ≠ 0) : sz (.branch k l r) = sz l + 1 := by rw [sz, if_neg hk]
theorem sz_c : sz (.branch 0 l r) = sz l + sz r := by rw [sz, if_pos rfl]
theorem dp_u (hk : k ≠ 0) : dp (.branch k l r) = dp l + 1 := by rw [dp, if_neg hk]
theorem dp_c : dp (.branch 0 l r) = max (dp l) (dp r) := by rw [dp, if_pos rfl]
theorem Nx_c {g : Nat → Int32} {p : Nat} : Nx g p q (.branch 0 l r) = (Nx g p q l ∧ Nx g (p + sz l) q r) := by rw [Nx, if_pos rfl]
theorem Nx_q {g : Nat → Int32} {p : Nat} (hk : k = 64 ∨ k = 63) : Nx g p q (.branch k l r) = (g p = nI (k + 256 * (q + 1) + 65536 * (sz l + 1)) ∧ Nx g (p + 1) (q + 1) l) := by rw [Nx, if_neg (by omega), if_pos (hk_Q hk)]
theorem Nx_l {g : Nat → Int32} {p : Nat} (hk : k = 38 ∨ k = 124) : Nx g p q (.branch k l r) = (g p = nI (k + 65536 * (sz l + 1)) ∧ Nx g (p + 1) q l) := by rw [Nx, if_neg (by omega), if_neg (hk_L hk)]
theorem Nx_n {g : Nat → Int32} {p : Nat} : Nx g p q (.branch 45 l r) = (g p = nI (45 + 65536 * (sz l + 1)) ∧ Nx g (p + 1) q l) := by rw [Nx, if_neg (by decide), if_neg (by decide)]
end EV
theorem ev_so (w : Wd) : ∀ f q, (wf 0 q f → ∀ so so' env, ev w so env q f = ev w so' env q f) ∧ (wf 1 q f → True) :=
  fm_ind (P := fun q f => ∀ so so' env, ev w so env q f = ev w so' env q f) (B := fun _ _ => True)
    (fun q c _ _ so so' env => rfl)
    (fun q l _ ih so so' env => by rw [ev_n, ev_n, ih so so' env])
    (fun q k l hk _ _ ih so so' env => by
      rw [ev_q hk, ev_q hk, lpq_congr _ _ (fun t => ih so so' (up1 env (q + 1) t))])
    (fun q k l hk _ _ so so' env => by
      rw [ev_l hk, ev_l hk])
    (fun _ _ _ _ => trivial) (fun _ _ _ _ _ _ _ => trivial)
def CA (c : Nat) : Prop := c = 36 ∨ c = 37
section AK
variable {M : jM} {w : Wd} {nc wc LN : Nat}
theorem a_spent (h : Sh M) {n : Nat} (hn : rI M 36 1 = nI n) (h3 : n < 2 ^ 31) : f_X0_isSpent 36 M = some (bI (decide (100000 < n)), M) := by
  unfold f_X0_isSpent
  rw [gI_n (t36 h), Option.bind_some, hn]
  by_cases hc : n ≤ 100000
  · rw [if_pos (nI_le hc (by decide)), decide_eq_false (by omega)]; rfl
  · rw [if_neg (nI_ge (by omega) h3), decide_eq_true (by omega)]; rfl
theorem a_atom (h : Wat M wc w) (hw : wwf w) {s a b : Nat} (hs : s < 256) (ha : a < 6) (hb : b < 6) : f_X9_holdsAtom wc (nI s) (nI a) (nI b) M = some (bI (if s = 61 then decide (a = b) else if s = 65 then (w.2.1 a).testBit 0 else if s = 66 then (w.2.1 a).testBit 1 else if s = 69 then eb w a b else decide (s = 84)), M) := by
  have hne : ∀ k : Nat, k < 256 → s ≠ k → ¬ nI s = nI k := fun k hk e q => e ((nI_eq (by omega) (by omega)).mp q)
  have m4 := hw.2.1 a
  unfold f_X9_holdsAtom j_X9_holdsAtom_102
  by_cases h1 : s = 61
  · rw [if_pos (by rw [h1]), if_pos h1]
    by_cases hab : a = b
    · rw [if_pos (by rw [hab]), decide_eq_true hab]; rfl
    · rw [if_neg (fun q => hab ((nI_eq (by omega) (by omega)).mp q)), decide_eq_false hab]; rfl
  · rw [if_neg (hne 61 (by decide) h1), if_neg h1]
    by_cases h2 : s = 65
    · rw [if_pos (by rw [h2]), if_pos h2, jiv_n h.1.1, w_marksOf h hw (by omega), jb2_some, nI_and]
      revert m4
      generalize w.2.1 a = x
      intro m4
      rcases (show x = 0 ∨ x = 1 ∨ x = 2 ∨ x = 3 by omega) with rfl | rfl | rfl | rfl <;> rfl
    · rw [if_neg (hne 65 (by decide) h2), if_neg h2]
      by_cases h3 : s = 66
      · rw [if_pos (by rw [h3]), if_pos h3, jiv_n h.1.1, w_marksOf h hw (by omega), jb2_some, nI_and]
        revert m4
        generalize w.2.1 a = x
        intro m4
        rcases (show x = 0 ∨ x = 1 ∨ x = 2 ∨ x = 3 by omega) with rfl | rfl | rfl | rfl <;> rfl
      · rw [if_neg (hne 66 (by decide) h3), if_neg h3]
        by_cases h4 : s = 69
        · rw [if_pos (by rw [h4]), if_pos h4, jiv_n h.1.1, w_isTied h hw (by omega) (by omega), jb2_some]
          exact rZ_n
        · rw [if_neg (hne 69 (by decide) h4), if_neg h4]
          by_cases h5 : s = 84
          · rw [if_pos (by rw [h5]), decide_eq_true h5]; rfl
          · rw [if_neg (hne 84 (by decide) h5), decide_eq_false h5]; rfl
theorem a_thing (h : Sh M) {j : Nat} (hj : j < 9) : f_X0_thingOf 36 (nI j) M = some (rI M 37 j, M) := by
  unfold f_X0_thingOf
  rw [if_neg (nI_pos (by omega)), q36_0 h, Option.bind_some, ln_n (t37 h) (by decide) (by decide), Option.bind_some, if_neg (nI_ge hj (by decide)), Option.bind_some, ldI_n (t37 h) hj (by decide), Option.bind_some]
  rfl
end AK
