/-! COLOURS: the reference's first likeness is the class's. -/
theorem lcd_is {u : Wd} (hu : wwf u) (f s : Nat) : lcd u f s = 64 * bd u f s + (8 * lk u s + lk u f) := by
  have l1 := lk_lt hu f
  have l2 := lk_lt hu s
  unfold lcd
  rw [or_add (m := 3) (show lk u f < 2 ^ 3 from l1), or_add (m := 6) (show 2 ^ 3 * lk u s + lk u f < 2 ^ 6 by omega)]
theorem lcd_lt {u : Wd} (hu : wwf u) (f s : Nat) : lcd u f s < 512 := by
  have l1 := lk_lt hu f
  have l2 := lk_lt hu s
  have l3 := bd_lt (u := u) f s
  rw [lcd_is hu]; omega
theorem lcd_eq {u v : Wd} (hu : wwf u) (hv : wwf v) {f s f' s' : Nat} : lcd u f s = lcd v f' s' ↔ lk u f = lk v f' ∧ lk u s = lk v s' ∧ bd u f s = bd v f' s' := by
  have l1 := lk_lt hu f
  have l2 := lk_lt hu s
  have l4 := lk_lt hv f'
  have l5 := lk_lt hv s'
  rw [lcd_is hu, lcd_is hv]
  constructor
  · intro h; refine ⟨?_, ?_, ?_⟩ <;> omega
  · intro h; omega
theorem lk_iff {u v : Wd} (hu : wwf u) (hv : wwf v) {f f' : Nat} : lk u f = lk v f' ↔ u.2.1 f = v.2.1 f' ∧ eb u f f = eb v f' f' := lk_inj _ (hu.2.1 f) _ (hv.2.1 f') _ _
theorem bd_iff {u v : Wd} {f s f' s' : Nat} (h1 : f < u.1) (h2 : s < u.1) (h3 : f' < v.1) (h4 : s' < v.1) : bd u f s = bd v f' s' ↔ decide (f = s) = decide (f' = s') ∧ eb u f s = eb v f' s' ∧ eb u s f = eb v s' f' := by
  unfold bd
  rw [if_pos ⟨h1, h2⟩, if_pos ⟨h3, h4⟩]
  exact bd_inj _ _ _ _ _ _
theorem alk2 {u v : Wd} (hu : wwf u) (hv : wwf v) {f s f' s' : Nat} (h1 : f < u.1) (h2 : s < u.1) (h3 : f' < v.1) (h4 : s' < v.1) : alk u v [(s, s'), (f, f')] = true ↔ lk u f = lk v f' ∧ lk u s = lk v s' ∧ bd u f s = bd v f' s' := by
  rw [lk_iff hu hv, lk_iff hu hv, bd_iff h1 h2 h3 h4]
  simp only [alk, pla, pl1, List.all_cons, List.all_nil, Bool.and_true, Bool.true_and, Bool.and_eq_true, decide_eq_true_eq, beq_iff_eq]
  have e1 : decide (s = f) = decide (f = s) := decide_eq_decide.mpr ⟨Eq.symm, Eq.symm⟩
  have e2 : decide (s' = f') = decide (f' = s') := decide_eq_decide.mpr ⟨Eq.symm, Eq.symm⟩
  first
  | (rw [e1, e2]; constructor
     · intro h; simp_all
     · intro h; simp_all)
  | (constructor
     · intro h; simp_all
     · intro h; simp_all)
theorem fs_lt {b : Bool} {u v : Wd} {e : Nat} (he : e < itN b u v) : fT b u v e < (wdI b u v e).1 ∧ sT b u v e < (wdI b u v e).1 := by
  unfold itN at he
  have hl : lcI b u e < csz b (wdI b u v e).1 := by
    unfold lcI wdI
    by_cases hc : e < csz b u.1
    · rw [if_pos hc, if_pos hc]; exact hc
    · rw [if_neg hc, if_neg hc]; omega
  unfold fT sT
  cases b with
  | false => exact ⟨hl, hl⟩
  | true =>
    obtain ⟨d1, d2, d3⟩ := dv_mod (show lcI true u e < (wdI true u v e).1 * (wdI true u v e).1 from hl)
    exact ⟨d1, d2⟩
theorem sgS_is {b : Bool} {u v : Wd} {e : Nat} : sgS b u v e = (nI (if b = true then lcd (wdI b u v e) (fT b u v e) (sT b u v e) else lk (wdI b u v e) (fT b u v e))).toInt64 := by
  unfold sgS sgA fT sT lcI wdI
  by_cases hc : e < csz b u.1
  · simp only [if_pos hc]
    cases b <;> rfl
  · simp only [if_neg hc]
    cases b <;> rfl
theorem wdI_wf {b : Bool} {u v : Wd} (hu : wwf u) (hv : wwf v) (e : Nat) : wwf (wdI b u v e) := by
  unfold wdI
  split
  · exact hu
  · exact hv
theorem stS_alk {b : Bool} {u v : Wd} (hu : wwf u) (hv : wwf v) {e q : Nat} (he : e < itN b u v) (hq : q < itN b u v) : alk (wdI b u v e) (wdI b u v q) [(sT b u v e, sT b u v q), (fT b u v e, fT b u v q)] = stS b u v e q := by
  have w1 := wdI_wf (b := b) hu hv e
  have w2 := wdI_wf (b := b) hu hv q
  obtain ⟨f1, f2⟩ := fs_lt he
  obtain ⟨g1, g2⟩ := fs_lt hq
  refine bool_iff ?_
  rw [alk2 w1 w2 f1 f2 g1 g2]
  unfold stS
  rw [decide_eq_true_iff, sgS_is, sgS_is]
  cases b with
  | true =>
    have l1 := lcd_lt w1 (fT true u v e) (sT true u v e)
    have l2 := lcd_lt w2 (fT true u v q) (sT true u v q)
    rw [if_pos rfl, if_pos rfl, nI_l (by omega), nI_l (by omega), lN_eq (by omega) (by omega), lcd_eq w1 w2]
  | false =>
    have l1 := lk_lt w1 (fT false u v e)
    have l2 := lk_lt w2 (fT false u v q)
    have s1 : sT false u v e = fT false u v e := rfl
    have s2 : sT false u v q = fT false u v q := rfl
    rw [if_neg (by decide), if_neg (by decide), nI_l (by omega), nI_l (by omega), lN_eq (by omega) (by omega), s1, s2]
    constructor
    · intro h; exact h.1
    · intro h
      refine ⟨h, h, ?_⟩
      have := ((lk_iff w1 w2).mp h).2
      rw [bd_iff f1 f1 g1 g1]
      exact ⟨by rw [decide_eq_true rfl, decide_eq_true rfl], this, this⟩
theorem LT_ey {P : Nat → Nat → Prop} {b : Bool} {u v : Wd} {m : Nat} {M N : jM} (h : Ey P M N) (l : LT b u v m M) (h0 : ¬ P 65 52) (h1 : ∀ c k, c = 97 ∨ c = 98 ∨ c = 99 → ¬ P c k) : LT b u v m N := by
  obtain ⟨l1, l2⟩ := l
  refine ⟨by rw [ey_rI h h0, l1], fun e he => ?_⟩
  rw [ey_rI h (h1 97 e (Or.inl rfl)), ey_rI h (h1 98 e (Or.inr (Or.inl rfl))), ey_rI h (h1 99 e (Or.inr (Or.inr rfl)))]
  exact l2 e he
theorem m_startsAlike {ws : Nat → Wd} {b : Bool} {x y : Nat} (hf : WF ws) (hx : x < 6) (hy : y < 6) {M : jM} (h : Sh M) (a : MA ws M) (l : LT b (ws x) (ws y) (itN b (ws x) (ws y)) M) {e q : Nat} (he : e < itN b (ws x) (ws y)) (hq : q < itN b (ws x) (ws y)) : ∃ N, f_X12_startsAlike 65 (nI x) (nI y) (nI e) (nI q) M = some (bI (stS b (ws x) (ws y) e q), N) ∧ Ey PG M N := by
  have hN := itN_le (b := b) (hf x) (hf y)
  have core : ∀ c d, c < 6 → d < 6 → ws c = wdI b (ws x) (ws y) e → ws d = wdI b (ws x) (ws y) q → ∃ N, j_X12_startsAlike_30 65 (nI e) (nI q) 65 (nI c) (nI d) M = some (bI (stS b (ws x) (ws y) e q), N) ∧ Ey PG M N := by
    intro c d hc hd ec ed
    unfold j_X12_startsAlike_30
    obtain ⟨f1, f2⟩ := fs_lt he
    obtain ⟨g1, g2⟩ := fs_lt hq
    rw [← ec] at f1 f2
    rw [← ed] at g1 g2
    obtain ⟨N1, p1, p2, p3⟩ := n_begin (w1 := c) (w2 := d) h a
    have l1 := LT_ey p3 l (by unfold PG; omega) (fun c k hc => by unfold PG; omega)
    rw [jiv_n (t65 h), p1, jb2_some, q65_58 p2.1, Option.bind_some, ldI_n (t98 p2.1) (by omega) (by decide), Option.bind_some, (l1.2 e he).2.1, Option.bind_some, ldI_n (t98 p2.1) (by omega) (by decide), Option.bind_some, (l1.2 q hq).2.1, jiv_n (t65 p2.1)]
    obtain ⟨N2, s1, s2, s3⟩ := n_add p2 (by decide) (fT b (ws x) (ws y) e) (fT b (ws x) (ws y) q)
    have l2 := LT_ey s3 l1 (by unfold PG; omega) (fun c k hc => by unfold PG; omega)
    rw [s1, jb2_some, q65_59 s2.1, Option.bind_some, ldI_n (t99 s2.1) (by omega) (by decide), Option.bind_some, (l2.2 e he).2.2, Option.bind_some, ldI_n (t99 s2.1) (by omega) (by decide), Option.bind_some, (l2.2 q hq).2.2, jiv_n (t65 s2.1)]
    obtain ⟨N3, r1, r2, r3⟩ := n_add s2 (by simp) (sT b (ws x) (ws y) e) (sT b (ws x) (ws y) q)
    rw [r1, jb2_some, jiv_n (t65 r2.1), n_alike hf (show c < 8 by omega) (show d < 8 by omega) r2 (rv_cons (rv_cons rv_nil f1 g1) f2 g2), jb2_some, rZ_n, ec, ed, stS_alk (hf x) (hf y) he hq]
    exact ⟨N3, rfl, p3.tr (s3.tr r3)⟩
  have sel : ∀ z, z < itN b (ws x) (ws y) → (sdI b (ws x) z = 0 ∧ ws x = wdI b (ws x) (ws y) z) ∨ (sdI b (ws x) z = 1 ∧ ws y = wdI b (ws x) (ws y) z) := fun z _ => by
    unfold sdI wdI
    by_cases hc : z < csz b (ws x).1
    · rw [if_pos hc, if_pos hc]; exact Or.inl ⟨rfl, rfl⟩
    · rw [if_neg hc, if_neg hc]; exact Or.inr ⟨rfl, rfl⟩
  have mid : ∀ c, c < 6 → ws c = wdI b (ws x) (ws y) e → ∃ N, j_X12_startsAlike_15 65 (nI x) (nI y) (nI e) (nI q) 65 (nI c) M = some (bI (stS b (ws x) (ws y) e q), N) ∧ Ey PG M N := by
    intro c hc ec
    unfold j_X12_startsAlike_15
    rw [q65_57 h, Option.bind_some, ldI_n (t97 h) (by omega) (by decide), Option.bind_some, (l.2 q hq).1]
    rcases sel q hq with ⟨s1, s2⟩ | ⟨s1, s2⟩
    · rw [s1, if_pos (show nI 0 = 0 from rfl)]; exact core c x hc hx ec s2
    · rw [s1, if_neg (show ¬ nI 1 = 0 by decide)]; exact core c y hc hy ec s2
  unfold f_X12_startsAlike
  rw [q65_57 h, Option.bind_some, ldI_n (t97 h) (by omega) (by decide), Option.bind_some, (l.2 e he).1]
  rcases sel e he with ⟨s1, s2⟩ | ⟨s1, s2⟩
  · rw [s1, if_pos (show nI 0 = 0 from rfl)]; exact mid x hx s2
  · rw [s1, if_neg (show ¬ nI 1 = 0 by decide)]; exact mid y hy s2
