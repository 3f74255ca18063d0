/-! COLOURS: the reference's call colour. -/
def PC (c k : Nat) : Prop := (c = 65 ∧ (k = 51 ∨ k = 53 ∨ k = 54)) ∨ PL c k ∨ PT c k
section Z3
variable {ws : Nat → Wd} {x y : Nat} {b : Bool} {M : jM}
theorem m_step0 (hf : WF ws) (hx : x < 6) (hy : y < 6) (h : Sh M) (a : MA ws M) (l : LT b (ws x) (ws y) (itN b (ws x) (ws y)) M) :
    ∃ N, f_X12_step 65 (nI x) (nI y) (bI b) (nI 1) M = some (nI (cit b (ws x) (ws y) 0).1, N) ∧ (∀ e, e < itN b (ws x) (ws y) → rI N 95 e = nI ((cit b (ws x) (ws y) 0).2 e)) ∧ Ey PT M N := by
  have hN := itN_le (b := b) (hf x) (hf y)
  obtain ⟨n0, hn0⟩ := jF_is
  have main := step_37 (by' := bI b) (v4 := nI 1) (St := stS b (ws x) (ws y)) hN h l.1 (fun N z e q he hq => by
    rw [if_neg (show ¬ nI 1 = 0 by decide)]
    exact m_startsAlike hf hx hy (Sh_ey z h) (MA_ey z a (fun c k hc => by unfold PS PG; omega)) (LT_ey z l (by unfold PS PG; omega) (fun c k hc => by unfold PS PG; omega)) he hq) (stS_eqv _ _ _)
  unfold f_X12_step
  rw [hn0]
  show ∃ N, b_X12_step_6 (l_X12_step_6 (n0 + 899999)) 65 (nI x) (nI y) (bI b) (nI 1) (nI 0) (nI 0) M = _ ∧ _
  unfold b_X12_step_6
  rw [gI_n (t65 h), Option.bind_some, if_neg (show ¬ nI 1 = 0 by decide), ite_self]
  exact main
theorem step_6 {u v : Wd} (hu : wwf u) (hv : wwf v) {g : Nat → Nat} (hg7 : ∀ e, e < itN true u v → g e < 72) {p q : Int32} : ∀ (f t : Nat) (M : jM), Sh M → LT true u v (itN true u v) M → (∀ e, e < itN true u v → rI M 95 e = nI (g e)) → t ≤ itN true u v → itN true u v - t < f → (∀ e, e < t → Ga u v g e (itN true u v) M) →
    ∃ N, l_X12_step_6 f 65 p q (nI 1) (nI 0) (nI 0) (nI t) M = j_X12_step_37 65 p q (nI 1) (nI 0) (nI 0) N ∧ El N0 M N ∧ (∀ e, e < itN true u v → Ga u v g e (itN true u v) N) := by
  have hN := itN_le (b := true) hu hv
  intro f
  induction f with
  | zero => intro t M _ _ _ _ k; omega
  | succ f ih =>
    intro t M h l hg ht hf ga
    show ∃ N, b_X12_step_6 (l_X12_step_6 f) 65 p q (nI 1) (nI 0) (nI 0) (nI t) M = _ ∧ _
    unfold b_X12_step_6
    rw [gI_n (t65 h), Option.bind_some, l.1]
    by_cases hc : itN true u v ≤ t
    · obtain rfl : t = itN true u v := by omega
      rw [if_pos (nI_le hc (by omega))]
      exact ⟨M, rfl, El.rf, ga⟩
    · rw [if_neg (nI_ge (by omega) (by omega)), if_pos (show nI 0 = 0 from rfl), if_pos rfl, jiv_n (t65 h)]
      obtain ⟨N1, p1, p2, p3, p4⟩ := m_gather hu hv hg7 (e := t) (by omega) h l hg
      rw [p1, jb2_some, nI_add]
      have e1 : Ez (fun _ _ => False) M N1 := ez_el p2
      obtain ⟨N, r1, r2, r3⟩ := ih (t + 1) N1 (Sh_el p2 h) (LT_ez e1 l id (fun _ _ _ => id)) (fun e he => by rw [el_rI p2 id]; exact hg e he) (by omega) (by omega) (fun e he => by
        by_cases hee : e = t
        · rw [hee]; exact p3
        · obtain ⟨g1, g2, g3, g4⟩ := ga e (by omega)
          exact ⟨by rw [p4 _ _ hee, g1], by rw [p4 _ _ hee, g2], by rw [p4 _ _ hee, g3], by rw [p4 _ _ hee, g4]⟩)
      exact ⟨N, r1, p2.tr r2, r3⟩
theorem m_stepS (hf : WF ws) (hx : x < 6) (hy : y < 6) (h : Sh M) (a : MA ws M) (l : LT b (ws x) (ws y) (itN b (ws x) (ws y)) M) {g : Nat → Nat} {K : Nat} (hK : K ≤ itN b (ws x) (ws y)) (hgK : ∀ e, e < itN b (ws x) (ws y) → g e < K) (hg : ∀ e, e < itN b (ws x) (ws y) → rI M 95 e = nI (g e)) (hk : rI M 65 51 = nI K) :
    ∃ N, f_X12_step 65 (nI x) (nI y) (bI b) (nI 0) M = some (nI (rg (stM b (ws x) (ws y) g) (itN b (ws x) (ws y))).1, N) ∧ (∀ e, e < itN b (ws x) (ws y) → rI N 95 e = nI ((rg (stM b (ws x) (ws y) g) (itN b (ws x) (ws y))).2 e)) ∧ Ez PT M N := by
  have hN := itN_le (b := b) (hf x) (hf y)
  obtain ⟨n0, hn0⟩ := jF_is
  unfold f_X12_step
  cases b with
  | false =>
    have h6 := (hf x).1
    have h62 := (hf y).1
    have h12 : itN false (ws x) (ws y) = (ws x).1 + (ws y).1 := rfl
    obtain ⟨N, p1, p2, p3⟩ := step_37 (by' := bI false) (v4 := nI 0) (St := stM false (ws x) (ws y) g) hN h l.1 (fun N z e q he hq => by
      rw [if_pos (show nI 0 = 0 from rfl)]
      exact ⟨N, m_stays0 hf hx hy (Sh_ey z h) (MA_ey z a (fun c k hc => by unfold PS PG; omega)) (LT_ey z l (by unfold PS PG; omega) (fun c k hc => by unfold PS PG; omega)) (by omega) hgK (fun e he => by rw [ey_rI z (by unfold PS PG; omega)]; exact hg e he) (by rw [ey_rI z (by unfold PS PG; omega)]; exact hk) he hq, Ey.rf⟩) (stM_eqv _ _ _ _)
    rw [hn0]
    show ∃ N, b_X12_step_6 (l_X12_step_6 (n0 + 899999)) 65 (nI x) (nI y) (bI false) (nI 0) (nI 0) (nI 0) M = _ ∧ _
    unfold b_X12_step_6
    rw [gI_n (t65 h), Option.bind_some, if_pos (show nI 0 = 0 from rfl), if_neg (show ¬ bI false = nI 1 by decide), ite_self]
    exact ⟨N, p1, p2, Ez.of p3⟩
  | true =>
    have hg7 : ∀ e, e < itN true (ws x) (ws y) → g e < 72 := fun e he => by have := hgK e he; omega
    obtain ⟨M1, p1, p2, p3⟩ := step_6 (p := nI x) (q := nI y) (hf x) (hf y) hg7 jF0 0 M h l hg (Nat.zero_le _) (by omega) (fun e he => absurd he (Nat.not_lt_zero e))
    have e1 : Ez (fun _ _ => False) M M1 := ez_el p2
    have l1 := LT_ez e1 l id (fun _ _ _ => id)
    have h1 := Sh_el p2 h
    obtain ⟨N, q1, q2, q3⟩ := step_37 (x := nI x) (y := nI y) (by' := nI 1) (v4 := nI 0) (St := stM true (ws x) (ws y) g) hN h1 l1.1 (fun N z e q he hq => by
      rw [if_pos (show nI 0 = 0 from rfl)]
      have gz : ∀ e, e < itN true (ws x) (ws y) → Ga (ws x) (ws y) g e (itN true (ws x) (ws y)) N := fun e he => by
        obtain ⟨g1, g2, g3, g4⟩ := p3 e he
        exact ⟨by rw [ey_rL z, g1], by rw [ey_rL z, g2], by rw [ey_rL z, g3], by rw [ey_rL z, g4]⟩
      exact ⟨N, m_stays1 hf (Sh_ey z h1) hg7 (fun e he => by rw [ey_rI z (by unfold PS PG; omega), el_rI p2 id]; exact hg e he) he hq (gz e he) (gz q hq), Ey.rf⟩) (stM_eqv _ _ _ _)
    refine ⟨N, p1.trans q1, q2, (ez_el p2).tr (Ez.of q3)⟩
theorem bal_17 {d : Co} {u v : Wd} (hd : d.1 = itN b u v) (hd2 : d.2.1 = csz b u.1) (hd7 : d.1 ≤ 72) (hc7 : ∀ e, e < d.1 → d.2.2.2 e < 72) {k4 : Nat → Int32 → Int32 → jM → jO Int32} {p : Bool} {c : Nat} (hc : c < 72) (h : Sh M) (l : LT b u v (itN b u v) M) (hg : ∀ e, e < d.1 → rI M 95 e = nI (d.2.2.2 e)) : ∀ (f e : Nat), e ≤ d.1 → d.1 - e < f →
    l_X12_areBalanced_17 k4 f 65 (bI p) (nI c) (sur d c e) (nI e) M = k4 65 (bI (p && decide (sur d c d.1 = 0))) (nI (c + 1)) M := by
  intro f
  induction f with
  | zero => intro e _ k; omega
  | succ f ih =>
    intro e he hf
    show b_X12_areBalanced_17 k4 (l_X12_areBalanced_17 k4 f) 65 (bI p) (nI c) (sur d c e) (nI e) M = _
    unfold b_X12_areBalanced_17 j_X12_areBalanced_77 j_X12_areBalanced_78 j_X12_areBalanced_57
    rw [gI_n (t65 h), Option.bind_some, l.1, ← hd, nI_add]
    by_cases hc : d.1 ≤ e
    · obtain rfl : e = d.1 := by omega
      rw [if_pos (nI_le hc (by omega))]
      cases p with
      | false => rw [if_pos (show bI false = 0 from rfl)]; rfl
      | true =>
        rw [if_neg (show ¬ bI true = 0 by decide)]
        by_cases hz : sur d c d.1 = 0
        · rw [if_pos hz, decide_eq_true hz]; rfl
        · rw [if_neg hz, decide_eq_false hz]; rfl
    · have k7 := hc7 e (by omega)
      have s1 : sur d c (e + 1) = sur d c e + (if d.2.2.2 e = c then (if e < d.2.1 then nI 1 else (-1 : Int32)) else nI 0) := rfl
      have ih' := ih (e + 1) (by omega) (by omega)
      rw [if_neg (nI_ge (by omega) (by omega)), q65_55 h, Option.bind_some, ldI_n (t95 h) (by omega) (by decide), Option.bind_some, hg e (by omega), nI_add]
      by_cases hcc : d.2.2.2 e = c
      · have li := (l.2 e (by omega)).1
        rw [if_pos (by rw [hcc]), q65_57 h, Option.bind_some, ldI_n (t97 h) (by omega) (by decide), Option.bind_some, li]
        rw [if_pos hcc, hd2] at s1
        unfold sdI
        by_cases hs : e < csz b u.1
        · rw [if_pos hs] at s1
          rw [if_pos hs, if_pos (show nI 0 = 0 from rfl)]
          show l_X12_areBalanced_17 k4 f 65 (bI p) (nI c) (sur d c e + nI 1) (nI (e + 1)) M = _
          rw [← s1]
          exact ih'
        · rw [if_neg hs] at s1
          rw [if_neg hs, if_neg (show ¬ nI 1 = 0 by decide)]
          show l_X12_areBalanced_17 k4 f 65 (bI p) (nI c) (sur d c e + (-1 : Int32)) (nI (e + 1)) M = _
          rw [← s1]
          exact ih'
      · rw [if_neg (fun k => hcc ((nI_eq (by omega) (by omega)).mp k))]
        rw [if_neg hcc] at s1
        show l_X12_areBalanced_17 k4 f 65 (bI p) (nI c) (sur d c e + nI 0) (nI (e + 1)) M = _
        rw [← s1]
        exact ih'
theorem bal_4 {d : Co} {u v : Wd} (hd : d.1 = itN b u v) (hd2 : d.2.1 = csz b u.1) (hd7 : d.1 ≤ 72) (hc7 : ∀ e, e < d.1 → d.2.2.2 e < 72) (h : Sh M) (l : LT b u v (itN b u v) M) (hg : ∀ e, e < d.1 → rI M 95 e = nI (d.2.2.2 e)) {K : Nat} (hK : K ≤ 72) (hk : rI M 65 51 = nI K) : ∀ (f c : Nat) (p : Bool), c ≤ K → K - c < f →
    l_X12_areBalanced_4 f 65 (bI p) (nI c) M = some (bI (p && allB K (fun k => decide (k < c) || decide (sur d k d.1 = 0))), M) := by
  obtain ⟨n0, hn0⟩ := jF_is
  intro f
  induction f with
  | zero => intro e _ _ k; omega
  | succ f ih =>
    intro c p hc hf
    show b_X12_areBalanced_4 (l_X12_areBalanced_4 f) 65 (bI p) (nI c) M = _
    unfold b_X12_areBalanced_4
    rw [gI_n (t65 h), Option.bind_some, hk]
    by_cases hcc : K ≤ c
    · rw [if_pos (nI_le hcc (by omega)), allB_end hcc, Bool.and_true]
      exact rZ_n
    · have := bal_17 hd hd2 hd7 hc7 (k4 := l_X12_areBalanced_4 f) (p := p) (c := c) (by omega) h l hg jF0 0 (Nat.zero_le _) (by omega)
      rw [show sur d c 0 = nI 0 from rfl] at this
      rw [if_neg (nI_ge (by omega) (by omega)), this, ih (c + 1) _ (by omega) (by omega), allB_at (i := c) (f := fun k => decide (sur d k d.1 = 0)) (by omega), Bool.and_assoc]
theorem m_balanced {d : Co} {u v : Wd} (hd : d.1 = itN b u v) (hd2 : d.2.1 = csz b u.1) (hd7 : d.1 ≤ 72) {K : Nat} (hK : K ≤ 72) (hgK : ∀ e, e < d.1 → d.2.2.2 e < K) (h : Sh M) (l : LT b u v (itN b u v) M) (hg : ∀ e, e < d.1 → rI M 95 e = nI (d.2.2.2 e)) (hk : rI M 65 51 = nI K) : f_X12_areBalanced 65 M = some (bI (bal d), M) := by
  obtain ⟨n0, hn0⟩ := jF_is
  unfold f_X12_areBalanced
  have := bal_4 hd hd2 hd7 (fun e he => by have := hgK e he; omega) h l hg hK hk jF0 0 true (Nat.zero_le _) (by omega)
  rw [allB_0, Bool.true_and, ← bal_K hK hgK] at this
  exact this
end Z3
