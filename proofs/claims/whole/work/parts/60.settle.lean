/-! COLOURS: the class settles. -/
/-- all items; their signatures at the start, and by colours -/
def itN (b : Bool) (u v : Wd) : Nat := csz b u.1 + csz b v.1
def sgS (b : Bool) (u v : Wd) (e : Nat) : Int64 := if e < csz b u.1 then sgA b u e else sgA b v (e - csz b u.1)
def sgM (b : Bool) (u v : Wd) (g : Nat → Nat) (e w : Nat) : Int64 := if e < csz b u.1 then sgN b u g e w else sgN b v (fun p => g (csz b u.1 + p)) (e - csz b u.1) w
def stS (b : Bool) (u v : Wd) (j i : Nat) : Bool := decide (sgS b u v j = sgS b u v i)
def stM (b : Bool) (u v : Wd) (g : Nat → Nat) (j i : Nat) : Bool := decide (g j = g i) && allB 4 (fun w => decide (sgM b u v g j w = sgM b u v g i w))
def cit (b : Bool) (u v : Wd) : Nat → Nat × (Nat → Nat)
  | 0 => rg (stS b u v) (itN b u v)
  | t + 1 => rg (stM b u v (cit b u v t).2) (itN b u v)
theorem csz_le {b : Bool} {n : Nat} (h : n ≤ 6) : csz b n ≤ 36 := by
  unfold csz
  split
  · exact Nat.mul_le_mul h h
  · omega
theorem itN_le {b : Bool} {u v : Wd} (hu : wwf u) (hv : wwf v) : itN b u v ≤ 72 := by
  have h1 := csz_le (b := b) hu.1
  have h2 := csz_le (b := b) hv.1
  unfold itN; omega
theorem cit_le {b : Bool} {u v : Wd} (t : Nat) : (cit b u v t).1 ≤ itN b u v ∧ ∀ q, q < itN b u v → (cit b u v t).2 q < (cit b u v t).1 := by
  cases t with
  | zero => exact rg_le _ _
  | succ t => exact rg_le _ _
def C3 (c : Nat) : Prop := c = 42 ∨ c = 43 ∨ c = 44
section L6
variable {u v : Wd} {b : Bool} {w1 w2 : Nat}
/-- one step, from the filling to the regrouping -/
theorem x_step (hu : wwf u) (hv : wwf v) (hw1 : 47 ≤ w1) (hw2 : 47 ≤ w2) {M : jM} (h : Sh M) (a1 : Wat M w1 u) (a2 : Wat M w2 v) {g : Nat → Nat} (hg7 : ∀ e, e < itN b u v → g e < 72) (hg : ∀ e, e < itN b u v → rI M 43 e = nI (g e)) (h4 : rI M 42 4 = nI (itN b u v)) (h5 : rI M 42 5 = nI (csz b u.1)) {τ : Type} {K : jM → jO τ} :
    ∃ N, (jb2 (f_J7_fill_d0a16 45 (0 : Int64) M) fun _ M3 => jb2 (jiv 1 M3 42 (f_X1_sign 42 w1 (nI 0) (bI b) M3)) fun _ M4 => (gI 1 M4 42 5).bind fun x5 => jb2 (jiv 1 M4 42 (f_X1_sign 42 w2 x5 (bI b) M4)) fun _ M6 => jb2 (jiv 1 M6 42 (f_X1_regroup 42 M6)) fun _ M7 => K M7) = K N ∧ El C3 M N ∧ (∀ k, k ≠ 6 → rI N 42 k = rI M 42 k) ∧ rI N 42 6 = nI (rg (stM b u v g) (itN b u v)).1 ∧ (∀ e, e < itN b u v → rI N 43 e = nI ((rg (stM b u v g) (itN b u v)).2 e)) := by
  have c1 := csz_le (b := b) hu.1
  have c2 := csz_le (b := b) hv.1
  have hN := itN_le (b := b) hu hv
  have hNd : itN b u v = csz b u.1 + csz b v.1 := rfl
  obtain ⟨M3, f1, f2, f3⟩ := fillL_n (x := 0) (by decide) (t45 h)
  have n0 : ∀ c, ¬ N0 c := fun _ => id
  have f2' : El N0 M M3 := f2
  have sh3 := Sh_el f2' h
  rw [f1, jb2_some, jiv_n (t42 sh3)]
  obtain ⟨M4, p1, p2, p3, p4⟩ := x_sign (base := 0) (b := b) (g := g) sh3 (Wat_el f2' a1 id id id) hu (by omega) (fun p hp => hg7 p (by omega)) (fun p hp => by rw [el_rI f2' id, Nat.zero_add]; exact hg p (by omega)) (fun p w hp hw => f3 _ (by omega))
  have e4 := f2'.tr p2
  have sh4 := Sh_el e4 h
  rw [p1, jb2_some, gI_n (t42 sh4), Option.bind_some, el_rI e4 id, h5, jiv_n (t42 sh4)]
  obtain ⟨M6, q1, q2, q3, q4⟩ := x_sign (base := csz b u.1) (b := b) (g := fun p => g (csz b u.1 + p)) sh4 (Wat_el e4 a2 id id id) hv (by omega) (fun p hp => hg7 _ (by omega)) (fun p hp => by rw [el_rI e4 id]; exact hg _ (by omega)) (fun p w hp hw => by
    rw [p4 _ (fun q x hq hx => by omega)]
    exact f3 _ (by omega))
  have e6 := e4.tr q2
  have sh6 := Sh_el e6 h
  rw [q1, jb2_some, jiv_n (t42 sh6)]
  have hsg : ∀ e w, e < itN b u v → w < 4 → rL M6 45 (4 * e + w) = sgM b u v g e w := fun e w he hw => by
    unfold sgM
    by_cases hc : e < csz b u.1
    · rw [if_pos hc, q4 _ (fun p x hp hx => by omega)]
      have := p3 e w hc hw
      rw [Nat.zero_add] at this
      exact this
    · rw [if_neg hc]
      have := q3 (e - csz b u.1) w (by omega) hw
      rw [show csz b u.1 + (e - csz b u.1) = e by omega] at this
      exact this
  obtain ⟨M7, r1, r2, r3, r4, r5⟩ := x_regroup (St := stM b u v g) sh6 hN (by rw [el_rI e6 id, h4]) (fun j q hj hq => by
    unfold stC sgB stM
    rw [el_rI e6 id, el_rI e6 id, hg j hj, hg q hq]
    have g1 := hg7 j hj
    have g2 := hg7 q hq
    have E1 : decide (nI (g j) = nI (g q)) = decide (g j = g q) := decide_eq_decide.mpr (nI_eq (by omega) (by omega))
    have E2 : allB 4 (fun w => decide (rL M6 45 (4 * j + w) = rL M6 45 (4 * q + w))) = allB 4 (fun w => decide (sgM b u v g j w = sgM b u v g q w)) := by
      refine bool_iff ?_
      rw [allB_iff, allB_iff]
      constructor
      · intro k w hw; have := k w hw; rw [hsg j w hj hw, hsg q w hq hw] at this; exact this
      · intro k w hw; rw [hsg j w hj hw, hsg q w hq hw]; exact k w hw
    rw [E1, E2])
  rw [r1, jb2_some]
  exact ⟨M7, rfl, (e6.mono (fun c hc => absurd hc id)).tr (El.of r2), fun k hk => by rw [r3 k hk, el_rI e6 id], r4, r5⟩
theorem settle_l (hu : wwf u) (hv : wwf v) (hw1 : 47 ≤ w1) (hw2 : 47 ≤ w2) {T : Nat} : ∀ (f t : Nat) (M : jM), Sh M → Wat M w1 u → Wat M w2 v → rI M 42 4 = nI (itN b u v) → rI M 42 5 = nI (csz b u.1) → rI M 42 6 = nI (cit b u v t).1 → rI M 42 7 = nI t → (∀ e, e < itN b u v → rI M 43 e = nI ((cit b u v t).2 e)) → t ≤ 72 → 72 - t < f → ff (fun t => decide ((cit b u v (t + 1)).1 = (cit b u v t).1)) t (72 - t) = some T →
    ∃ N, l_X1_settle_98 f 42 w1 w2 (bI b) (nI t) M = some (nI (cit b u v (T + 1)).1, N) ∧ El C3 M N ∧ rI N 42 4 = nI (itN b u v) ∧ rI N 42 5 = nI (csz b u.1) ∧ rI N 42 7 = nI T ∧ (∀ e, e < itN b u v → rI N 43 e = nI ((cit b u v (T + 1)).2 e)) := by
  have hN := itN_le (b := b) hu hv
  intro f
  induction f with
  | zero => intro t M _ _ _ _ _ _ _ _ _ q; omega
  | succ f ih =>
    intro t M h a1 a2 h4 h5 h6 h7 hg ht hf hT
    show ∃ N, b_X1_settle_98 (l_X1_settle_98 f) 42 w1 w2 (bI b) (nI t) M = _ ∧ _
    unfold b_X1_settle_98
    by_cases hc : 72 ≤ t
    · rw [show 72 - t = 0 by omega] at hT
      exact nomatch (show (none : Option Nat) = some T from hT)
    · have k1 := cit_le (b := b) (u := u) (v := v) t
      have k2 := cit_le (b := b) (u := u) (v := v) (t + 1)
      rw [if_neg (nI_ge (by omega) (by decide)), gI_n (t42 h), Option.bind_some, q42_2 h, Option.bind_some, h6]
      obtain ⟨N1, s1, s2, s3, s4, s5⟩ := x_step (b := b) (K := fun M7 => (gI 1 M7 42 6).bind fun x8 => if x8 = nI (cit b u v t).1 then j_X1_settle_168 42 M7 else (gI 1 M7 42 7).bind fun x9 => (pI 1 M7 42 7 (x9 + nI 1)).bind fun M10 => l_X1_settle_98 f 42 w1 w2 (bI b) (nI t + nI 1) M10) hu hv hw1 hw2 h a1 a2 (g := (cit b u v t).2) (fun e he => by have := k1.2 e he; omega) hg h4 h5
      rw [s1]
      have hN1 := Sh_el s2 h
      have s4' : rI N1 42 6 = nI (cit b u v (t + 1)).1 := s4
      show ∃ N, ((gI 1 N1 42 6).bind fun x8 => if x8 = nI (cit b u v t).1 then j_X1_settle_168 42 N1 else (gI 1 N1 42 7).bind fun x9 => (pI 1 N1 42 7 (x9 + nI 1)).bind fun M10 => l_X1_settle_98 f 42 w1 w2 (bI b) (nI t + nI 1) M10) = _ ∧ _
      rw [gI_n (t42 hN1), Option.bind_some, s4']
      rw [show 72 - t = (72 - (t + 1)) + 1 by omega] at hT
      unfold ff at hT
      by_cases he : (cit b u v (t + 1)).1 = (cit b u v t).1
      · rw [if_pos (decide_eq_true he)] at hT
        cases hT
        rw [if_pos (by rw [he])]
        unfold j_X1_settle_168
        rw [gI_n (t42 hN1), Option.bind_some, s4']
        exact ⟨N1, rfl, s2, by rw [s3 4 (by decide), h4], by rw [s3 5 (by decide), h5], by rw [s3 7 (by decide), h7], s5⟩
      · rw [if_neg (by rw [decide_eq_false he]; decide)] at hT
        rw [if_neg (fun q => he ((nI_eq (by omega) (by omega)).mp q)), gI_n (t42 hN1), Option.bind_some, s3 7 (by decide), h7, pI_n (t42 hN1), Option.bind_some, nI_add]
        have e2 : El C3 M (wI N1 42 7 (nI (t + 1))) := el_wI s2 (Or.inl rfl)
        have x3 : ∀ c, 45 ≤ c → ¬ C3 c := fun c hc => by unfold C3; omega
        obtain ⟨N, p1, p2, p3, p4, p5, p6⟩ := ih (t + 1) _ (Sh_el e2 h) (Wat_el e2 a1 (x3 _ (by omega)) (x3 _ (by omega)) (x3 _ (by omega))) (Wat_el e2 a2 (x3 _ (by omega)) (x3 _ (by omega)) (x3 _ (by omega))) (by rw [rI_wI, if_neg (by omega), s3 4 (by decide), h4]) (by rw [rI_wI, if_neg (by omega), s3 5 (by decide), h5]) (by rw [rI_wI, if_neg (by omega), s4']) (by rw [rI_wI, if_pos ⟨rfl, rfl⟩]) (fun e he => by rw [rI_wI, if_neg (by omega)]; exact s5 e he) (by omega) (by omega) hT
        exact ⟨N, p1, e2.tr p2, p3, p4, p5, p6⟩
theorem x_settle (hu : wwf u) (hv : wwf v) (hw1 : 47 ≤ w1) (hw2 : 47 ≤ w2) {T : Nat} {M : jM} (h : Sh M) (a1 : Wat M w1 u) (a2 : Wat M w2 v) (hT : ff (fun t => decide ((cit b u v (t + 1)).1 = (cit b u v t).1)) 0 72 = some T) :
    ∃ N, f_X1_settle 42 w1 w2 (bI b) M = some (nI (cit b u v (T + 1)).1, N) ∧ El C3 M N ∧ rI N 42 4 = nI (itN b u v) ∧ rI N 42 5 = nI (csz b u.1) ∧ rI N 42 7 = nI T ∧ (∀ e, e < itN b u v → rI N 43 e = nI ((cit b u v (T + 1)).2 e)) := by
  have c1 := csz_le (b := b) hu.1
  have c2 := csz_le (b := b) hv.1
  have hN := itN_le (b := b) hu hv
  have hNd : itN b u v = csz b u.1 + csz b v.1 := rfl
  have x3 : ∀ c, 45 ≤ c → ¬ C3 c := fun c hc => by unfold C3; omega
  have body : ∃ N, j_X1_settle_49 42 w1 w2 (bI b) 42 (nI (csz b u.1)) (nI (csz b v.1)) (wI M 42 5 (nI (csz b u.1))) = some (nI (cit b u v (T + 1)).1, N) ∧ El C3 M N ∧ rI N 42 4 = nI (itN b u v) ∧ rI N 42 5 = nI (csz b u.1) ∧ rI N 42 7 = nI T ∧ (∀ e, e < itN b u v → rI N 43 e = nI ((cit b u v (T + 1)).2 e)) := by
    unfold j_X1_settle_49
    generalize hM0 : wI M 42 5 (nI (csz b u.1)) = M0
    have e0 : El C3 M M0 := by rw [← hM0]; exact el_wI El.rf (Or.inl rfl)
    rw [pI_n (t42 (Sh_el e0 h)), Option.bind_some, nI_add]
    generalize hM1 : wI M0 42 4 (nI (csz b u.1 + csz b v.1)) = M1
    have e1 : El C3 M M1 := by rw [← hM1]; exact el_wI e0 (Or.inl rfl)
    rw [pI_n (t42 (Sh_el e1 h)), Option.bind_some]
    generalize hM2 : wI M1 42 7 (nI 0) = M2
    have e2 : El C3 M M2 := by rw [← hM2]; exact el_wI e1 (Or.inl rfl)
    have sh2 := Sh_el e2 h
    have v4 : rI M2 42 4 = nI (itN b u v) := by rw [← hM2, rI_wI, if_neg (by omega), ← hM1, rI_wI, if_pos ⟨rfl, rfl⟩, hNd]
    have v5 : rI M2 42 5 = nI (csz b u.1) := by rw [← hM2, rI_wI, if_neg (by omega), ← hM1, rI_wI, if_neg (by omega), ← hM0, rI_wI, if_pos ⟨rfl, rfl⟩]
    have v7 : rI M2 42 7 = nI 0 := by rw [← hM2, rI_wI, if_pos ⟨rfl, rfl⟩]
    rw [q42_0 sh2, Option.bind_some]
    obtain ⟨M4, f1, f2, f3⟩ := fill_n (x := nI 0) (by decide) (t43 sh2)
    have e4 : El C3 M M4 := e2.tr (El.of (f2.mono (fun c hc => Or.inr (Or.inl hc))))
    have sh4 := Sh_el e4 h
    rw [f1, jb2_some, q42_2 sh4, Option.bind_some]
    obtain ⟨M6, g1, g2, g3⟩ := fillL_n (x := 0) (by decide) (t45 sh4)
    have g2' : El N0 M4 M6 := g2
    have k4 : ∀ k, rI M6 42 k = rI M2 42 k := fun k => by rw [el_rI g2' id, ex_rI f2 (by decide)]
    have N0C : ∀ c, N0 c → C3 c := fun c hc => absurd hc id
    have e6 : El C3 M M6 := e4.tr (g2'.mono N0C)
    have sh6 := Sh_el e6 h
    rw [g1, jb2_some, jiv_n (t42 sh6)]
    obtain ⟨M7, p1, p2, p3, p4⟩ := x_lookAt (base := 0) (b := b) sh6 (Wat_el e6 a1 (x3 _ (by omega)) (x3 _ (by omega)) (x3 _ (by omega))) hu (by omega)
    have e7 : El C3 M M7 := e6.tr (p2.mono N0C)
    have sh7 := Sh_el e7 h
    rw [p1, jb2_some, gI_n (t42 sh7), Option.bind_some, el_rI p2 id, k4, v5, jiv_n (t42 sh7)]
    obtain ⟨M9, q1, q2, q3, q4⟩ := x_lookAt (base := csz b u.1) (b := b) sh7 (Wat_el e7 a2 (x3 _ (by omega)) (x3 _ (by omega)) (x3 _ (by omega))) hv (by omega)
    have e9 : El C3 M M9 := e7.tr (q2.mono N0C)
    have sh9 := Sh_el e9 h
    rw [q1, jb2_some, jiv_n (t42 sh9)]
    have k9 : ∀ k, rI M9 42 k = rI M2 42 k := fun k => by rw [el_rI q2 id, el_rI p2 id, k4]
    have hs0 : ∀ e, e < itN b u v → rL M9 45 (4 * e) = sgS b u v e := fun e he => by
      unfold sgS
      by_cases hc : e < csz b u.1
      · rw [if_pos hc, q4 _ (fun p hp => by omega)]
        have := p3 e hc
        rw [Nat.zero_add, g3 _ (by omega), Int64.zero_add] at this
        exact this
      · rw [if_neg hc]
        have := q3 (e - csz b u.1) (by omega)
        rw [show csz b u.1 + (e - csz b u.1) = e by omega, p4 _ (fun p hp => by omega), g3 _ (by omega), Int64.zero_add] at this
        exact this
    have hs1 : ∀ e w, e < itN b u v → 1 ≤ w → w < 4 → rL M9 45 (4 * e + w) = 0 := fun e w he h1 h2 => by
      rw [q4 _ (fun p hp => by omega), p4 _ (fun p hp => by omega)]
      exact g3 _ (by omega)
    have k43 : ∀ e, e < 72 → rI M9 43 e = nI 0 := fun e he => by rw [el_rI q2 id, el_rI p2 id, el_rI g2' id]; exact f3 e he
    obtain ⟨M10, r1, r2, r3, r4, r5⟩ := x_regroup (St := stS b u v) sh9 hN (by rw [k9, v4]) (fun j q hj hq => by
      unfold stC sgB stS
      rw [k43 j (by omega), k43 q (by omega), decide_eq_true (rfl : nI 0 = nI 0), Bool.true_and]
      refine bool_iff ?_
      rw [allB_iff, decide_eq_true_iff]
      constructor
      · intro k
        have := k 0 (by decide)
        rw [decide_eq_true_iff, Nat.add_zero, Nat.add_zero, hs0 j hj, hs0 q hq] at this
        exact this
      · intro k w hw
        rw [decide_eq_true_iff]
        by_cases w0 : w = 0
        · subst w0; rw [Nat.add_zero, Nat.add_zero, hs0 j hj, hs0 q hq]; exact k
        · rw [hs1 j w hj (by omega) hw, hs1 q w hq (by omega) hw])
    have e10 : El C3 M M10 := e9.tr (El.of r2)
    rw [r1, jb2_some]
    obtain ⟨n0, hn0⟩ := jF_is
    obtain ⟨N, s1, s2, s3, s4, s5, s6⟩ := settle_l (b := b) hu hv hw1 hw2 (T := T) jF0 0 M10 (Sh_el e10 h) (Wat_el e10 a1 (x3 _ (by omega)) (x3 _ (by omega)) (x3 _ (by omega))) (Wat_el e10 a2 (x3 _ (by omega)) (x3 _ (by omega)) (x3 _ (by omega))) (by rw [r3 4 (by decide), k9, v4]) (by rw [r3 5 (by decide), k9, v5]) r4 (by rw [r3 7 (by decide), k9, v7]) r5 (Nat.zero_le _) (by omega) hT
    exact ⟨N, s1, e10.tr s2, s3, s4, s5, s6⟩
  unfold f_X1_settle
  have e0 : El C3 M (wI M 42 5 (nI (csz b u.1))) := el_wI El.rf (Or.inl rfl)
  have sh0 := Sh_el e0 h
  have a2' := Wat_el e0 a2 (x3 _ (by omega)) (x3 _ (by omega)) (x3 _ (by omega))
  have r5 : rI (wI M 42 5 (nI (csz b u.1))) 42 5 = nI (csz b u.1) := by rw [rI_wI, if_pos ⟨rfl, rfl⟩]
  cases b with
  | false =>
    rw [if_pos (show bI false = 0 from rfl), jiv_n a1.1.1, w_size a1, jb2_some, show nI u.1 = nI (csz false u.1) from rfl]
    unfold j_X1_settle_21
    rw [pI_n (t42 h), Option.bind_some]
    rw [gI_n (t42 sh0), Option.bind_some, if_pos (show bI false = 0 from rfl), jiv_n a2'.1.1, w_size a2', jb2_some, r5]
    exact body
  | true =>
    rw [if_neg (show ¬ bI true = 0 by decide), jiv_n a1.1.1, w_size a1, jb2_some, jiv_n a1.1.1, w_size a1, jb2_some, nm_mul, show nI (u.1 * u.1) = nI (csz true u.1) from rfl]
    unfold j_X1_settle_21
    rw [pI_n (t42 h), Option.bind_some]
    rw [gI_n (t42 sh0), Option.bind_some, if_neg (show ¬ bI true = 0 by decide), jiv_n a2'.1.1, w_size a2', jb2_some, jiv_n a2'.1.1, w_size a2', jb2_some, r5, nm_mul]
    exact body
end L6
