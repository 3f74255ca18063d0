/-! ASKING: the class's Asker. -/
theorem ev_pos (w : Wd) : ∀ (f : Fm) (so : Bool) (env : Nat → Nat) (q : Nat), 1 ≤ (ev w so env q f).2
  | .leaf c, so, env, q => Nat.le_refl _
  | .branch k l r, so, env, q => by
    have h1 := ev_pos w l so env q
    rw [ev]
    by_cases h0 : k = 0
    · rw [if_pos h0]
      split
      · exact h1
      · show 1 ≤ _ + _; omega
    · rw [if_neg h0]
      split
      · show 1 ≤ _ + 1; omega
      · split <;> (show 1 ≤ _ + 1; omega)
def AQ (nc wc LN : Nat) (w : Wd) (M : jM) : Prop := Sh M ∧ Wat M wc w ∧ tg M nc = (100, LN)
def AR (q n : Nat) (M N : jM) : Prop := Ex CA M N ∧ (∀ j, j ≤ q → rI N 37 j = rI M 37 j) ∧ rI N 36 2 = rI M 36 2 ∧ rI N 36 1 = nI n
def mc (n c : Nat) : Nat := min (n + c) 100001
section AK2
variable {w : Wd} {nc wc LN : Nat}
theorem AQ_ex {M N : jM} (hwc : 47 ≤ wc) (e : Ex CA M N) (h : AQ nc wc LN w M) : AQ nc wc LN w N := ⟨Sh_ex e h.1, Wat_ex e h.2.1 (by unfold CA; omega) (by unfold CA; omega) (by unfold CA; omega), by rw [ex_tg e]; exact h.2.2⟩
theorem AR_up {q n : Nat} {M M2 N : jM} (e : Ex CA M M2) (h1 : ∀ j, j ≤ q → rI M2 37 j = rI M 37 j) (h2 : rI M2 36 2 = rI M 36 2) (h : AR q n M2 N) : AR q n M N := ⟨e.tr h.1, fun j hj => by rw [h.2.1 j hj, h1 j hj], by rw [h.2.2.1, h2], h.2.2.2⟩
theorem AR_q {q q' n : Nat} {M N : jM} (hq : q ≤ q') (h : AR q' n M N) : AR q n M N := ⟨h.1, fun j hj => h.2.1 j (by omega), h.2.2⟩
/-- what ask does with a node once it has counted it -/
def askR (rec_ : Nat → Nat → Nat → Int32 → Int32 → jM → jO Int32) (nc wc : Nat) (v3 v4 x6 x8 : Int32) (M7 : jM) : jO Int32 :=
  if x8 = (nI 45) then
    jb2 (rec_ 36 nc wc (v3 + (nI 1)) (v4 + (nI 1)) M7) fun x10 M9 =>
    if x10 = 0 then rZ (nI 1) M9 else rZ (nI 0) M9
  else
    jb2 (f_X4_isList x8 M7) fun x12 M11 =>
    if x12 = 0 then
      jb2 (f_X4_isQuantifier x8 M11) fun x14 M13 =>
      if x14 = 0 then
        jb2 (f_X4_firstOf x6 M13) fun x16 M15 =>
        jb2 (jiv 0 M15 36 (f_X0_thingOf 36 x16 M15)) fun x18 M17 =>
        jb2 (f_X4_secondOf x6 M17) fun x20 M19 =>
        jb2 (jiv 0 M19 36 (f_X0_thingOf 36 x20 M19)) fun x22 M21 =>
        jb2 (jiv 8 M21 wc (f_X9_holdsAtom wc x8 x18 x22 M21)) fun x24 M23 =>
        rZ x24 M23
      else
        if x8 = (nI 63) then j_X0_ask_133 rec_ 36 nc wc v3 v4 (nI 1) M13 else j_X0_ask_133 rec_ 36 nc wc v3 v4 (nI 0) M13
    else
      if x8 = (nI 124) then j_X0_ask_103 rec_ 36 nc wc v3 v4 (nI 1) M11 else j_X0_ask_103 rec_ 36 nc wc v3 v4 (nI 0) M11
theorem ask_go {M : jM} {rec_ : Nat → Nat → Nat → Int32 → Int32 → jM → jO Int32} (hwc : 47 ≤ wc) (hL : LN ≤ 800) (h : AQ nc wc LN w M) {n at' deep c : Nat} (hn : rI M 36 1 = nI n) (h1 : n + 1 ≤ 100000) (ha : at' < LN) (hd : deep ≤ 30) (hc : c < 2 ^ 31) (hg : rI M nc at' = nI c) (hnc : 104 ≤ nc) :
    g_X0_ask rec_ 36 nc wc (nI at') (nI deep) M = askR rec_ nc wc (nI at') (nI deep) (nI c) (nI (c % 256)) (wI M 36 1 (nI (n + 1))) := by
  have e1 : Ex CA M (wI M 36 1 (nI (n + 1))) := ex_wI Ex.rf (Or.inl rfl)
  have h2 := AQ_ex hwc e1 h
  unfold g_X0_ask
  rw [gI_n (t36 h.1), Option.bind_some, hn, nI_add, pI_n (t36 h.1), Option.bind_some, jiv_n (t36 h2.1), a_spent h2.1 (n := n + 1) (by rw [rI_wI, if_pos ⟨rfl, rfl⟩]) (by omega), jb2_some, decide_eq_false (by omega), if_pos (show bI false = 0 from rfl), if_neg (nI_pos (by omega)), ln_n h2.2.2 (by decide) (by decide), Option.bind_some, if_neg (nI_ge ha (by omega)), if_pos (nI_le hd (by decide)), ldI_n h2.2.2 ha (by omega), Option.bind_some, rI_wI, if_neg (by omega), hg, n_sign hc, jb2_some]
  unfold askR
  rw [jiv_n (t36 h2.1)]
theorem ask_spent {M : jM} {rec_ : Nat → Nat → Nat → Int32 → Int32 → jM → jO Int32} (h : AQ nc wc LN w M) (hwc : 47 ≤ wc) {n : Nat} {x y : Int32} (hn : rI M 36 1 = nI n) (h1 : n = 100000) : g_X0_ask rec_ 36 nc wc x y M = some (bI false, wI M 36 1 (nI (n + 1))) := by
  have e1 : Ex CA M (wI M 36 1 (nI (n + 1))) := ex_wI Ex.rf (Or.inl rfl)
  have h2 := AQ_ex hwc e1 h
  unfold g_X0_ask
  rw [gI_n (t36 h.1), Option.bind_some, hn, nI_add, pI_n (t36 h.1), Option.bind_some, jiv_n (t36 h2.1), a_spent h2.1 (n := n + 1) (by rw [rI_wI, if_pos ⟨rfl, rfl⟩]) (by omega), jb2_some, decide_eq_true (by omega), if_neg (show ¬ bI true = 0 by decide)]
  rfl
/-- what ask is to do for a formula, and the loop over parts for a row of parts -/
def AP (nc wc LN : Nat) (w : Wd) (q : Nat) (f : Fm) : Prop := ∀ (so : Bool) (env : Nat → Nat) (d deep at' n : Nat) (M : jM), AQ nc wc LN w M → dp f < d → deep + dp f ≤ 30 → at' + sz f ≤ LN → Nx (rI M nc) at' q f → (∀ j, 1 ≤ j → j ≤ q → rI M 37 j = nI (env j)) → (∀ j, env j < 6) → rI M 36 1 = nI n → n ≤ 100000 →
  ∃ r N, f_X0_ask d 36 nc wc (nI at') (nI deep) M = some (bI r, N) ∧ AR q (mc n (ev w so env q f).2) M N ∧ (n + (ev w so env q f).2 ≤ 100000 → r = (ev w so env q f).1)
def AB (nc wc LN : Nat) (w : Wd) (q : Nat) (f : Fm) : Prop := ∀ (so : Bool) (env : Nat → Nat) (d g deep at' n : Nat) (M : jM), AQ nc wc LN w M → dp f < d → deep + 1 + dp f ≤ 30 → at' + sz f ≤ LN → Nx (rI M nc) at' q f → (∀ j, 1 ≤ j → j ≤ q → rI M 37 j = nI (env j)) → (∀ j, env j < 6) → rI M 36 1 = nI n → n ≤ 100000 → sz f < g →
  ∃ r N, l_X0_askParts_32 (f_X0_ask d) g 36 nc wc (nI deep) (bI so) (nI (at' + sz f)) (nI at') M = some (bI r, N) ∧ AR q (mc n (ev w so env q f).2) M N ∧ (n + (ev w so env q f).2 ≤ 100000 → r = (ev w so env q f).1)
theorem mc_le {n c : Nat} (h : n + c ≤ 100000) : mc n c = n + c := by unfold mc; omega
theorem mc_ge {n c : Nat} (h : ¬ n + c ≤ 100000) : mc n c = 100001 := by unfold mc; omega
theorem mc_1 {n c : Nat} (h : n + 1 ≤ 100000) : mc (n + 1) c = mc n (c + 1) := by unfold mc; omega
/-- the start of each case: nothing left, or on with the node -/
theorem ap_start {q n c at' deep d : Nat} {f : Fm} {so : Bool} {env : Nat → Nat} {M : jM} (hwc : 47 ≤ wc) (hL : LN ≤ 800) (hnc : 104 ≤ nc) (h : AQ nc wc LN w M) (hn : rI M 36 1 = nI n) (h1 : n ≤ 100000) (ha : at' < LN) (hd : deep ≤ 30) (hc : c < 2 ^ 31) (hg : rI M nc at' = nI c)
    (go : n + 1 ≤ 100000 → ∀ M2, AQ nc wc LN w M2 → Ex CA M M2 → (∀ j, rI M2 37 j = rI M 37 j) → rI M2 36 1 = nI (n + 1) → ∃ r N, askR (f_X0_ask d) nc wc (nI at') (nI deep) (nI c) (nI (c % 256)) M2 = some (bI r, N) ∧ AR q (mc n (ev w so env q f).2) M2 N ∧ (n + (ev w so env q f).2 ≤ 100000 → r = (ev w so env q f).1)) :
    ∃ r N, f_X0_ask (d + 1) 36 nc wc (nI at') (nI deep) M = some (bI r, N) ∧ AR q (mc n (ev w so env q f).2) M N ∧ (n + (ev w so env q f).2 ≤ 100000 → r = (ev w so env q f).1) := by
  have e1 : Ex CA M (wI M 36 1 (nI (n + 1))) := ex_wI Ex.rf (Or.inl rfl)
  have hp := ev_pos w f so env q
  have k37 : ∀ j, rI (wI M 36 1 (nI (n + 1))) 37 j = rI M 37 j := fun j => by rw [rI_wI, if_neg (by omega)]
  have k2 : rI (wI M 36 1 (nI (n + 1))) 36 2 = rI M 36 2 := by rw [rI_wI, if_neg (by omega)]
  have k1 : rI (wI M 36 1 (nI (n + 1))) 36 1 = nI (n + 1) := by rw [rI_wI, if_pos ⟨rfl, rfl⟩]
  show ∃ r N, g_X0_ask (f_X0_ask d) 36 nc wc (nI at') (nI deep) M = _ ∧ _
  by_cases hc2 : n + 1 ≤ 100000
  · rw [ask_go hwc hL h hn hc2 ha hd hc hg hnc]
    obtain ⟨r, N, p1, p2, p3⟩ := go hc2 _ (AQ_ex hwc e1 h) e1 k37 k1
    exact ⟨r, N, p1, AR_up e1 (fun j _ => k37 j) k2 p2, p3⟩
  · rw [ask_spent h hwc hn (by omega)]
    refine ⟨false, _, rfl, ⟨e1, fun j _ => k37 j, k2, ?_⟩, fun z => by omega⟩
    rw [k1, mc_ge (by omega), show n + 1 = 100001 by omega]
end AK2
