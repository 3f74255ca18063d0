/-! ASKING: the class's Asker, node by node. -/
section AK3
variable {M : jM} {w : Wd} {nc wc LN : Nat}
theorem a_atom1 (h : Wat M wc w) (hw : wwf w) {s a : Nat} {y : Int32} (hs : s = 65 ∨ s = 66) (ha : a < 6) : f_X9_holdsAtom wc (nI s) (nI a) y M = some (bI (if s = 65 then (w.2.1 a).testBit 0 else (w.2.1 a).testBit 1), M) := by
  have m4 := hw.2.1 a
  unfold f_X9_holdsAtom
  rcases hs with rfl | rfl
  · rw [if_neg (by decide), if_pos rfl, if_pos rfl, jiv_n h.1.1, w_marksOf h hw (by omega), jb2_some, nI_and]
    revert m4
    generalize w.2.1 a = x
    intro m4
    rcases (show x = 0 ∨ x = 1 ∨ x = 2 ∨ x = 3 by omega) with rfl | rfl | rfl | rfl <;> rfl
  · rw [if_neg (by decide), if_neg (by decide), if_pos rfl, if_neg (by decide), jiv_n h.1.1, w_marksOf h hw (by omega), jb2_some, nI_and]
    revert m4
    generalize w.2.1 a = x
    intro m4
    rcases (show x = 0 ∨ x = 1 ∨ x = 2 ∨ x = 3 by omega) with rfl | rfl | rfl | rfl <;> rfl
theorem a_atom0 {s : Nat} {x y : Int32} (hs : s = 84 ∨ s = 70) : f_X9_holdsAtom wc (nI s) x y M = some (bI (decide (s = 84)), M) := by
  unfold f_X9_holdsAtom j_X9_holdsAtom_102
  rcases hs with rfl | rfl
  · rw [if_neg (by decide), if_neg (by decide), if_neg (by decide), if_neg (by decide), if_pos rfl]; rfl
  · rw [if_neg (by decide), if_neg (by decide), if_neg (by decide), if_neg (by decide), if_neg (by decide)]; rfl
theorem ap_atom (hw : wwf w) (hwc : 47 ≤ wc) (hL : LN ≤ 800) (hnc : 104 ≤ nc) {q c : Nat} (hq : q ≤ 8) (ok : aok q c) : AP nc wc LN w q (.leaf c) := by
  intro so env d deep at' n M h hd hdd hat hN he he6 hn h1
  obtain ⟨d, rfl⟩ : ∃ d', d = d' + 1 := ⟨d - 1, by omega⟩
  have hc : c < 65536 := by rcases ok with ⟨s, a, hs, ha, hb, rfl⟩ | ⟨s, a, b, hs, ha, hb, hc, hd, rfl⟩ | rfl | rfl <;> omega
  have hat' : at' < LN := by simp only [sz] at hat; omega
  refine ap_start hwc hL hnc h hn h1 hat' (by omega) (by omega) (show rI M nc at' = nI (c + 65536) from hN) (fun h2 M2 q2 e2 k37 k1 => ?_)
  have c1 : (c + 65536) % 256 = aS c := by unfold aS; omega
  have c2 : (c + 65536) / 256 % 16 = aA c := by unfold aA; omega
  have c3 : (c + 65536) / 4096 % 16 = aB c := by unfold aB; rcases ok with ⟨s, a, hs, ha, hb, rfl⟩ | ⟨s, a, b, hs, ha, hb, hc, hd, rfl⟩ | rfl | rfl <;> omega
  have sg : aS c = 65 ∨ aS c = 66 ∨ aS c = 69 ∨ aS c = 61 ∨ aS c = 84 ∨ aS c = 70 := by unfold aS; rcases ok with ⟨s, a, hs, ha, hb, rfl⟩ | ⟨s, a, b, hs, ha, hb, hc, hd, rfl⟩ | rfl | rfl <;> omega
  have b1 : aA c < 9 := by unfold aA; rcases ok with ⟨s, a, hs, ha, hb, rfl⟩ | ⟨s, a, b, hs, ha, hb, hc, hd, rfl⟩ | rfl | rfl <;> omega
  have b2 : aB c < 9 := by unfold aB; rcases ok with ⟨s, a, hs, ha, hb, rfl⟩ | ⟨s, a, b, hs, ha, hb, hc, hd, rfl⟩ | rfl | rfl <;> omega
  have s1 : f_X9_holdsAtom wc (nI (aS c)) (rI M2 37 (aA c)) (rI M2 37 (aB c)) M2 = some (bI (atv w env c), M2) := by
    unfold atv
    rcases ok with ⟨s, a, hs, ha, hb, hcc⟩ | ⟨s, a, b, hs, ha, hb, hb1, hb2, hcc⟩ | hcc | hcc
    · have z1 : aS c = s := by unfold aS; omega
      have z2 : aA c = a := by unfold aA; omega
      rw [z1, z2, k37 a, he a ha hb, a_atom1 q2.2.1 hw hs (he6 a)]
      rcases hs with rfl | rfl <;> rfl
    · have z1 : aS c = s := by unfold aS; omega
      have z2 : aA c = a := by unfold aA; omega
      have z3 : aB c = b := by unfold aB; omega
      rw [z1, z2, z3, k37 a, he a ha hb, k37 b, he b hb1 hb2, a_atom q2.2.1 hw (by omega) (he6 a) (he6 b)]
    · have z1 : aS c = 84 := by unfold aS; omega
      rw [z1, a_atom0 (Or.inl rfl)]
      rfl
    · have z1 : aS c = 70 := by unfold aS; omega
      rw [z1, a_atom0 (Or.inr rfl)]
      rfl
  have hQ : isQ (aS c) = false := by unfold isQ; rcases sg with z | z | z | z | z | z <;> rw [z] <;> decide
  refine ⟨atv w env c, M2, ?_, ⟨Ex.rf, fun _ _ => rfl, rfl, ?_⟩, fun _ => rfl⟩
  · unfold askR
    rw [c1, if_neg (fun z => by have := (nI_eq (by omega) (by decide)).mp z; omega), n_isList (by omega), jb2_some, decide_eq_false (by omega), if_pos (show bI false = 0 from rfl), n_isQ (by omega), jb2_some, hQ, if_pos (show bI false = 0 from rfl), n_first (by omega), jb2_some, c2, jiv_n (t36 q2.1), a_thing q2.1 b1, jb2_some, n_second (by omega), jb2_some, c3, jiv_n (t36 q2.1), a_thing q2.1 b2, jb2_some, jiv_n q2.2.1.1.1, s1, jb2_some]
    exact rZ_n
  · rw [k1]
    show nI (n + 1) = nI (mc n 1)
    rw [mc_le (by omega)]
theorem ap_not (hwc : 47 ≤ wc) (hL : LN ≤ 800) (hnc : 104 ≤ nc) {q : Nat} {l : Fm} (ih : AP nc wc LN w q l) : AP nc wc LN w q (.branch 45 l (.leaf 0)) := by
  intro so env d deep at' n M h hd hdd hat hN he he6 hn h1
  obtain ⟨d, rfl⟩ : ∃ d', d = d' + 1 := ⟨d - 1, by omega⟩
  rw [dp_u (by decide)] at hd hdd
  rw [sz_u (by decide)] at hat
  rw [Nx_n] at hN
  have hz := sz_pos l
  refine ap_start hwc hL hnc h hn h1 (by omega) (by omega) (by omega) hN.1 (fun h2 M2 q2 e2 k37 k1 => ?_)
  have c1 : (45 + 65536 * (sz l + 1)) % 256 = 45 := by omega
  obtain ⟨r, N, p1, p2, p3⟩ := ih so env d (deep + 1) (at' + 1) (n + 1) M2 q2 (by omega) (by omega) (by omega) (Nx_congr l (at' + 1) (at' + 1) q (fun i _ => ex_rI e2 (by unfold CA; omega) _) hN.2) (fun j ja jb => by rw [k37 j]; exact he j ja jb) he6 k1 h2
  rw [ev_n]
  refine ⟨!r, N, ?_, by rw [← mc_1 h2]; exact p2, fun z => ?_⟩
  · unfold askR
    rw [c1, if_pos rfl, nI_add, nI_add, p1, jb2_some]
    cases r <;> rfl
  · show (!r) = !(ev w so env q l).1
    rw [p3 (by have : n + ((ev w so env q l).2 + 1) ≤ 100000 := z; omega)]
theorem ap_list (hwc : 47 ≤ wc) (hL : LN ≤ 800) (hnc : 104 ≤ nc) {q k : Nat} {l : Fm} (hk : k = 38 ∨ k = 124) (ih : AB nc wc LN w q l) : AP nc wc LN w q (.branch k l (.leaf 0)) := by
  intro so env d deep at' n M h hd hdd hat hN he he6 hn h1
  obtain ⟨d, rfl⟩ : ∃ d', d = d' + 1 := ⟨d - 1, by omega⟩
  obtain ⟨n0, hn0⟩ := jF_is
  rw [dp_u (by omega)] at hd hdd
  rw [sz_u (by omega)] at hat
  rw [Nx_l hk] at hN
  have hz := sz_pos l
  refine ap_start hwc hL hnc h hn h1 (by omega) (by omega) (by omega) hN.1 (fun h2 M2 q2 e2 k37 k1 => ?_)
  have c1 : (k + 65536 * (sz l + 1)) % 256 = k := by omega
  have g1 : rI M2 nc at' = nI (k + 65536 * (sz l + 1)) := by rw [ex_rI e2 (by unfold CA; omega)]; exact hN.1
  obtain ⟨r, N, p1, p2, p3⟩ := ih (decide (k = 124)) env d jF0 deep (at' + 1) (n + 1) M2 q2 (by omega) (by omega) (by omega) (Nx_congr l (at' + 1) (at' + 1) q (fun i _ => ex_rI e2 (by unfold CA; omega) _) hN.2) (fun j ja jb => by rw [k37 j]; exact he j ja jb) he6 k1 h2 (by omega)
  rw [ev_l hk]
  refine ⟨r, N, ?_, by rw [← mc_1 h2]; exact p2, fun z => p3 (by have : n + ((ev w (decide (k = 124)) env q l).2 + 1) ≤ 100000 := z; omega)⟩
  have fin : j_X0_ask_103 (f_X0_ask d) 36 nc wc (nI at') (nI deep) (bI (decide (k = 124))) M2 = some (bI r, N) := by
    unfold j_X0_ask_103 f_X0_askParts
    rw [jiv_n (t36 q2.1), if_neg (nI_pos (by omega)), ln_n q2.2.2 (by decide) (by decide), Option.bind_some, if_pos (nI_lt (by omega) (by omega)), Option.bind_some, ldI_n q2.2.2 (by omega) (by omega), Option.bind_some, g1, n_span (by omega) (by omega) (by omega), jb2_some, nI_add, jmn_n (by omega) (by omega), Nat.min_eq_right (by omega), nI_add]
    show jb2 (l_X0_askParts_32 (f_X0_ask d) jF0 36 nc wc (nI deep) (bI (decide (k = 124))) (nI (at' + (sz l + 1))) (nI (at' + 1)) M2) _ = _
    rw [show at' + (sz l + 1) = at' + 1 + sz l by omega, p1, jb2_some]
    exact rZ_n
  unfold askR
  rw [c1, if_neg (fun z => by have := (nI_eq (by omega) (by decide)).mp z; omega), n_isList (by omega), jb2_some, decide_eq_true hk, if_neg (show ¬ bI true = 0 by decide)]
  rcases hk with rfl | rfl
  · rw [if_neg (by decide)]; exact fin
  · rw [if_pos rfl]; exact fin
theorem ask_81 {rec_ : Nat → Nat → Nat → Int32 → Int32 → jM → jO Int32} {so : Bool} : j_X0_askParts_81 rec_ (bI so) M = some (bI (!so), M) := by
  unfold j_X0_askParts_81
  cases so <;> rfl
/-- one part is asked; then the loop ends, or goes on with the next -/
theorem ab_step (hwc : 47 ≤ wc) (hL : LN ≤ 800) {q : Nat} {l : Fm} (hwl : wf 0 q l) (ih : AP nc wc LN w q l) {so : Bool} {env : Nat → Nat} {d g deep at' e n : Nat} {M : jM} (h : AQ nc wc LN w M) (hd : dp l < d) (hdd : deep + 1 + dp l ≤ 30) (hat : at' + sz l ≤ LN) (he' : at' < e) (heL : e ≤ LN) (hN : Nx (rI M nc) at' q l) (he : ∀ j, 1 ≤ j → j ≤ q → rI M 37 j = nI (env j)) (he6 : ∀ j, env j < 6) (hn : rI M 36 1 = nI n) (h1 : n ≤ 100000) (hnc : 104 ≤ nc) :
    ∃ r N, AR q (mc n (ev w so env q l).2) M N ∧ (n + (ev w so env q l).2 ≤ 100000 → r = (ev w so env q l).1) ∧ l_X0_askParts_32 (f_X0_ask d) (g + 1) 36 nc wc (nI deep) (bI so) (nI e) (nI at') M = if r = so then some (bI so, N) else l_X0_askParts_32 (f_X0_ask d) g 36 nc wc (nI deep) (bI so) (nI e) (nI (at' + sz l)) N := by
  have hz := sz_pos l
  obtain ⟨r, N, p1, p2, p3⟩ := ih so env d (deep + 1) at' n M h hd (by omega) hat hN he he6 hn h1
  refine ⟨r, N, p2, p3, ?_⟩
  show b_X0_askParts_32 (f_X0_ask d) (l_X0_askParts_32 (f_X0_ask d) g) 36 nc wc (nI deep) (bI so) (nI e) (nI at') M = _
  unfold b_X0_askParts_32
  have hN' := AQ_ex hwc p2.1 h
  rw [if_neg (nI_ge he' (by omega)), jiv_n (t36 h.1), a_spent h.1 hn (by omega), jb2_some, decide_eq_false (by omega), if_pos (show bI false = 0 from rfl), nI_add, jiv_n (t36 h.1), p1, jb2_some]
  by_cases hr : r = so
  · rw [if_pos (by rw [hr]), if_pos hr]; exact rZ_n
  · obtain ⟨c, hc1, hc2⟩ := Nx_head (by decide) (wf0_nb hwl) hwl hN
    rw [if_neg (fun z => hr (bI_e.mp z)), if_neg hr, ldI_n hN'.2.2 (by omega) (by omega), Option.bind_some, ex_rI p2.1 (by unfold CA; omega), hc1, n_span hz (by omega) hc2, jb2_some, nI_add]
    rfl
theorem ab_end {rec_ : Nat → Nat → Nat → Int32 → Int32 → jM → jO Int32} {so : Bool} {g deep e at' : Nat} (he : e ≤ at') (ha : at' < 2 ^ 31) : l_X0_askParts_32 rec_ (g + 1) 36 nc wc (nI deep) (bI so) (nI e) (nI at') M = some (bI (!so), M) := by
  show b_X0_askParts_32 rec_ (l_X0_askParts_32 rec_ g) 36 nc wc (nI deep) (bI so) (nI e) (nI at') M = _
  unfold b_X0_askParts_32
  rw [if_pos (nI_le he ha)]
  exact ask_81
theorem ab_stop {rec_ : Nat → Nat → Nat → Int32 → Int32 → jM → jO Int32} (h : Sh M) (hn : rI M 36 1 = nI 100001) {so : Bool} {g deep e at' : Nat} : l_X0_askParts_32 rec_ (g + 1) 36 nc wc (nI deep) (bI so) (nI e) (nI at') M = some (bI (!so), M) := by
  show b_X0_askParts_32 rec_ (l_X0_askParts_32 rec_ g) 36 nc wc (nI deep) (bI so) (nI e) (nI at') M = _
  unfold b_X0_askParts_32
  rw [jiv_n (t36 h), a_spent h hn (by decide), jb2_some, decide_eq_true (by decide), if_neg (show ¬ bI true = 0 by decide), ask_81, ite_self]
theorem ab_one (hwc : 47 ≤ wc) (hL : LN ≤ 800) (hnc : 104 ≤ nc) {q : Nat} {l : Fm} (hwl : wf 0 q l) (ih : AP nc wc LN w q l) : AB nc wc LN w q l := by
  intro so env d g deep at' n M h hd hdd hat hN he he6 hn h1 hg
  have hz := sz_pos l
  obtain ⟨g, rfl⟩ : ∃ g', g = g' + 1 + 1 := ⟨g - 2, by omega⟩
  obtain ⟨r, N, p1, p2, p3⟩ := ab_step (g := g + 1) hwc hL hwl ih (so := so) h hd hdd hat (show at' < at' + sz l by omega) hat hN he he6 hn h1 hnc
  rw [p3]
  by_cases hr : r = so
  · rw [if_pos hr]; exact ⟨so, N, rfl, p1, fun z => by rw [← p2 z, hr]⟩
  · rw [if_neg hr, ab_end (Nat.le_refl _) (by omega)]
    refine ⟨!so, N, rfl, p1, fun z => ?_⟩
    rw [← p2 z]
    cases r <;> cases so <;> first | rfl | exact absurd rfl hr
theorem ab_cons (hwc : 47 ≤ wc) (hL : LN ≤ 800) (hnc : 104 ≤ nc) {q : Nat} {l r : Fm} (hwl : wf 0 q l) (ih : AP nc wc LN w q l) (ih2 : AB nc wc LN w q r) : AB nc wc LN w q (.branch 0 l r) := by
  intro so env d g deep at' n M h hd hdd hat hN he he6 hn h1 hg
  have hz := sz_pos l
  have hz2 := sz_pos r
  rw [sz_c] at hat hg
  rw [dp_c] at hd hdd
  rw [Nx_c] at hN
  obtain ⟨g, rfl⟩ : ∃ g', g = g' + 1 := ⟨g - 1, by omega⟩
  obtain ⟨b, N, p1, p2, p3⟩ := ab_step (g := g) (d := d) (deep := deep) (e := at' + (sz l + sz r)) hwc hL hwl ih (so := so) h (by omega) (by omega) (by omega) (by omega) hat hN.1 he he6 hn h1 hnc
  rw [sz_c, p3, ev_c]
  have hN' := AQ_ex hwc p1.1 h
  by_cases hs : n + (ev w so env q l).2 ≤ 100000
  · rw [p2 hs]
    by_cases hr : (ev w so env q l).1 = so
    · rw [if_pos hr, if_pos hr]; exact ⟨so, N, rfl, p1, fun _ => rfl⟩
    · rw [if_neg hr, if_neg hr]
      obtain ⟨r', N2, s1, s2, s3⟩ := ih2 so env d g deep (at' + sz l) (n + (ev w so env q l).2) N hN' (by omega) (by omega) (by omega) (Nx_congr r (at' + sz l) (at' + sz l) q (fun i _ => ex_rI p1.1 (by unfold CA; omega) _) hN.2) (fun j ja jb => by rw [p1.2.1 j jb]; exact he j ja jb) he6 (by rw [p1.2.2.2, mc_le hs]) hs (by omega)
      rw [show at' + (sz l + sz r) = at' + sz l + sz r by omega, s1]
      refine ⟨r', N2, rfl, ?_, fun z => s3 (by have : n + ((ev w so env q l).2 + (ev w so env q r).2) ≤ 100000 := z; omega)⟩
      have := AR_up p1.1 p1.2.1 p1.2.2.1 s2
      rw [show mc (n + (ev w so env q l).2) (ev w so env q r).2 = mc n ((ev w so env q l).2 + (ev w so env q r).2) by unfold mc; omega] at this
      exact this
  · have hm := mc_ge hs
    have bad : ∀ x : Bool × Nat, (ev w so env q l).2 ≤ x.2 → ¬ n + x.2 ≤ 100000 := fun x hx => by omega
    have cle : (ev w so env q l).2 ≤ (if (ev w so env q l).1 = so then (so, (ev w so env q l).2) else ((ev w so env q r).1, (ev w so env q l).2 + (ev w so env q r).2)).2 := by
      split
      · exact Nat.le_refl _
      · show _ ≤ _ + _; omega
    rw [hm] at p1
    have p1' : AR q (mc n (if (ev w so env q l).1 = so then (so, (ev w so env q l).2) else ((ev w so env q r).1, (ev w so env q l).2 + (ev w so env q r).2)).2) M N := by rw [mc_ge (bad _ cle)]; exact p1
    by_cases hb : b = so
    · rw [if_pos hb]; exact ⟨so, N, rfl, p1', fun z => absurd z (bad _ cle)⟩
    · obtain ⟨g, rfl⟩ : ∃ g', g = g' + 1 := ⟨g - 1, by omega⟩
      rw [if_neg hb, ab_stop hN'.1 p1.2.2.2]
      exact ⟨!so, N, rfl, p1', fun z => absurd z (bad _ cle)⟩
end AK3
