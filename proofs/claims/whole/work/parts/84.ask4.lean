/-! ASKING: the class's Asker, quantifiers; its test. -/
section AK4
variable {M : jM} {w : Wd} {nc wc LN : Nat}
theorem ask_89 {rec_ : Nat → Nat → Nat → Int32 → Int32 → jM → jO Int32} {so : Bool} : j_X0_askThings_89 rec_ (bI so) M = some (bI (!so), M) := by
  unfold j_X0_askThings_89
  cases so <;> rfl
theorem aq_loop (hw : wwf w) (hwc : 47 ≤ wc) (hL : LN ≤ 800) (hnc : 104 ≤ nc) {q : Nat} {l : Fm} (hq : q < 8) (ih : AP nc wc LN w (q + 1) l) {so so' : Bool} {env : Nat → Nat} {d deep at' : Nat} (hd : dp l < d) (hdd : deep + 1 + dp l ≤ 30) (hat : at' + 1 + sz l ≤ LN) (he6 : ∀ j, env j < 6) :
    ∀ (m t g n : Nat) (M : jM), t + m = w.1 → m < g → AQ nc wc LN w M → Nx (rI M nc) (at' + 1) (q + 1) l → (∀ j, 1 ≤ j → j ≤ q → rI M 37 j = nI (env j)) → rI M 36 1 = nI n → n ≤ 100000 →
    ∃ r N, l_X0_askThings_37 (f_X0_ask d) g 36 nc wc (nI at') (nI deep) (bI so') (nI (q + 1)) (nI t) M = some (bI r, N) ∧ AR q (mc n (lpq (fun t => ev w so (up1 env (q + 1) t) (q + 1) l) so' m t).2) M N ∧ (n + (lpq (fun t => ev w so (up1 env (q + 1) t) (q + 1) l) so' m t).2 ≤ 100000 → r = (lpq (fun t => ev w so (up1 env (q + 1) t) (q + 1) l) so' m t).1) := by
  have h6 := hw.1
  intro m
  induction m with
  | zero =>
    intro t g n M ht hg h hN he hn h1
    obtain ⟨g, rfl⟩ : ∃ g', g = g' + 1 := ⟨g - 1, by omega⟩
    show ∃ r N, b_X0_askThings_37 (f_X0_ask d) (l_X0_askThings_37 (f_X0_ask d) g) 36 nc wc (nI at') (nI deep) (bI so') (nI (q + 1)) (nI t) M = _ ∧ _
    unfold b_X0_askThings_37
    rw [jiv_n h.2.1.1.1, w_size h.2.1, jb2_some, if_pos (nI_le (by omega) (by omega)), ask_89]
    exact ⟨!so', M, rfl, ⟨Ex.rf, fun _ _ => rfl, rfl, by rw [hn]; show nI n = nI (mc n 0); rw [mc_le (by omega)]; rfl⟩, fun _ => rfl⟩
  | succ m IH =>
    intro t g n M ht hg h hN he hn h1
    obtain ⟨g, rfl⟩ : ∃ g', g = g' + 1 := ⟨g - 1, by omega⟩
    show ∃ r N, b_X0_askThings_37 (f_X0_ask d) (l_X0_askThings_37 (f_X0_ask d) g) 36 nc wc (nI at') (nI deep) (bI so') (nI (q + 1)) (nI t) M = _ ∧ _
    unfold b_X0_askThings_37
    rw [jiv_n h.2.1.1.1, w_size h.2.1, jb2_some, if_neg (nI_ge (by omega) (by omega)), jiv_n (t36 h.1), a_spent h.1 hn (by omega), jb2_some, decide_eq_false (by omega), if_pos (show bI false = 0 from rfl), q36_0 h.1, Option.bind_some, stI_n (t37 h.1) (by omega) (by decide), Option.bind_some]
    generalize hM1 : wI M 37 (q + 1) (nI t) = M1
    have e1 : Ex CA M M1 := by rw [← hM1]; exact ex_wI Ex.rf (Or.inr rfl)
    have q1 := AQ_ex hwc e1 h
    have r37 : ∀ j, rI M1 37 j = if j = q + 1 then nI t else rI M 37 j := fun j => by
      rw [← hM1, rI_wI]
      by_cases hj : j = q + 1
      · rw [if_pos ⟨rfl, hj⟩, if_pos hj]
      · rw [if_neg (fun z => hj z.2), if_neg hj]
    have r36 : ∀ j, rI M1 36 j = rI M 36 j := fun j => by rw [← hM1, rI_wI, if_neg (by omega)]
    obtain ⟨r, N, p1, p2, p3⟩ := ih so (up1 env (q + 1) t) d (deep + 1) (at' + 1) n M1 q1 hd (by omega) hat (Nx_congr l (at' + 1) (at' + 1) (q + 1) (fun i _ => ex_rI e1 (by unfold CA; omega) _) hN) (fun j ja jb => by
      rw [r37 j]
      unfold up1
      by_cases hj : j = q + 1
      · rw [if_pos hj, if_pos hj]
      · rw [if_neg hj, if_neg hj]; exact he j ja (by omega)) (fun j => by
      unfold up1
      split
      · omega
      · exact he6 j) (by rw [r36]; exact hn) h1
    have pq : AR q (mc n (ev w so (up1 env (q + 1) t) (q + 1) l).2) M N := AR_up e1 (fun j hj => by rw [r37 j, if_neg (by omega)]) (r36 2) (AR_q (by omega) p2)
    have hNN := AQ_ex hwc pq.1 h
    rw [jiv_n (t36 q1.1), nI_add, nI_add, p1, jb2_some, nI_add]
    simp only [lpq]
    by_cases hs : n + (ev w so (up1 env (q + 1) t) (q + 1) l).2 ≤ 100000
    · rw [p3 hs]
      by_cases hr : (ev w so (up1 env (q + 1) t) (q + 1) l).1 = so'
      · rw [if_pos (by rw [hr]), if_pos hr]
        exact ⟨so', N, rZ_n, pq, fun _ => rfl⟩
      · rw [if_neg (fun z => hr (bI_e.mp z)), if_neg hr]
        obtain ⟨r', N2, s1, s2, s3⟩ := IH (t + 1) g (n + (ev w so (up1 env (q + 1) t) (q + 1) l).2) N (by omega) (by omega) hNN (Nx_congr l (at' + 1) (at' + 1) (q + 1) (fun i _ => ex_rI pq.1 (by unfold CA; omega) _) hN) (fun j ja jb => by rw [pq.2.1 j jb]; exact he j ja jb) (by rw [pq.2.2.2, mc_le hs]) hs
        rw [s1]
        refine ⟨r', N2, rfl, ?_, fun z => s3 (Nat.le_trans (Nat.le_of_eq (Nat.add_assoc _ _ _)) z)⟩
        have := AR_up pq.1 pq.2.1 pq.2.2.1 s2
        rw [show ∀ a b c : Nat, mc (a + b) c = mc a (b + c) from fun a b c => by unfold mc; omega] at this
        exact this
    · have hm := mc_ge hs
      have bad : ∀ x : Bool × Nat, (ev w so (up1 env (q + 1) t) (q + 1) l).2 ≤ x.2 → ¬ n + x.2 ≤ 100000 := fun x hx => by omega
      generalize hX : (if (ev w so (up1 env (q + 1) t) (q + 1) l).1 = so' then (so', (ev w so (up1 env (q + 1) t) (q + 1) l).2) else ((lpq (fun t => ev w so (up1 env (q + 1) t) (q + 1) l) so' m (t + 1)).1, (ev w so (up1 env (q + 1) t) (q + 1) l).2 + (lpq (fun t => ev w so (up1 env (q + 1) t) (q + 1) l) so' m (t + 1)).2)) = X
      have cle : (ev w so (up1 env (q + 1) t) (q + 1) l).2 ≤ X.2 := by
        rw [← hX]
        split
        · exact Nat.le_refl _
        · show _ ≤ _ + _; omega
      rw [hm] at pq
      have pq' : AR q (mc n X.2) M N := by rw [mc_ge (bad _ cle)]; exact pq
      by_cases hb : r = so'
      · rw [if_pos (by rw [hb])]; exact ⟨so', N, rZ_n, pq', fun z => absurd z (bad _ cle)⟩
      · obtain ⟨g, rfl⟩ : ∃ g', g = g' + 1 := ⟨g - 1, by omega⟩
        rw [if_neg (fun z => hb (bI_e.mp z))]
        show ∃ r N', b_X0_askThings_37 (f_X0_ask d) (l_X0_askThings_37 (f_X0_ask d) g) 36 nc wc (nI at') (nI deep) (bI so') (nI (q + 1)) (nI (t + 1)) N = _ ∧ _
        unfold b_X0_askThings_37
        rw [jiv_n hNN.2.1.1.1, w_size hNN.2.1, jb2_some, jiv_n (t36 hNN.1), a_spent hNN.1 pq.2.2.2 (by decide), jb2_some, decide_eq_true (by decide), if_neg (show ¬ bI true = 0 by decide), ask_89, ite_self]
        exact ⟨!so', N, rfl, pq', fun z => absurd z (bad _ cle)⟩
theorem ap_quant (hw : wwf w) (hwc : 47 ≤ wc) (hL : LN ≤ 800) (hnc : 104 ≤ nc) {q k : Nat} {l : Fm} (hk : k = 64 ∨ k = 63) (hq : q < 8) (ih : AP nc wc LN w (q + 1) l) : AP nc wc LN w q (.branch k l (.leaf 0)) := by
  intro so env d deep at' n M h hd hdd hat hN he he6 hn h1
  have h6 := hw.1
  obtain ⟨d, rfl⟩ : ∃ d', d = d' + 1 := ⟨d - 1, by omega⟩
  obtain ⟨n0, hn0⟩ := jF_is
  rw [dp_u (by omega)] at hd hdd
  rw [sz_u (by omega)] at hat
  rw [Nx_q hk] at hN
  have hz := sz_pos l
  refine ap_start hwc hL hnc h hn h1 (by omega) (by omega) (by omega) hN.1 (fun h2 M2 q2 e2 k37 k1 => ?_)
  have c1 : (k + 256 * (q + 1) + 65536 * (sz l + 1)) % 256 = k := by omega
  have c2 : (k + 256 * (q + 1) + 65536 * (sz l + 1)) / 256 % 16 = q + 1 := by omega
  have g1 : rI M2 nc at' = nI (k + 256 * (q + 1) + 65536 * (sz l + 1)) := by rw [ex_rI e2 (by unfold CA; omega)]; exact hN.1
  obtain ⟨r, N, p1, p2, p3⟩ := aq_loop hw hwc hL hnc hq ih (so := so) (so' := decide (k = 63)) (env := env) (d := d) (deep := deep) (at' := at') (by omega) (by omega) (by omega) he6 w.1 0 jF0 (n + 1) M2 (by omega) (by omega) q2 (Nx_congr l (at' + 1) (at' + 1) (q + 1) (fun i _ => ex_rI e2 (by unfold CA; omega) _) hN.2) (fun j ja jb => by rw [k37 j]; exact he j ja jb) k1 h2
  rw [ev_q hk]
  refine ⟨r, N, ?_, by rw [← mc_1 h2]; exact p2, fun z => p3 (Nat.le_trans (Nat.le_of_eq (by rw [Nat.add_assoc, Nat.add_comm 1])) z)⟩
  have fin : j_X0_ask_133 (f_X0_ask d) 36 nc wc (nI at') (nI deep) (bI (decide (k = 63))) M2 = some (bI r, N) := by
    unfold j_X0_ask_133 f_X0_askThings j_X0_askThings_20
    rw [jiv_n (t36 q2.1), if_neg (nI_pos (by omega)), ln_n q2.2.2 (by decide) (by decide), Option.bind_some, if_neg (nI_ge (by omega) (by omega)), ldI_n q2.2.2 (by omega) (by omega), Option.bind_some, g1, n_first (by omega), jb2_some, c2, q36_0 q2.1, Option.bind_some, ln_n (t37 q2.1) (by decide) (by decide), Option.bind_some, if_pos (nI_lt (by omega) (by decide)), p1, jb2_some]
    exact rZ_n
  have hQ := hk_Q hk
  unfold askR
  rw [c1, if_neg (fun z => by have := (nI_eq (by omega) (by decide)).mp z; omega), n_isList (by omega), jb2_some, decide_eq_false (by omega), if_pos (show bI false = 0 from rfl), n_isQ (by omega), jb2_some, hQ, if_neg (show ¬ bI true = 0 by decide)]
  rcases hk with rfl | rfl
  · rw [if_neg (by decide)]; exact fin
  · rw [if_pos rfl]; exact fin
theorem ap_all (hw : wwf w) (hwc : 47 ≤ wc) (hL : LN ≤ 800) (hnc : 104 ≤ nc) : ∀ f q, (wf 0 q f → AP nc wc LN w q f) ∧ (wf 1 q f → AB nc wc LN w q f) :=
  fm_ind (P := AP nc wc LN w) (B := AB nc wc LN w) (fun q c h1 h2 => ap_atom hw hwc hL hnc h1 h2) (fun q l _ ih => ap_not hwc hL hnc ih) (fun q k l hk hq _ ih => ap_quant hw hwc hL hnc hk hq ih) (fun q k l hk _ ih => ap_list hwc hL hnc hk ih) (fun q f h ih => ab_one hwc hL hnc h ih) (fun q l r h _ ih ih2 => ab_cons hwc hL hnc h ih ih2)
/-- what test answers, and the count that it leaves -/
def sp_ask (w : Wd) (f : Fm) (z : Nat) : Int32 × Nat := if (ev w false (fun _ => 0) 0 f).2 ≤ 100000 then (bI (ev w false (fun _ => 0) 0 f).1, (ev w false (fun _ => 0) 0 f).2) else (-6, z)
theorem x_test (hw : wwf w) (hwc : 47 ≤ wc) (hnc : 104 ≤ nc) {f : Fm} (hf : wf 0 0 f) (hL : sz f ≤ 800) (hdp : dp f ≤ 30) (h : AQ nc wc (sz f) w M) (hN : Nx (rI M nc) 0 0 f) {z : Nat} (hz : rI M 36 2 = nI z) : ∃ N, f_X0_test 36 nc wc M = some ((sp_ask w f z).1, N) ∧ rI N 36 2 = nI (sp_ask w f z).2 ∧ Ex CA M N := by
  unfold f_X0_test
  rw [pI_n (t36 h.1), Option.bind_some]
  generalize hM1 : wI M 36 1 (nI 0) = M1
  have e1 : Ex CA M M1 := by rw [← hM1]; exact ex_wI Ex.rf (Or.inl rfl)
  have q1 := AQ_ex hwc e1 h
  obtain ⟨r, N, p1, p2, p3⟩ := (ap_all hw hwc hL hnc f 0).1 hf false (fun _ => 0) jR0 0 0 0 M1 q1 (by show dp f < 40; omega) (by omega) (by omega) (Nx_congr f 0 0 0 (fun i _ => ex_rI e1 (by unfold CA; omega) _) hN) (fun j ja jb => by omega) (fun _ => by decide) (by rw [← hM1, rI_wI, if_pos ⟨rfl, rfl⟩]) (Nat.zero_le _)
  have q2 := AQ_ex hwc p2.1 q1
  rw [jiv_n (t36 q1.1), p1, jb2_some, jiv_n (t36 q2.1), a_spent q2.1 p2.2.2.2 (by unfold mc; omega), jb2_some]
  unfold sp_ask
  rw [Nat.zero_add] at p3
  by_cases hs : (ev w false (fun _ => 0) 0 f).2 ≤ 100000
  · have hm : mc 0 (ev w false (fun _ => 0) 0 f).2 = (ev w false (fun _ => 0) 0 f).2 := by unfold mc; omega
    rw [hm, decide_eq_false (by omega), if_pos (show bI false = 0 from rfl), gI_n (t36 q2.1), Option.bind_some, p2.2.2.2, hm, pI_n (t36 q2.1), Option.bind_some, if_pos hs, p3 hs]
    refine ⟨wI N 36 2 (nI (ev w false (fun _ => 0) 0 f).2), ?_, by rw [rI_wI, if_pos ⟨rfl, rfl⟩], ex_wI (e1.tr p2.1) (Or.inl rfl)⟩
    cases (ev w false (fun _ => 0) 0 f).1 <;> rfl
  · have hm : mc 0 (ev w false (fun _ => 0) 0 f).2 = 100001 := by unfold mc; omega
    rw [hm, decide_eq_true (by decide), if_neg (show ¬ bI true = 0 by decide), if_neg hs]
    refine ⟨N, rfl, ?_, e1.tr p2.1⟩
    rw [p2.2.2.1, ← hM1, rI_wI, if_neg (by omega)]; exact hz
end AK4
