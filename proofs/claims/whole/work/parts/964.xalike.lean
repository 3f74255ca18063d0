/-! PARTINGS: the class makes them. -/
theorem Ex.x3 {M N : jM} (e : Ex C3x M N) : Ex CXp M N := e.mono fun _ => C3_Xp
/-- a reply's part: the rows a thing longer, and back -/
def pLong_42 (v0 : Nat) (M : jM) : jO Unit :=
  jb2 (jiv 3 M v0 (f_X3_shorten v0 M)) fun _ M1 =>
  rt () M1
def pLong (rec_ : Nat → Nat → Int32 → jM → jO Unit) (v0 v1 : Nat) (v2 v3 v4 : Int32) (M : jM) : jO Unit :=
  jb2 (jiv 3 M v0 (f_X3_staysAlike v0 v2 v3 v4 M)) fun x2 M1 =>
  jb2 (jiv 3 M1 v0 (f_X3_lengthen v0 v2 v3 v4 M1)) fun x4 M3 =>
  if x4 = 0 then
    rt () M3
  else
    if x2 = 0 then
      jb2 (f_X5_partByAtom v0 v1 v2 M3) fun _ M5 =>
      pLong_42 v0 M5
    else
      jb2 (rec_ v0 v1 v2 M3) fun _ M6 =>
      pLong_42 v0 M6
theorem br_un (rec_ : Nat → Nat → Int32 → jM → jO Unit) (k28 : Nat → Nat → Int32 → Int32 → Int32 → Int32 → Int32 → Int32 → jM → jO Unit) (v0 v1 : Nat) (v2 v3 v4 v5 v6 v7 : Int32) (M : jM) : b_X5_partReplies_28 rec_ k28 v0 v1 v2 v3 v4 v5 v6 v7 M =
    if v6 ≤ v7 then
      if v5 = (nI 1) then
        jb2 (jiv 4 M v1 (f_X4_remove v1 v4 M)) fun _ M1 =>
        rt () M1
      else
        jb2 (jiv 4 M v1 (f_X4_close v1 v4 M)) fun _ M2 =>
        rt () M2
    else
      jb2 (jiv 4 M v1 (f_X4_count v1 M)) fun x4 M3 =>
      jb2 (pLong rec_ v0 v1 v2 v3 v7 M3) fun _ M5 =>
      j_X5_partReplies_100 rec_ k28 v0 v1 v2 v3 v4 v5 v6 v7 x4 M5 := by
  unfold b_X5_partReplies_28
  by_cases h : v6 ≤ v7
  · rw [if_pos h, if_pos h]
  · rw [if_neg h, if_neg h]
    refine congrArg (jb2 _) (funext fun x4 => funext fun M3 => ?_)
    unfold pLong
    rw [jb2_a]
    refine congrArg (jb2 _) (funext fun x6 => funext fun M5 => ?_)
    rw [jb2_a]
    refine congrArg (jb2 _) (funext fun x8 => funext fun M7 => ?_)
    by_cases h8 : x8 = 0
    · rw [if_pos h8, if_pos h8]
      unfold j_X5_partReplies_80 j_X5_partReplies_91
      rw [if_pos h8, if_pos h8, jb2_rt]
    · rw [if_neg h8, if_neg h8]
      by_cases h6 : x6 = 0
      · rw [if_pos h6, if_pos h6]
        unfold j_X5_partReplies_80 j_X5_partReplies_91 pLong_42
        rw [if_neg h8, jb2_a]
        refine congrArg (jb2 _) (funext fun _ => funext fun M9 => ?_)
        rw [if_neg h8, jb2_a]
        rfl
      · rw [if_neg h6, if_neg h6]
        unfold j_X5_partReplies_91 pLong_42
        rw [jb2_a]
        refine congrArg (jb2 _) (funext fun _ => funext fun M9 => ?_)
        rw [if_neg h8, jb2_a]
        rfl
section XC6
variable {M : jM} {u v : Wd} {r : Rw} {c q f : Nat}
theorem cK_Xp {c : Nat} (h : cK 6 c) : CXp c := by unfold cK at h; unfold CXp; omega
theorem kl_x {N : jM} {t : Nat} (k : KL M N 6 u v r t) : Ex CXp M N := k.2.2.1.mono fun _ => cK_Xp
theorem kl_n {N : jM} {t : Nat} (k : KL M N 6 u v r t) : rI N 32 1 = rI M 32 1 ∧ ∀ i, rI N 33 i = rI M 33 i := ⟨ex_rI k.2.2.1 (by unfold cK; omega) 1, fun i => ex_rI k.2.2.1 (by unfold cK; omega) i⟩
/-- what the recursion gives, from rows of that length on -/
def HX (u v : Wd) (n : Nat) (rc : Nat → Nat → Int32 → jM → jO Unit) : Prop := ∀ (f : Nat) (r : Rw) (c : Nat) (M : jM), f < 2 → r.length + n = 3 → Sh M → rv u v r → alk u v r = true → kw u v n r = false → MS M 6 u v → MR M 6 r → rI M 32 1 = nI c → c + bz n ≤ 800 → ∃ N, rc 6 32 (nI f) M = some ((), N) ∧ XO u v r r.length c (ptA n (vU f u v) (vU (1 - f) u v) (vR f r)) M N
theorem vR_cons {x y : Nat} (hf : f < 2) : vR f (pr2 f x y :: r) = (x, y) :: vR f r := by
  have : f = 0 ∨ f = 1 := by omega
  rcases this with rfl | rfl <;> rfl
theorem pla_view (hf : f < 2) {x y : Nat} : pla (vU f u v) (vU (1 - f) u v) (vR f r) (x, y) = pla u v r (pr2 f x y) := by
  have : f = 0 ∨ f = 1 := by omega
  rcases this with rfl | rfl
  · rfl
  · exact pla_sw (u := u) (v := v) (r := r) (p := (y, x))
theorem sz2_U (hf : f < 2) : sz2 u v f = (vU f u v).1 := by
  unfold sz2 vU
  split <;> rfl
theorem x_longer (hu : wwf u) (hv : wwf v) {n x y : Nat} {rc : Nat → Nat → Int32 → jM → jO Unit} (hx : HX u v n rc) (hf : f < 2) (hl : r.length + (n + 1) = 3) (hS : Sh M) (hr : rv u v r) (hal : alk u v r = true) (h : MS M 6 u v) (m : MR M 6 r) (hc : rI M 32 1 = nI c) (h8 : c + bz n ≤ 800) (hp : (pr2 f x y).1 < u.1 ∧ (pr2 f x y).2 < v.1) (hk : kw u v n (pr2 f x y :: r) = false) : ∃ N, pLong rc 6 32 (nI f) (nI x) (nI y) M = some ((), N) ∧ XO u v r (r.length + 1) c (ptL n (vU f u v) (vU (1 - f) u v) (vR f r) (x, y)) M N := by
  have b2 := bz_2 n
  unfold pLong pLong_42
  obtain ⟨N, n1, n2, n3, n4⟩ := x_lengthen h m (t := x) (s := y) hf (by omega)
  have e1 : Ex CXp M N := n4.mono fun c hc => by unfold CXp; omega
  have hN := Sh_ex e1 hS
  have hr' : rv u v (pr2 f x y :: r) := rv_cons hr hp.1 hp.2
  rw [jiv_n h.1.1, x_staysAlike h m hu hv hr hf hp.1 hp.2, jb2_some, jiv_n h.1.1, n1, jb2_some, if_neg (show ¬ bI true = 0 by decide)]
  have c1 : rI N 32 1 = nI c := by rw [ex_rI n4 (by omega)]; exact hc
  have l1 : ∀ i, rI N 33 i = rI M 33 i := fun i => ex_rI n4 (by omega) i
  have fin : ∀ (T : Fm) (O : jM), XO u v (pr2 f x y :: r) (r.length + 1) c T N O → ∃ Q, (jb2 (jiv 3 O 6 (f_X3_shorten 6 O)) fun _ M1 => rt () M1) = some ((), Q) ∧ XO u v r (r.length + 1) c T M Q := by
    intro T O ⟨o1, o2, o3, o4, o5, o6⟩
    obtain ⟨Q, q1, q2, q3, q4⟩ := x_shorten o2 o3
    rw [jiv_n o2.1.1, q1, jb2_some]
    refine ⟨Q, rfl, (e1.tr o1).tr (q4.mono fun c hc => Or.inl hc), q2, q3, by rw [ex_rI q4 (by omega)]; exact o4, Nx_congr T c c _ (fun i _ => ex_rI q4 (by omega) _) o5, fun i hi => by rw [ex_rI q4 (by omega), o6 i hi, l1]⟩
  unfold ptL
  rw [pla_view hf]
  cases hpl : pla u v r (pr2 f x y) with
  | true =>
    rw [if_neg (show ¬ bI true = 0 by decide), if_pos rfl]
    have hn0 : n ≠ 0 := fun z => by
      subst z
      rw [kw, alk, hal, hpl] at hk
      cases hk
    obtain ⟨O, o1, o2⟩ := hx f (pr2 f x y :: r) c N hf (by rw [List.length_cons]; omega) hN hr' (by rw [alk, hal, hpl]; rfl) hk n2 n3 c1 h8
    rw [o1, jb2_some]
    rw [vR_cons hf] at o2
    exact fin _ O o2
  | false =>
    rw [if_pos (show bI false = 0 from rfl), if_neg (by decide)]
    obtain ⟨O, o1, o2⟩ := x_pba (q := r.length + 1) hN hu hv hr' n2 n3 hf c1 (by omega) hpl
    rw [o1, jb2_some]
    rw [vR_cons hf] at o2
    rw [vR_len]
    exact fin _ O o2
/-- the loop over the replies -/
theorem x_repl (hu : wwf u) (hv : wwf v) {n x : Nat} {rc : Nat → Nat → Int32 → jM → jO Unit} (hx : HX u v n rc) (hf : f < 2) (hl : r.length + (n + 1) = 3) (hr : rv u v r) (hal : alk u v r = true) (hxs : x < (vU f u v).1) (h8 : c + 1 + 6 * bz n ≤ 800) (hk : ∀ y, y < (vU (1 - f) u v).1 → kw u v n (pr2 f x y :: r) = false) (hok : ∀ y, y < (vU (1 - f) u v).1 → ok3 (r.length + 1) (bz n) (bw n) (3 * n + 1) (ptL n (vU f u v) (vU (1 - f) u v) (vR f r) (x, y))) : ∀ (d j F : Nat) (M : jM), j + d = (vU (1 - f) u v).1 → d < F → Sh M → MS M 6 u v → MR M 6 r → rI M 32 1 = nI (c + 1 + szL (dl (fun y => ptL n (vU f u v) (vU (1 - f) u v) (vR f r) (x, y)) j)) → rI M 33 c = nI (38 + 65536) → NxL (rI M 33) (r.length + 1) (c + 1) (dl (fun y => ptL n (vU f u v) (vU (1 - f) u v) (vR f r) (x, y)) j) → 0 < (vU (1 - f) u v).1 → ∃ N, l_X5_partReplies_28 rc F 6 32 (nI f) (nI x) (nI c) (nI (dl (fun y => ptL n (vU f u v) (vU (1 - f) u v) (vR f r) (x, y)) j).length) (nI (vU (1 - f) u v).1) (nI j) M = some ((), N) ∧ Ex CXp M N ∧ MS N 6 u v ∧ MR N 6 r ∧ rI N 32 1 = nI (c + sz (ptR (dl (fun y => ptL n (vU f u v) (vU (1 - f) u v) (vR f r) (x, y)) (vU (1 - f) u v).1))) ∧ Nx (rI N 33) c (r.length + 1) (ptR (dl (fun y => ptL n (vU f u v) (vU (1 - f) u v) (vR f r) (x, y)) (vU (1 - f) u v).1)) ∧ ∀ i, i < c → rI N 33 i = rI M 33 i := by
  have b2 := bz_2 n
  have hV : wwf (vU (1 - f) u v) := by unfold vU; split <;> assumption
  have hV6 := hV.1
  generalize hg : (fun y => ptL n (vU f u v) (vU (1 - f) u v) (vR f r) (x, y)) = g at *
  have hgy : ∀ y, ptL n (vU f u v) (vU (1 - f) u v) (vR f r) (x, y) = g y := fun y => by rw [← hg]
  have hokg : ∀ y, y < (vU (1 - f) u v).1 → ok3 (r.length + 1) (bz n) (bw n) (3 * n + 1) (g y) := fun y hy => by rw [← hgy]; exact hok y hy
  have hall : ∀ j, j ≤ (vU (1 - f) u v).1 → ∀ z ∈ dl g j, ok3 (r.length + 1) (bz n) (bw n) (3 * n + 1) z := fun j hj z hz => by
    obtain ⟨i, i1, i2⟩ := dl_mem _ hz
    rw [i2]; exact hokg i (by omega)
  have hsz : ∀ j, j ≤ (vU (1 - f) u v).1 → szL (dl g j) ≤ j * bz n := by
    intro j
    induction j with
    | zero => intro _; exact Nat.zero_le _
    | succ j ih =>
      intro hj
      have z := ih (by omega)
      have := (hokg j (by omega)).2.1
      rw [Nat.succ_mul, dl]
      split
      · omega
      · rw [szL_a]; omega
  intro d
  induction d with
  | zero =>
    intro j F M hjd hF hS h m hc h38 hL h0
    have hj : j = (vU (1 - f) u v).1 := by omega
    obtain ⟨F, rfl⟩ : ∃ G, F = G + 1 := ⟨F - 1, by omega⟩
    have hlen := dl_len g j
    have hszj := hsz j (by omega)
    have hmul : j * bz n ≤ 6 * bz n := Nat.mul_le_mul_right _ (by omega)
    show ∃ N, b_X5_partReplies_28 rc (l_X5_partReplies_28 rc F) 6 32 (nI f) (nI x) (nI c) (nI (dl g j).length) (nI (vU (1 - f) u v).1) (nI j) M = _ ∧ _
    rw [br_un]
    rw [← hj, if_pos (nI_le (Nat.le_refl _) (by omega))]
    have hne := hlen.2 (by omega)
    generalize hd : dl g j = fs at *
    match fs, hne with
    | [z], _ =>
      have hz : szL [z] = sz z := by unfold szL; simp
      rw [hz] at hc hszj
      have hzp := sz_pos z
      obtain ⟨N, n1, n2, n3, n4, n5⟩ := x_nrem (a := c) hS hc (by omega) (by omega)
      rw [if_pos (show nI [z].length = nI 1 from rfl), jiv_n (t32 hS), n1, jb2_some]
      refine ⟨N, rfl, (PNo_x n2).x3, MS_3x (PNo_x n2) h, MR_3x (PNo_x n2) m, ?_, ?_, n4⟩
      · rw [n3]; show nI (c + 1 + sz z - 1) = nI (c + sz z); congr 1; omega
      · exact Nx_congr z (c + 1) c _ (fun i hi => by rw [n5 _ (by omega) (by omega)]; congr 1; omega) hL.1
    | z :: y :: fs, _ =>
      have h2 : 2 ≤ (z :: y :: fs).length := by simp
      have e38 : ptR (z :: y :: fs) = .branch 38 (tr (z :: y :: fs)) (.leaf 0) := rfl
      obtain ⟨t1, t2, t3, t4, t5, t6⟩ := tr_ok (z :: y :: fs) (by simp) (fun w hw => hall j (by omega) w (by rw [hd]; exact hw))
      have z1 := x_nclose2 (a := c) (w := 38) (s := 1) hS hc (by omega) (by omega) (by decide) (by decide) h38
      have e2 : Ey PNo M (wI M 33 c (nI (38 + 65536 * (c + 1 + szL (z :: y :: fs) - c)))) := ey_wI Ey.rf (Or.inr rfl)
      rw [if_neg (fun w => by
        have := (nI_eq (by omega) (by decide)).mp w
        omega), jiv_n (t32 hS), z1, jb2_some]
      rw [e38]
      refine ⟨_, rfl, (PNo_x e2).x3, MS_3x (PNo_x e2) h, MR_3x (PNo_x e2) m, ?_, ?_, fun i hi => by rw [rI_wI, if_neg (by omega)]⟩
      · rw [rI_wI, if_neg (by omega), hc, sz_u (by decide), t3]; congr 1; omega
      · rw [Nx_l (Or.inl rfl), t3]
        refine ⟨by rw [rI_wI, if_pos ⟨rfl, rfl⟩]; congr 1; omega, ?_⟩
        refine Nx_congr (tr (z :: y :: fs)) (c + 1) (c + 1) _ (fun i hi => by rw [rI_wI, if_neg (by omega)]) (NxL_tr _ _ (by simp) hL)
  | succ d ih =>
    intro j F M hjd hF hS h m hc h38 hL h0
    obtain ⟨F, rfl⟩ : ∃ G, F = G + 1 := ⟨F - 1, by omega⟩
    have hlen := dl_len g j
    have hszj := hsz j (by omega)
    have hmul : (j + 1) * bz n ≤ 6 * bz n := Nat.mul_le_mul_right _ (by omega)
    rw [Nat.succ_mul] at hmul
    show ∃ N, b_X5_partReplies_28 rc (l_X5_partReplies_28 rc F) 6 32 (nI f) (nI x) (nI c) (nI (dl g j).length) (nI (vU (1 - f) u v).1) (nI j) M = _ ∧ _
    rw [br_un]
    have hpr : (pr2 f x j).1 < u.1 ∧ (pr2 f x j).2 < v.1 := pr2_ok hf (by rw [sz2_U hf]; exact hxs) (by rw [sz2_U (by omega)]; omega)
    obtain ⟨N, n1, n2, n3, n4, n5, n6, n7⟩ := x_longer (x := x) (y := j) hu hv hx hf hl hS hr hal h m hc (by omega) hpr (hk j (by omega))
    rw [hgy] at n5 n6
    have hN := Sh_ex n2 hS
    obtain ⟨o1, o2, o3, o4⟩ := hokg j (by omega)
    rw [if_neg (nI_ge (by omega) (by omega)), jiv_n (t32 hS), x_ncount hS hc, jb2_some, n1, jb2_some]
    unfold j_X5_partReplies_100 j_X5_partReplies_125
    rw [nI_add]
    have hL2 : NxL (rI N 33) (r.length + 1) (c + 1) (dl g j) := NxL_congr _ _ _ (fun i hi => n7 _ (by omega)) hL
    obtain ⟨b, b1, b2'⟩ := x_stands (first := c + 1) hN o1 n5 (by omega) n6 (fun w hw => (hall j (by omega) w hw).1) rfl hL2 (by omega)
    have h38N : rI N 33 c = nI (38 + 65536) := by rw [n7 c (by omega)]; exact h38
    rw [jiv_n (t32 hN), b1, jb2_some]
    cases b with
    | true =>
      have hmem := b2'.mp rfl
      have edl : dl g (j + 1) = dl g j := by rw [dl, if_pos hmem]
      have e3 : Ey PNo N (wI N 32 1 (nI (c + 1 + szL (dl g j)))) := ey_wI Ey.rf (Or.inl ⟨rfl, rfl⟩)
      rw [if_neg (by decide), jiv_n (t32 hN), x_ncut hN n5 (by omega) (by omega), jb2_some]
      have z := ih (j + 1) F (wI N 32 1 (nI (c + 1 + szL (dl g j)))) (by omega) (by omega) (Sh_ey e3 hN) (MS_3x (PNo_x e3) n3) (MR_3x (PNo_x e3) n4)
      rw [edl] at z
      obtain ⟨Q, q1, q2, q3, q4, q5, q6, q7⟩ := z (by rw [rI_wI, if_pos ⟨rfl, rfl⟩]) (by rw [rI_wI, if_neg (by omega)]; exact h38N) (NxL_congr _ _ _ (fun i hi => by rw [rI_wI, if_neg (by omega)]) hL2) h0
      refine ⟨Q, by rw [nI_add]; exact q1, (n2.tr (PNo_x e3).x3).tr q2, q3, q4, q5, q6, fun i hi => by rw [q7 i hi, rI_wI, if_neg (by omega), n7 i (by omega)]⟩
    | false =>
      have hmem : ¬ g j ∈ dl g j := fun z => by have := b2'.mpr z; cases this
      have edl : dl g (j + 1) = dl g j ++ [g j] := by rw [dl, if_neg hmem]
      rw [if_pos (show bI false = 0 from rfl)]
      have z := ih (j + 1) F N (by omega) (by omega) hN n3 n4
      rw [edl, szL_a, List.length_append] at z
      obtain ⟨Q, q1, q2, q3, q4, q5, q6, q7⟩ := z (by rw [n5]; congr 1; omega) h38N (NxL_app _ _ hL2 n6) h0
      refine ⟨Q, by rw [nI_add, nI_add]; exact q1, n2.tr q2, q3, q4, q5, q6, fun i hi => by rw [q7 i hi, n7 i (by omega)]⟩
end XC6
