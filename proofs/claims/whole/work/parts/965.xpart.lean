/-! PARTINGS: the class's part. -/
section FK
variable {u v : Wd} {r : Rw}
theorem pr2_0 {a b : Nat} : pr2 0 a b = (a, b) := rfl
theorem kw_pick {k : Nat} (hal : alk u v r = true) (h : kw u v (k + 1) r = false) : (∃ a, a < u.1 ∧ ∀ b, b < v.1 → kw u v k ((a, b) :: r) = false) ∨ ∃ b, b < v.1 ∧ ∀ a, a < u.1 → kw u v k ((a, b) :: r) = false := by
  rw [kw, hal, Bool.true_and, Bool.and_eq_false_iff] at h
  have nt : ∀ {x : Bool}, ¬ x = true → x = false := fun {x} h => by cases x <;> simp_all
  rcases h with h | h
  · refine Or.inl ?_
    by_cases z : ∃ a, a < u.1 ∧ ∀ b, b < v.1 → kw u v k ((a, b) :: r) = false
    · exact z
    · have : allB u.1 (fun a => anyB v.1 (fun b => kw u v k ((a, b) :: r))) = true := allB_iff.mpr fun a ha => by
        by_cases w : anyB v.1 (fun b => kw u v k ((a, b) :: r)) = true
        · exact w
        · exact absurd ⟨a, ha, fun b hb => nt fun y => w (anyB_iff.mpr ⟨b, hb, y⟩)⟩ z
      rw [this] at h; cases h
  · refine Or.inr ?_
    by_cases z : ∃ b, b < v.1 ∧ ∀ a, a < u.1 → kw u v k ((a, b) :: r) = false
    · exact z
    · have : allB v.1 (fun b => anyB u.1 (fun a => kw u v k ((a, b) :: r))) = true := allB_iff.mpr fun b hb => by
        by_cases w : anyB u.1 (fun a => kw u v k ((a, b) :: r)) = true
        · exact w
        · exact absurd ⟨b, hb, fun a ha => nt fun y => w (anyB_iff.mpr ⟨a, ha, y⟩)⟩ z
      rw [this] at h; cases h
theorem ff_all0 {f : Nat → Bool} : ∀ {c i : Nat}, (∀ k, i ≤ k → k < i + c → f k = false) → ff f i c = none
  | 0, i, _ => rfl
  | c + 1, i, h => by
    rw [ff_s, if_neg (by rw [h i (Nat.le_refl _) (by omega)]; decide)]
    exact ff_all0 fun k h1 h2 => h k (by omega) (by omega)
theorem lrep_no {side t k : Nat} (h : ∀ s, s < sz2 u v (1 - side) → kw u v k (pr2 side t s :: r) = false) : (lrep u v r side t k).isNone = true := by
  unfold lrep
  rw [ff_all0 fun s _ h2 => h s (by omega)]
  rfl
theorem lrep_non {side t k : Nat} (h : (lrep u v r side t k).isNone = true) : ∀ s, s < sz2 u v (1 - side) → kw u v k (pr2 side t s :: r) = false := by
  intro s hs
  unfold lrep at h
  cases hx : ff (fun s => kw u v k (pr2 side t s :: r)) 0 (sz2 u v (1 - side)) with
  | none => exact ff_none hx s (by omega) (by omega)
  | some y => rw [hx] at h; cases h
theorem fpk_some {k f : Nat} (hf : f < 2) (hal : alk u v r = true) (h : kw u v (k + 1) r = false) : ∃ x, fpk u v r f k = some x := by
  unfold fpk
  cases h1 : ff (fun t => (lrep u v r f t k).isNone) 0 (sz2 u v f) with
  | some t => exact ⟨t, rfl⟩
  | none =>
    cases h2 : ff (fun t => (lrep u v r (1 - f) t k).isNone) 0 (sz2 u v (1 - f)) with
    | some t => exact ⟨_, rfl⟩
    | none =>
      exfalso
      have key : ∀ side t, side < 2 → t < sz2 u v side → (lrep u v r side t k).isNone = false := by
        intro side t hs ht
        by_cases hsf : side = f
        · subst hsf; exact ff_none h1 t (by omega) (by omega)
        · have : side = 1 - f := by omega
          subst this
          exact ff_none h2 t (by omega) (by omega)
      rcases kw_pick hal h with ⟨a, ha, hb⟩ | ⟨b, hb, ha⟩
      · have z := lrep_no (side := 0) (t := a) (u := u) (v := v) (r := r) (k := k) (fun s hs => hb s hs)
        rw [key 0 a (by decide) ha] at z; cases z
      · have z := lrep_no (side := 1) (t := b) (u := u) (v := v) (r := r) (k := k) (fun s hs => ha s hs)
        rw [key 1 b (by decide) hb] at z; cases z
theorem fpk_is {k f x : Nat} (hu : wwf u) (hv : wwf v) (hx : fpk u v r f k = some x) : (x < 10 ∧ x < sz2 u v f ∧ ∀ y, y < sz2 u v (1 - f) → kw u v k (pr2 f x y :: r) = false) ∨ (10 ≤ x ∧ x < 16 ∧ x - 10 < sz2 u v (1 - f) ∧ ∀ y, y < sz2 u v (1 - (1 - f)) → kw u v k (pr2 (1 - f) (x - 10) y :: r) = false) := by
  have s6 : ∀ side, sz2 u v side ≤ 6 := fun side => by unfold sz2; split; exact hu.1; exact hv.1
  unfold fpk at hx
  cases h1 : ff (fun t => (lrep u v r f t k).isNone) 0 (sz2 u v f) with
  | some t =>
    rw [h1] at hx
    cases hx
    obtain ⟨a1, a2, a3⟩ := ff_some h1
    have := s6 f
    exact Or.inl ⟨by omega, by omega, lrep_non a3⟩
  | none =>
    rw [h1] at hx
    cases h2 : ff (fun t => (lrep u v r (1 - f) t k).isNone) 0 (sz2 u v (1 - f)) with
    | none => rw [h2] at hx; cases hx
    | some t =>
      rw [h2] at hx
      obtain ⟨a1, a2, a3⟩ := ff_some h2
      have := s6 (1 - f)
      have hx : some (10 + t) = some x := hx
      cases hx
      rw [Nat.add_sub_cancel_left]
      exact Or.inr ⟨by omega, by omega, by omega, lrep_non a3⟩
theorem lrd_some {n : Nat} (h : kw u v (n + 1) r = false) : ∃ k, lrd u v r 1 (n + 1) = some (k + 1) ∧ k ≤ n ∧ kw u v (k + 1) r = false := by
  cases hx : lrd u v r 1 (n + 1) with
  | none =>
    have := ff_none hx (n + 1) (by omega) (by omega)
    simp only [h] at this
    cases this
  | some k =>
    obtain ⟨a1, a2, a3⟩ := ff_some hx
    refine ⟨k - 1, by rw [Nat.sub_add_cancel a1], by omega, ?_⟩
    rw [Nat.sub_add_cancel a1]
    simpa using a3
theorem ptL_ok {n : Nat} {p : Nat × Nat} (hu : wwf u) (hv : wwf v) (h1 : 0 < u.1) (h2 : 0 < v.1) (h : r.length + (n + 1) ≤ 7) : ok3 (r.length + 1) (bz n) (bw n) (3 * n + 1) (ptL n u v r p) := by
  have b := bz_2 n
  unfold ptL
  split
  · exact ptA_ok n u v (p :: r) hu hv h1 h2 (by rw [List.length_cons]; omega)
  · exact ok3_le (ptT_ok (by omega) (by omega)) b.1 b.2 (by omega)
end FK
section XP6
variable {M : jM} {u v : Wd} {r : Rw} {c f : Nat}
theorem vR_sw (hf : f < 2) : vR (1 - f) r = swp (vR f r) := by
  have : f = 0 ∨ f = 1 := by omega
  rcases this with rfl | rfl
  · rfl
  · exact (swp_sw r).symm
theorem vU_w (hu : wwf u) (hv : wwf v) (f : Nat) : wwf (vU f u v) := by unfold vU; split <;> assumption
theorem vU_p (h1 : 0 < u.1) (h2 : 0 < v.1) (f : Nat) : 0 < (vU f u v).1 := by unfold vU; split <;> assumption
/-- some ? and what stands behind it -/
theorem x_some (hu : wwf u) (hv : wwf v) (h1 : 0 < u.1) (h2 : 0 < v.1) {n x : Nat} {rc : Nat → Nat → Int32 → jM → jO Unit} (hx : HX u v n rc) (hf : f < 2) (hl : r.length + (n + 1) = 3) (hr : rv u v r) (hal : alk u v r = true) (hxs : x < (vU f u v).1) (h8 : c + 2 + 6 * bz n ≤ 800) (hk : ∀ y, y < (vU (1 - f) u v).1 → kw u v n (pr2 f x y :: r) = false) (hS : Sh M) (h : MS M 6 u v) (m : MR M 6 r) (hc : rI M 32 1 = nI c) : ∃ M3, f_X4_add 32 (nI 63) (nI r.length + nI 1) (nI 0) M = some (nI c, M3) ∧ ∃ N, (jb2 (f_X5_partReplies rc 6 32 (nI f) (nI x) M3) fun _ M1 => f_X4_close 32 (nI c) M1) = some ((), N) ∧ XO u v r r.length c (.branch 63 (ptR (dl (fun y => ptL n (vU f u v) (vU (1 - f) u v) (vR f r) (x, y)) (vU (1 - f) u v).1)) (.leaf 0)) M N := by
  have hU := vU_w hu hv f
  have hV := vU_w hu hv (1 - f)
  have hU0 := vU_p h1 h2 f
  have hV0 := vU_p h1 h2 (1 - f)
  have hV6 := hV.1
  obtain ⟨n0, hn0⟩ := jF_is
  have en := enc_n 63 (by decide) (r.length + 1) (by omega) M
  have a1 := x_nadd hS hc (by omega) en
  have e1 : Ey PNo M (wI (wI M 33 c (nI (63 + 256 * (r.length + 1) + 65536))) 32 1 (nI (c + 1))) := ey_wI (ey_wI Ey.rf (Or.inr rfl)) (Or.inl ⟨rfl, rfl⟩)
  have hS1 := Sh_ey e1 hS
  have c1 : rI (wI (wI M 33 c (nI (63 + 256 * (r.length + 1) + 65536))) 32 1 (nI (c + 1))) 32 1 = nI (c + 1) := by rw [rI_wI, if_pos ⟨rfl, rfl⟩]
  have x1 : rI (wI (wI M 33 c (nI (63 + 256 * (r.length + 1) + 65536))) 32 1 (nI (c + 1))) 33 c = nI (63 + 256 * (r.length + 1) + 65536 * 1) := by rw [rI_wI, if_neg (by omega), rI_wI, if_pos ⟨rfl, rfl⟩]
  have l1 : ∀ i, i < c → rI (wI (wI M 33 c (nI (63 + 256 * (r.length + 1) + 65536))) 32 1 (nI (c + 1))) 33 i = rI M 33 i := fun i hi => by rw [rI_wI, if_neg (by omega), rI_wI, if_neg (by omega)]
  refine ⟨_, by rw [nI_add]; exact a1, ?_⟩
  generalize wI (wI M 33 c (nI (63 + 256 * (r.length + 1) + 65536))) 32 1 (nI (c + 1)) = A at *
  have hA := MS_3x (PNo_x e1) h
  have mA := MR_3x (PNo_x e1) m
  have en2 := enc_n 38 (by decide) 0 (by decide) A
  have a2 := x_nadd hS1 c1 (by omega) en2
  have e2 : Ey PNo A (wI (wI A 33 (c + 1) (nI (38 + 256 * 0 + 65536))) 32 1 (nI (c + 1 + 1))) := ey_wI (ey_wI Ey.rf (Or.inr rfl)) (Or.inl ⟨rfl, rfl⟩)
  have c2 : rI (wI (wI A 33 (c + 1) (nI (38 + 256 * 0 + 65536))) 32 1 (nI (c + 1 + 1))) 32 1 = nI (c + 1 + 1) := by rw [rI_wI, if_pos ⟨rfl, rfl⟩]
  have x2 : rI (wI (wI A 33 (c + 1) (nI (38 + 256 * 0 + 65536))) 32 1 (nI (c + 1 + 1))) 33 (c + 1) = nI (38 + 65536) := by rw [rI_wI, if_neg (by omega), rI_wI, if_pos ⟨rfl, rfl⟩]
  have l2 : ∀ i, i < c + 1 → rI (wI (wI A 33 (c + 1) (nI (38 + 256 * 0 + 65536))) 32 1 (nI (c + 1 + 1))) 33 i = rI A 33 i := fun i hi => by rw [rI_wI, if_neg (by omega), rI_wI, if_neg (by omega)]
  unfold f_X5_partReplies
  rw [jiv_n (t32 hS1), a2, jb2_some]
  generalize wI (wI A 33 (c + 1) (nI (38 + 256 * 0 + 65536))) 32 1 (nI (c + 1 + 1)) = B at *
  have hS2 := Sh_ey e2 hS1
  have hB := MS_3x (PNo_x e2) hA
  have mB := MR_3x (PNo_x e2) mA
  rw [nI_sb (by omega), x_sizeOn hB (by omega), sz2_U (by omega)]
  obtain ⟨N, p1, p2, p3, p4, p5, p6, p7⟩ := x_repl (c := c + 1) hu hv hx hf hl hr hal hxs (by omega) hk (fun y hy => by
    have := ptL_ok (n := n) (r := vR f r) (p := (x, y)) hU hV hU0 hV0 (by rw [vR_len]; omega)
    rw [vR_len] at this
    exact this) (vU (1 - f) u v).1 0 jF0 B (by omega) (by omega) hS2 hB mB c2 x2 trivial hV0
  have p1' : l_X5_partReplies_28 rc jF0 6 32 (nI f) (nI x) (nI (c + 1)) (nI 0) (nI (vU (1 - f) u v).1) (nI 0) B = some ((), N) := p1
  rw [p1', jb2_some]
  have hN := Sh_ex p2 hS2
  generalize hT : ptR (dl (fun y => ptL n (vU f u v) (vU (1 - f) u v) (vR f r) (x, y)) (vU (1 - f) u v).1) = T at *
  have hszT : sz T ≤ 6 * bz n + 1 := by
    rw [← hT]
    have hl2 := dl_len (fun y => ptL n (vU f u v) (vU (1 - f) u v) (vR f r) (x, y)) (vU (1 - f) u v).1
    have b := bz_2 n
    refine (ptR_ok (q := (vR f r).length + 1) (A := bz n) (L := bw n) (D := 3 * n + 1) (by omega) (hl2.2 hV0) (fun z hz => ?_) (by omega)).2.1
    obtain ⟨y, y1, y2⟩ := dl_mem _ hz
    rw [y2]
    exact ptL_ok hU hV hU0 hV0 (by rw [vR_len]; omega)
  have z := x_nclose2 (a := c) (w := 63 + 256 * (r.length + 1)) (s := 1) hN p5 (by omega) (by omega) (by omega) (by decide) (by rw [p7 c (by omega), l2 c (by omega)]; exact x1)
  have e3 : Ey PNo N (wI N 33 c (nI (63 + 256 * (r.length + 1) + 65536 * (c + 1 + sz T - c)))) := ey_wI Ey.rf (Or.inr rfl)
  refine ⟨_, z, (((PNo_x e1).x3.tr (PNo_x e2).x3).tr p2).tr (PNo_x e3).x3, MS_3x (PNo_x e3) p3, MR_3x (PNo_x e3) p4, ?_, ?_, fun i hi => ?_⟩
  · rw [rI_wI, if_neg (by omega), p5, sz_u (by decide)]; congr 1; omega
  · rw [Nx_q (Or.inr rfl)]
    refine ⟨by rw [rI_wI, if_pos ⟨rfl, rfl⟩]; congr 1; omega, Nx_congr T (c + 1) (c + 1) _ (fun i hi => by rw [rI_wI, if_neg (by omega)]) p6⟩
  · rw [rI_wI, if_neg (by omega), p7 i (by omega), l2 i (by omega), l1 i hi]
theorem x_alikeP (hu : wwf u) (hv : wwf v) (h1 : 0 < u.1) (h2 : 0 < v.1) : ∀ (n m : Nat), n ≤ m → n ≤ 3 → HX u v n (f_X5_partAlike m) := by
  intro n
  induction n with
  | zero =>
    intro m _ _ f r c M hf hl hS hr hal hk
    rw [kw, hal] at hk
    cases hk
  | succ n ih =>
    intro m hm hn3 f r c M hf hl hS hr hal hkw h mr hc h8
    obtain ⟨m, rfl⟩ : ∃ k, m = k + 1 := ⟨m - 1, by omega⟩
    have hb := bz_2 n
    rw [bz] at h8
    have hl0 : 3 - r.length = n + 1 := by omega
    obtain ⟨k, k1, k2, k3⟩ := lrd_some hkw
    obtain ⟨x, x1⟩ := fpk_some (f := f) hf hal k3
    obtain ⟨N, n1, n2⟩ := x_lrd hu hv hal hr h mr
    obtain ⟨O, o1, o2⟩ := x_fpk hu hv hal hr (front := f) (k := k) hf (by omega) n2.1 n2.2.1
    have hT : ptA (n + 1) (vU f u v) (vU (1 - f) u v) (vR f r) = if x < 10 then .branch 63 (ptR (dl (fun y => ptL n (vU f u v) (vU (1 - f) u v) (vR f r) (x, y)) (vU (1 - f) u v).1)) (.leaf 0)
        else .branch 45 (.branch 63 (ptR (dl (fun y => ptL n (vU (1 - f) u v) (vU f u v) (vR (1 - f) r) (x - 10, y)) (vU f u v).1)) (.leaf 0)) (.leaf 0) := by
      have e1 : lrd (vU f u v) (vU (1 - f) u v) (vR f r) 1 (n + 1) = some (k + 1) := by
        have : f = 0 ∨ f = 1 := by omega
        rcases this with rfl | rfl
        · exact k1
        · exact (lrd_sw (u := u) (v := v) (r := r)).trans k1
      have e2 : fpk (vU f u v) (vU (1 - f) u v) (vR f r) 0 k = some x := by
        have : f = 0 ∨ f = 1 := by omega
        rcases this with rfl | rfl
        · exact x1
        · exact (fpk_sw (u := u) (v := v) (r := r)).symm.trans x1
      rw [ptA_s, e1, vR_sw hf]
      show (match fpk (vU f u v) (vU (1 - f) u v) (vR f r) 0 k with
        | none => Lean.RArray.leaf 84
        | some x => _) = _
      rw [e2]
    rw [hT]
    have cO : rI O 32 1 = nI c := by rw [(kl_n o2).1, (kl_n n2).1]; exact hc
    have lO : ∀ i, rI O 33 i = rI M 33 i := fun i => by rw [(kl_n o2).2, (kl_n n2).2]
    have eO : Ex CXp M O := (kl_x n2).tr (kl_x o2)
    have hSN := Sh_ex (kl_x n2) hS
    have hSO := Sh_ex eO hS
    have hxi := fpk_is hu hv x1
    show ∃ N, g_X5_partAlike (f_X5_partAlike m) 6 32 (nI f) M = some ((), N) ∧ _
    unfold g_X5_partAlike
    rw [hl0, k1] at n1
    have n1' : f_X3_leastRounds 6 M = some (nI (k + 1), N) := n1
    rw [x1] at o1
    have o1' : f_X3_firstPick 6 (nI f) (nI (k + 1)) N = some (nI x, O) := o1
    rw [jiv_n h.1.1, n1', jb2_some, if_neg (n9 (k + 1) (by omega)).1, jiv_n n2.1.1.1, o1', jb2_some]
    unfold j_X5_partAlike_22 j_X5_partAlike_42 j_X5_partAlike_56 j_X5_partAlike_78 j_X5_partAlike_112 f_X3_length
    have hkn : ∀ {side x' : Nat}, (∀ y, y < sz2 u v (1 - side) → kw u v k (pr2 side x' y :: r) = false) → ∀ y, y < sz2 u v (1 - side) → kw u v n (pr2 side x' y :: r) = false := fun hh y hy => by
      have := kw_le (n - k) (hh y hy)
      rw [Nat.add_sub_cancel' k2] at this
      exact this
    rcases hxi with ⟨y1, y2, y3⟩ | ⟨y1, y1', y2, y3⟩
    · rw [if_pos (nI_pos' (by omega)), if_neg (nI_ge (by omega) (by decide)), if_neg (show ¬ nI 1 = 0 by decide), jiv_n (t32 hSO), x_ncount hSO cO, jb2_some, if_neg (show ¬ nI 1 = 0 by decide), jiv_n o2.1.1.1, gI_n o2.1.1.1, Option.bind_some, o2.2.1.1]
      show ∃ N, (jb2 (jiv 4 O 32 (f_X4_add 32 (nI 63) (nI r.length + nI 1) (nI 0) O)) fun x4 M3 => _) = _ ∧ _
      obtain ⟨A, a1, Q, q1, q2⟩ := x_some (x := x) hu hv h1 h2 (ih m (by omega) (by omega)) hf hl hr hal (by rw [← sz2_U hf]; exact y2) (by omega) (by rw [← sz2_U (by omega)]; exact hkn y3) hSO o2.1 o2.2.1 cO
      obtain ⟨q3, q4, q5, q6, q7, q8⟩ := q2
      rw [jiv_n (t32 hSO), a1, jb2_some, if_neg (show ¬ nI 1 = 0 by decide)]
      obtain ⟨⟨⟩, B, b1, b2⟩ := jb2_iff q1
      have hSQ := Sh_ex q3 hSO
      have hB4 : tg B 32 = (4, 0) := by
        have z := b2
        unfold f_X4_close at z
        rw [if_neg (nI_pos (by omega))] at z
        unfold gI at z
        by_cases w : tg B 32 = (4, 0)
        · exact w
        · rw [if_neg w] at z; cases z
      rw [b1, jb2_some, jiv_n hB4, b2, jb2_some, jiv_n (t32 hSQ)]
      rw [if_pos y1]
      generalize hW : (Lean.RArray.branch 63 (ptR (dl (fun y => ptL n (vU f u v) (vU (1 - f) u v) (vR f r) (x, y)) (vU (1 - f) u v).1)) (.leaf 0) : Fm) = W at *
      have hszW : c + sz W ≤ 800 := by
        have z := (ptA_ok (n + 1) (vU f u v) (vU (1 - f) u v) (vR f r) (vU_w hu hv f) (vU_w hu hv (1 - f)) (vU_p h1 h2 f) (vU_p h1 h2 (1 - f)) (by rw [vR_len]; omega)).2.1
        rw [hT, if_pos y1, bz] at z
        omega
      have hd : rI Q 33 c = nI (63 + 256 * (r.length + 1) + 65536 * sz W) := by
        have z := q7
        rw [← hW, Nx_q (Or.inr rfl)] at z
        rw [z.1, ← hW, sz_u (by decide)]
      have cl := x_nclose2 (a := c) (w := 63 + 256 * (r.length + 1)) (s := sz W) hSQ q6 hszW (by have := sz_pos W; omega) (by omega) (by omega) hd
      rw [cl, jb2_some, Nat.add_sub_cancel_left]
      have e9 : Ey PNo Q (wI Q 33 c (nI (63 + 256 * (r.length + 1) + 65536 * sz W))) := ey_wI Ey.rf (Or.inr rfl)
      have same : ∀ i, rI (wI Q 33 c (nI (63 + 256 * (r.length + 1) + 65536 * sz W))) 33 i = rI Q 33 i := fun i => by
        rw [rI_wI]
        by_cases w : i = c
        · rw [if_pos ⟨rfl, w⟩, w, hd]
        · rw [if_neg (by omega)]
      refine ⟨_, rfl, (eO.tr q3).tr (PNo_x e9).x3, MS_3x (PNo_x e9) q4, MR_3x (PNo_x e9) q5, by rw [rI_wI, if_neg (by omega)]; exact q6, Nx_congr W c c _ (fun i _ => same _) q7, fun i hi => by rw [same, q8 i hi, lO]⟩
    · rw [if_pos (nI_pos' (by omega)), if_pos (nI_le (by omega) (by omega)), if_pos (show nI 0 = 0 from rfl), jiv_n (t32 hSO), x_ncount hSO cO, jb2_some, if_pos (show nI 0 = 0 from rfl)]
      have en := enc_n 45 (by decide) 0 (by decide) O
      have a0 := x_nadd hSO cO (by omega) en
      have e0 : Ey PNo O (wI (wI O 33 c (nI (45 + 256 * 0 + 65536))) 32 1 (nI (c + 1))) := ey_wI (ey_wI Ey.rf (Or.inr rfl)) (Or.inl ⟨rfl, rfl⟩)
      have c0 : rI (wI (wI O 33 c (nI (45 + 256 * 0 + 65536))) 32 1 (nI (c + 1))) 32 1 = nI (c + 1) := by rw [rI_wI, if_pos ⟨rfl, rfl⟩]
      have x0 : rI (wI (wI O 33 c (nI (45 + 256 * 0 + 65536))) 32 1 (nI (c + 1))) 33 c = nI (45 + 65536 * 1) := by rw [rI_wI, if_neg (by omega), rI_wI, if_pos ⟨rfl, rfl⟩]
      have l0 : ∀ i, i < c → rI (wI (wI O 33 c (nI (45 + 256 * 0 + 65536))) 32 1 (nI (c + 1))) 33 i = rI O 33 i := fun i hi => by rw [rI_wI, if_neg (by omega), rI_wI, if_neg (by omega)]
      rw [jiv_n (t32 hSO), a0, jb2_some]
      generalize wI (wI O 33 c (nI (45 + 256 * 0 + 65536))) 32 1 (nI (c + 1)) = D at *
      have hSD := Sh_ey e0 hSO
      have hD := MS_3x (PNo_x e0) o2.1
      have mD := MR_3x (PNo_x e0) o2.2.1
      rw [jiv_n hD.1.1, gI_n hD.1.1, Option.bind_some, mD.1]
      have e1f : 1 - (1 - f) = f := by omega
      rw [e1f] at y3
      obtain ⟨A, a1, Q, q1, q2⟩ := x_some (f := 1 - f) (x := x - 10) (c := c + 1) hu hv h1 h2 (ih m (by omega) (by omega)) (by omega) hl hr hal (by rw [← sz2_U (by omega)]; exact y2) (by omega) (by
        rw [e1f, ← sz2_U hf]
        intro y hy
        have := kw_le (n - k) (y3 y hy)
        rw [Nat.add_sub_cancel' k2] at this
        exact this) hSD hD mD c0
      rw [e1f] at q2
      obtain ⟨q3, q4, q5, q6, q7, q8⟩ := q2
      show ∃ N, (jb2 (jiv 4 D 32 (f_X4_add 32 (nI 63) (nI r.length + nI 1) (nI 0) D)) fun x4 M3 => _) = _ ∧ _
      rw [jiv_n (t32 hSD), a1, jb2_some, if_pos (show nI 0 = 0 from rfl), nI_sb (by omega), nI_sb y1]
      obtain ⟨⟨⟩, B, b1, b2⟩ := jb2_iff q1
      have hSQ := Sh_ex q3 hSD
      have hB4 : tg B 32 = (4, 0) := by
        have z := b2
        unfold f_X4_close at z
        rw [if_neg (nI_pos (by omega))] at z
        unfold gI at z
        by_cases w : tg B 32 = (4, 0)
        · exact w
        · rw [if_neg w] at z; cases z
      rw [b1, jb2_some, jiv_n hB4, b2, jb2_some, jiv_n (t32 hSQ)]
      rw [if_neg (by omega)]
      have hszW : c + (sz (Lean.RArray.branch 63 (ptR (dl (fun y => ptL n (vU (1 - f) u v) (vU f u v) (vR (1 - f) r) (x - 10, y)) (vU f u v).1)) (.leaf 0) : Fm) + 1) ≤ 800 := by
        have z := (ptA_ok (n + 1) (vU f u v) (vU (1 - f) u v) (vR f r) (vU_w hu hv f) (vU_w hu hv (1 - f)) (vU_p h1 h2 f) (vU_p h1 h2 (1 - f)) (by rw [vR_len]; omega)).2.1
        rw [hT, if_neg (by omega), bz, sz_u (by decide)] at z
        omega
      generalize (Lean.RArray.branch 63 (ptR (dl (fun y => ptL n (vU (1 - f) u v) (vU f u v) (vR (1 - f) r) (x - 10, y)) (vU f u v).1)) (.leaf 0) : Fm) = W at *
      have cl := x_nclose2 (a := c) (w := 45) (s := 1) hSQ q6 (by omega) (by have := sz_pos W; omega) (by decide) (by decide) (by rw [q8 c (by omega)]; exact x0)
      rw [cl, jb2_some]
      have e9 : Ey PNo Q (wI Q 33 c (nI (45 + 65536 * (c + 1 + sz W - c)))) := ey_wI Ey.rf (Or.inr rfl)
      refine ⟨_, rfl, ((eO.tr (PNo_x e0).x3).tr q3).tr (PNo_x e9).x3, MS_3x (PNo_x e9) q4, MR_3x (PNo_x e9) q5, by rw [rI_wI, if_neg (by omega), q6, sz_u (by decide)]; congr 1; omega, ?_, fun i hi => by rw [rI_wI, if_neg (by omega), q8 i (by omega), l0 i hi, lO]⟩
      rw [Nx_n]
      exact ⟨by rw [rI_wI, if_pos ⟨rfl, rfl⟩]; congr 1; omega, Nx_congr W (c + 1) (c + 1) _ (fun i _ => by rw [rI_wI, if_neg (by omega)]) q7⟩
end XP6
