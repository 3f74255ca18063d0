/-! WRITING: the reference, node by node. -/
def VP (s b q : Nat) (f : Fm) : Prop := ∀ (sg D p L F m : Nat) (M : jM), Sh M → HQ b M p q f → p + sz f ≤ m → m ≤ 600 → rI M 75 s = nI m → D + dp f ≤ 60 → rI M 65 38 = nI D → rI M 65 42 = nI L → L + (wr q (decide (0 < p)) sg f).length ≤ 8000 →
  ∃ g N, jF0 ≤ g + dp f ∧ l_X12_writeAll_18 (F + sz f) 65 (nI s) (nI b) (nI p) M = wC s b F g (p + sz f) N ∧ VR D L (wr q (decide (0 < p)) sg f) M N ∧ rI N 65 38 = nI D
def VB (s b q : Nat) (f : Fm) : Prop := ∀ (sg D p L F m k0 : Nat) (M : jM), Sh M → HQ b M p q f → p + sz f ≤ m → m ≤ 600 → rI M 75 s = nI m → D + 1 + dp f ≤ 60 → rI M 65 38 = nI (D + 1) → rI M 65 42 = nI L → (sg = 38 ∨ sg = 124) → k0 < p → rI M 88 D = nI k0 → rI M 76 (b + k0) = nI (if sg = 38 then 4 else 5) → rI M 79 (b + k0) = nI (p + sz f) → rI M 90 D = nI (p + fs f) → L + (wr q true sg f ++ (if 0 < k0 then [41] else [])).length ≤ 8000 →
  ∃ g N, jF0 ≤ g + dp f + 1 ∧ l_X12_writeAll_18 (F + sz f) 65 (nI s) (nI b) (nI p) M = wC s b F g (p + sz f) N ∧ VR D L (wr q true sg f ++ (if 0 < k0 then [41] else [])) M N ∧ rI N 65 38 = nI D
section VX
variable {s b : Nat}
theorem HQ_pw {p q : Nat} {f : Fm} {M N : jM} (e : Ey PW M N) (h : HQ b M p q f) : HQ b N p q f := HQ_ey e (fun c k h1 h2 => PW_no (by omega) h2) h
theorem vp_atom (hb : b = 600 * s) (hs : s < 20) {q c : Nat} (hq : q ≤ 8) (ok : aok q c) : VP s b q (.leaf c) := by
  intro sg D p L F m M h hQ hp hm hms hdp hd hl hL
  have hp : p + 1 ≤ m := hp
  have hK : rI M 76 (b + p) = nI (rk (aS c)) := hQ.1.1
  have hK6 : 6 ≤ rk (aS c) ∧ rk (aS c) < 12 := by
    have sg := (aok_c hq ok).2.2.2.1
    rcases sg with z | z | z | z | z | z <;> rw [z] <;> decide
  obtain ⟨N, p1, p2, p3⟩ := v_atom (D := D) (show b + 600 ≤ 12000 by omega) h hq (by omega) ok hQ hl hL
  refine ⟨jF0, N, Nat.le_add_right _ _, ?_, p2, by rw [p3]; exact hd⟩
  show l_X12_writeAll_18 (F + 1) 65 (nI s) (nI b) (nI p) M = _
  rw [v_head h (by omega) hs (by omega) hms (by omega) hm hK hK6.2, if_neg (by omega), if_neg (by omega), if_pos (by omega), p1, jb2_some, jiv_n (t65 (Sh_ey p2.1 h))]
  unfold f_X12_writeBehind
  rw [nm_mul, ← hb]
  rfl
theorem vp_not (hb : b = 600 * s) (hs : s < 20) {q : Nat} {l : Fm} (ih : VP s b q l) : VP s b q (.branch 45 l (.leaf 0)) := by
  intro sg D p L F m M h hQ hp hm hms hdp hd hl hL
  have hz := sz_pos l
  obtain ⟨r1, r2⟩ := hQ
  rw [sz_u (by decide)] at hp ⊢
  rw [dp_u (by decide)] at hdp ⊢
  rw [Nr_n] at r1
  rw [Ne_u (by decide)] at r2
  rw [wr_n] at hL ⊢
  rw [List.length_cons] at hL
  obtain ⟨N1, p1, p2, p3⟩ := v_write (D := D) (v := 45) h hl (by omega) (by decide)
  obtain ⟨g, N, s1, s2, s3, s4⟩ := ih sg D (p + 1) (L + 1) F m N1 (Sh_ey p2.1 h) (HQ_pw p2.1 ⟨r1.2, r2.2⟩) (by omega) hm (by rw [ey_rI p2.1 (PW_no (by omega) (by omega))]; exact hms) (by omega) (by rw [p3]; exact hd) p2.2.2.1 (by rw [decide_eq_true (by omega)]; omega)
  rw [decide_eq_true (show 0 < p + 1 by omega)] at s3
  refine ⟨g, N, by omega, ?_, p2.app s3, s4⟩
  rw [show F + (sz l + 1) = F + sz l + 1 by omega, v_head h (by omega) hs (by omega) hms (by omega) hm r1.1.1 (by decide), if_neg (by decide), if_pos rfl, p1, jb2_some, s2, show p + 1 + sz l = p + (sz l + 1) by omega]
theorem vp_quant (hb : b = 600 * s) (hs : s < 20) {q k : Nat} {l : Fm} (hk : k = 64 ∨ k = 63) (hq : q < 8) (ih : VP s b (q + 1) l) : VP s b q (.branch k l (.leaf 0)) := by
  intro sg D p L F m M h hQ hp hm hms hdp hd hl hL
  have hz := sz_pos l
  obtain ⟨r1, r2⟩ := hQ
  rw [sz_u (by omega)] at hp ⊢
  rw [dp_u (by omega)] at hdp ⊢
  rw [Nr_q hk] at r1
  rw [Ne_u (by omega)] at r2
  rw [wr_q hk] at hL ⊢
  rw [List.length_cons, List.length_cons] at hL
  have n2 : rI M 77 (b + p) = nI q := r1.1.2.1
  obtain ⟨N1, p1, p2, p3⟩ := v_write (D := D) (v := k) h hl (by omega) (by omega)
  have h1 := Sh_ey p2.1 h
  obtain ⟨N2, t1, t2, t3⟩ := v_write (D := D) (v := 97 + q) h1 p2.2.2.1 (by show L + 1 + 1 ≤ 8000; omega) (by omega)
  have e2 := p2.1.tr t2.1
  obtain ⟨g, N, s1, s2, s3, s4⟩ := ih sg D (p + 1) (L + 2) F m N2 (Sh_ey e2 h) (HQ_pw e2 ⟨r1.2, r2.2⟩) (by omega) hm (by rw [ey_rI e2 (PW_no (by omega) (by omega))]; exact hms) (by omega) (by rw [t3, p3]; exact hd) t2.2.2.1 (by rw [decide_eq_true (by omega)]; omega)
  rw [decide_eq_true (show 0 < p + 1 by omega)] at s3
  refine ⟨g, N, by omega, ?_, (p2.app t2).app s3, s4⟩
  have hkk : (if (if k = 64 then 2 else 3) = 2 then 64 else 63) = k := by rcases hk with rfl | rfl <;> rfl
  rw [show F + (sz l + 1) = F + sz l + 1 by omega, v_head h (by omega) hs (by omega) hms (by omega) hm r1.1.1 (by split <;> decide), if_neg (by split <;> decide), if_neg (by split <;> decide), if_neg (by split <;> decide), hkk]
  unfold j_X12_writeAll_157 j_X12_writeAll_191
  rw [jiv_n (t65 h), p1, jb2_some, q65_20 h1, Option.bind_some, ldI_n (t77 h1) (show b + p < 12000 by omega) (by decide), Option.bind_some, ey_rI p2.1 (PW_no (by omega) (by omega)), n2, nI_add, jiv_n (t65 h1), t1, jb2_some, nI_add, s2, show p + 1 + sz l = p + (sz l + 1) by omega]
theorem vp_list (hb : b = 600 * s) (hs : s < 20) {q k : Nat} {l : Fm} (hk : k = 38 ∨ k = 124) (hwl : wf 2 q l) (ih : VB s b q l) : VP s b q (.branch k l (.leaf 0)) := by
  intro sg D p L F m M h hQ hp hm hms hdp hd hl hL
  have hz := sz_pos l
  obtain ⟨r1, r2⟩ := hQ
  rw [sz_u (by omega)] at hp ⊢
  rw [dp_u (by omega)] at hdp ⊢
  rw [Nr_l hk] at r1
  rw [Ne_u (by omega)] at r2
  rw [wr_l hk] at hL ⊢
  have hend := Ne_h (wf_21 hwl) r2.2
  have n76 : rI M 76 (b + p) = nI (if k = 38 then 4 else 5) := r1.1.1
  have hip : ∀ x : Nat, (if decide (0 < p) = true then [x] else []) = (if 0 < p then [x] else []) := fun x => by
    by_cases z : 0 < p
    · rw [if_pos z, decide_eq_true z]; rfl
    · rw [if_neg z, decide_eq_false z]; rfl
  rw [hip 40, hip 41] at hL ⊢
  rw [List.length_append] at hL
  -- down, with xs written ahead
  have go : ∀ (N1 : jM) (xs : List Nat), VR D L xs M N1 → rI N1 65 38 = nI D → L + (xs.length + (wr q true k l ++ (if 0 < p then [41] else [])).length) ≤ 8000 → ∃ g N, jF0 ≤ g + dp l + 1 ∧ j_X12_writeAll_65 (l_X12_writeAll_18 (F + sz l)) 65 (nI s) (nI b) (nI p) N1 = wC s b F g (p + 1 + sz l) N ∧ VR D (L + xs.length) (wr q true k l ++ (if 0 < p then [41] else [])) N1 N ∧ rI N 65 38 = nI D := by
    intro N1 xs v1 d1 hL1
    have h1 := Sh_ey v1.1 h
    unfold j_X12_writeAll_65 j_X12_writeAll_191
    rw [q65_39 h1, Option.bind_some, gI_n (t65 h1), Option.bind_some, d1, stI_n (t88 h1) (by omega) (by decide), Option.bind_some]
    generalize hM2 : wI N1 88 D (nI p) = M2
    have e2 : Ey PW N1 M2 := by rw [← hM2]; exact ey_wI Ey.rf (by unfold PW; omega)
    have s2 := Sh_ey e2 h1
    have o2 : ∀ c k, ¬ (c = 88 ∧ k = D) → rI M2 c k = rI N1 c k := fun c k hc => by rw [← hM2, rI_wI, if_neg hc]
    rw [q65_41 s2, Option.bind_some, gI_n (t65 s2), Option.bind_some, o2 65 38 (by omega), d1, q65_22 s2, Option.bind_some, nI_add, nI_add, ldI_n (t79 s2) (by omega) (by decide), Option.bind_some, o2 79 _ (by omega), ey_rI v1.1 (PW_no (by omega) (by omega)), Nat.add_assoc, hend, stI_n (t90 s2) (by omega) (by decide), Option.bind_some]
    generalize hM3 : wI M2 90 D (nI (p + 1 + fs l)) = M3
    have e3 : Ey PW N1 M3 := by rw [← hM3]; exact ey_wI e2 (by unfold PW; omega)
    have s3 := Sh_ey e3 h1
    have o3 : ∀ c k, ¬ (c = 90 ∧ k = D) → rI M3 c k = rI M2 c k := fun c k hc => by rw [← hM3, rI_wI, if_neg hc]
    rw [gI_n (t65 s3), Option.bind_some, o3 65 38 (by omega), o2 65 38 (by omega), d1, nI_add, pI_n (t65 s3), Option.bind_some, nI_add]
    generalize hM4 : wI M3 65 38 (nI (D + 1)) = M4
    have e4 : Ey PW N1 M4 := by rw [← hM4]; exact ey_wI e3 (by unfold PW; omega)
    have o4 : ∀ c k, ¬ (c = 65 ∧ k = 38) → rI M4 c k = rI M3 c k := fun c k hc => by rw [← hM4, rI_wI, if_neg hc]
    have v4 : VR D (L + xs.length) [] N1 M4 := VR.no e4 (fun j hj => ⟨by rw [o4 _ _ (by omega), o3 _ _ (by omega), o2 _ _ (by omega)], by rw [o4 _ _ (by omega), o3 _ _ (by omega), o2 _ _ (by omega)]⟩) (by rw [o4 _ _ (by omega), o3 _ _ (by omega), o2 _ _ (by omega)]; exact v1.2.2.1) (fun i => by rw [o4 _ _ (by omega), o3 _ _ (by omega), o2 _ _ (by omega)])
    have eM := v1.1.tr e4
    obtain ⟨g, N, a1, a2, a3, a4⟩ := ih k D (p + 1) (L + xs.length) F m p M4 (Sh_ey eM h) (HQ_pw eM ⟨r1.2, r2.2⟩) (by omega) hm (by rw [ey_rI eM (PW_no (by omega) (by omega))]; exact hms) (by omega) (by rw [← hM4, rI_wI, if_pos ⟨rfl, rfl⟩]) v4.2.2.1 hk (by omega) (by rw [o4 _ _ (by omega), o3 _ _ (by omega), ← hM2, rI_wI, if_pos ⟨rfl, rfl⟩]) (by rw [ey_rI eM (PW_no (by omega) (by omega))]; exact n76) (by rw [ey_rI eM (PW_no (by omega) (by omega)), r2.1, show p + (sz l + 1) = p + 1 + sz l by omega]) (by rw [o4 _ _ (by omega), ← hM3, rI_wI, if_pos ⟨rfl, rfl⟩]) (by omega)
    have := v4.app (show VR D (L + xs.length + ([] : List Nat).length) _ M4 N from a3)
    exact ⟨g, N, a1, a2, this, a4⟩
  rw [show F + (sz l + 1) = F + sz l + 1 by omega, v_head h (by omega) hs (by omega) hms (by omega) hm r1.1.1 (by split <;> decide), if_pos (by split; exact Or.inl rfl; exact Or.inr rfl), show p + (sz l + 1) = p + 1 + sz l by omega]
  unfold j_X12_writeAll_55
  by_cases hp0 : 0 < p
  · rw [if_pos hp0] at hL
    obtain ⟨N1, p1, p2, p3⟩ := v_write (D := D) (v := 40) h hl (by have : L + (1 + _) ≤ 8000 := hL; omega) (by decide)
    rw [if_neg (nI_nle hp0 (by omega)), jiv_n (t65 h), p1, jb2_some, if_pos hp0]
    obtain ⟨g, N, a1, a2, a3, a4⟩ := go N1 [40] p2 (by rw [p3]; exact hd) (by rw [if_pos hp0] at hL ⊢; exact hL)
    exact ⟨g, N, by omega, a2, p2.app a3, a4⟩
  · rw [if_neg hp0] at hL
    rw [if_pos (by rw [show p = 0 by omega]; decide), if_neg hp0]
    obtain ⟨g, N, a1, a2, a3, a4⟩ := go M [] (VR.nil hl) hd (by rw [if_neg hp0] at hL ⊢; exact hL)
    exact ⟨g, N, by omega, a2, a3, a4⟩
/-- at the end of a list: up, and a bracket -/
theorem v_up {F g x D L k0 : Nat} {M : jM} (h : Sh M) (hd : rI M 65 38 = nI (D + 1)) (hD : D < 64) (hl : rI M 65 42 = nI L) (hL : L + (if 0 < k0 then [41] else ([] : List Nat)).length ≤ 8000) (h88 : rI M 88 D = nI k0) (hk : b + k0 < 12000) (hk6 : k0 < 600) (he : rI M 79 (b + k0) = nI x) : ∃ N, wC s b F (g + 1) x M = wC s b F g x N ∧ VR D L (if 0 < k0 then [41] else []) M N ∧ rI N 65 38 = nI D := by
  have main : ∃ N, l_X12_writeBehind_6 (g + 1) 65 (nI x) (nI b) M = l_X12_writeBehind_6 g 65 (nI x) (nI b) N ∧ VR D L (if 0 < k0 then [41] else []) M N ∧ rI N 65 38 = nI D := by
    show ∃ N, b_X12_writeBehind_6 (l_X12_writeBehind_6 g) 65 (nI x) (nI b) M = _ ∧ _
    unfold b_X12_writeBehind_6
    rw [gI_n (t65 h), Option.bind_some, hd, if_neg (nI_nle (by omega) (by omega)), q65_22 h, Option.bind_some, q65_39 h, Option.bind_some, Option.bind_some, pk_sub (by omega), show D + 1 - 1 = D by omega, ldI_n (t88 h) hD (by decide), Option.bind_some, h88, nI_add, ldI_n (t79 h) hk (by decide), Option.bind_some, he, if_pos rfl, Option.bind_some, pk_sub (by omega), show D + 1 - 1 = D by omega, pI_n (t65 h), Option.bind_some]
    generalize hM2 : wI M 65 38 (nI D) = M2
    have e2 : Ey PW M M2 := by rw [← hM2]; exact ey_wI Ey.rf (by unfold PW; omega)
    have s2 := Sh_ey e2 h
    have o2 : ∀ c k, ¬ (c = 65 ∧ k = 38) → rI M2 c k = rI M c k := fun c k hc => by rw [← hM2, rI_wI, if_neg hc]
    have d2 : rI M2 65 38 = nI D := by rw [← hM2, rI_wI, if_pos ⟨rfl, rfl⟩]
    have v2 : VR D L [] M M2 := VR.no e2 (fun j hj => ⟨o2 _ _ (by omega), o2 _ _ (by omega)⟩) (by rw [o2 _ _ (by omega)]; exact hl) (fun i => o2 _ _ (by omega))
    rw [q65_39 s2, Option.bind_some, gI_n (t65 s2), Option.bind_some, d2, ldI_n (t88 s2) hD (by decide), Option.bind_some, o2 88 D (by omega), h88]
    by_cases h0 : 0 < k0
    · rw [if_pos h0] at hL
      rw [if_neg (nI_nle h0 (by omega)), jiv_n (t65 s2), if_pos h0]
      obtain ⟨N, p1, p2, p3⟩ := v_write (D := D) (v := 41) s2 v2.2.2.1 (by show L + 0 + 1 ≤ 8000; exact hL) (by decide)
      rw [p1, jb2_some]
      exact ⟨N, rfl, v2.app p2, by rw [p3]; exact d2⟩
    · rw [if_pos (by rw [show k0 = 0 by omega]; decide), if_neg h0]
      exact ⟨M2, rfl, v2, d2⟩
  obtain ⟨N, p1, p2⟩ := main
  refine ⟨N, ?_, p2⟩
  unfold wC
  rw [p1]
/-- between two parts: the sign, and on -/
theorem v_on {F g x e E D L k0 sg : Nat} {M : jM} (hsg : sg = 38 ∨ sg = 124) (h : Sh M) (hd : rI M 65 38 = nI (D + 1)) (hD : D < 64) (hl : rI M 65 42 = nI L) (hL : L + 1 ≤ 8000) (h88 : rI M 88 D = nI k0) (hk : b + k0 < 12000) (he : rI M 79 (b + k0) = nI e) (hxe : x ≠ e) (hx6 : b + x < 12000) (he6 : e < 2 ^ 31) (h90 : rI M 90 D = nI x) (h76 : rI M 76 (b + k0) = nI (if sg = 38 then 4 else 5)) (hE : rI M 79 (b + x) = nI E) : ∃ N, wC s b F (g + 1) x M = l_X12_writeAll_18 F 65 (nI s) (nI b) (nI x) N ∧ VR D L [sg] M N ∧ rI N 65 38 = nI (D + 1) ∧ rI N 88 D = nI k0 ∧ rI N 90 D = nI E := by
  obtain ⟨N1, p1, p2, p3⟩ := v_write (D := D + 1) (v := sg) h hl hL (by omega)
  have h1 := Sh_ey p2.1 h
  obtain ⟨k1, k2⟩ := p2.2.1 D (by omega)
  have fin : j_X12_writeBehind_118 65 (nI x) (nI b) 65 (nI sg) M = some ((), wI N1 90 D (nI E)) := by
    unfold j_X12_writeBehind_118
    rw [jiv_n (t65 h), p1, jb2_some, q65_41 h1, Option.bind_some, gI_n (t65 h1), Option.bind_some, p3, hd, q65_22 h1, Option.bind_some, nI_add, ldI_n (t79 h1) hx6 (by decide), Option.bind_some, ey_rI p2.1 (PW_no (by omega) (by omega)), hE, pk_sub (by omega), show D + 1 - 1 = D by omega, stI_n (t90 h1) hD (by decide), Option.bind_some]
    rfl
  have main : l_X12_writeBehind_6 (g + 1) 65 (nI x) (nI b) M = some ((), wI N1 90 D (nI E)) := by
    show b_X12_writeBehind_6 (l_X12_writeBehind_6 g) 65 (nI x) (nI b) M = _
    unfold b_X12_writeBehind_6 j_X12_writeBehind_66
    rw [gI_n (t65 h), Option.bind_some, hd, if_neg (nI_nle (by omega) (by omega)), q65_22 h, Option.bind_some, q65_39 h, Option.bind_some, Option.bind_some, pk_sub (by omega), show D + 1 - 1 = D by omega, ldI_n (t88 h) hD (by decide), Option.bind_some, h88, nI_add, ldI_n (t79 h) hk (by decide), Option.bind_some, he, if_neg (fun z => hxe ((nI_eq (by omega) he6).mp z.symm)), Option.bind_some, if_neg (nI_nle (by omega) (by omega)), q65_41 h, Option.bind_some, Option.bind_some, pk_sub (by omega), show D + 1 - 1 = D by omega, ldI_n (t90 h) hD (by decide), Option.bind_some, h90, if_pos rfl, q65_19 h, Option.bind_some, Option.bind_some, Option.bind_some, pk_sub (by omega), show D + 1 - 1 = D by omega, ldI_n (t88 h) hD (by decide), Option.bind_some, h88, nI_add, ldB_n (t76 h) hk (by decide), Option.bind_some, h76]
    rcases hsg with rfl | rfl
    · rw [if_pos rfl]; exact fin
    · rw [if_neg (by decide)]; exact fin
  refine ⟨wI N1 90 D (nI E), ?_, ?_, by rw [rI_wI, if_neg (by omega), p3]; exact hd, by rw [rI_wI, if_neg (by omega), k1]; exact h88, by rw [rI_wI, if_pos ⟨rfl, rfl⟩]⟩
  · unfold wC; rw [main]; rfl
  · exact (p2.le (show D ≤ D + 1 by omega)).app (show VR D (L + [sg].length) [] N1 _ from VR.no (ey_wI Ey.rf (by unfold PW; omega)) (fun j hj => ⟨by rw [rI_wI, if_neg (by omega)], by rw [rI_wI, if_neg (by omega)]⟩) (by rw [rI_wI, if_neg (by omega)]; exact p2.2.2.1) (fun i => by rw [rI_wI, if_neg (by omega)]))
theorem vb_one (hb : b = 600 * s) (hs : s < 20) {q : Nat} {l : Fm} (hwl : wf 0 q l) (ih : VP s b q l) : VB s b q l := by
  intro sg D p L F m k0 M h hQ hp hm hms hdp hd hl hsg hk0 h88 h76 h79 h90 hL
  obtain ⟨n0, hn0⟩ := jF_is
  rw [List.length_append] at hL
  obtain ⟨g, N, p1, p2, p3, p4⟩ := ih sg (D + 1) p L F m M h hQ hp hm hms (by omega) hd hl (by rw [decide_eq_true (by omega)]; omega)
  rw [decide_eq_true (show 0 < p by omega)] at p3
  obtain ⟨g, rfl⟩ : ∃ g', g = g' + 1 := ⟨g - 1, by omega⟩
  obtain ⟨N2, s1, s2, s3⟩ := v_up (s := s) (b := b) (F := F) (g := g) (x := p + sz l) (k0 := k0) (Sh_ey p3.1 h) p4 (by omega) p3.2.2.1 (by omega) (by rw [(p3.2.1 D (by omega)).1]; exact h88) (by omega) (by omega) (by rw [ey_rI p3.1 (PW_no (by omega) (by omega))]; exact h79)
  exact ⟨g, N2, by omega, p2.trans s1, (p3.le (by omega)).app s2, s3⟩
theorem vb_cons (hb : b = 600 * s) (hs : s < 20) {q : Nat} {l r : Fm} (hwl : wf 0 q l) (hwr : wf 1 q r) (ih : VP s b q l) (ih2 : VB s b q r) : VB s b q (.branch 0 l r) := by
  intro sg D p L F m k0 M h hQ hp hm hms hdp hd hl hsg hk0 h88 h76 h79 h90 hL
  obtain ⟨n0, hn0⟩ := jF_is
  have hz := sz_pos l
  have hz2 := sz_pos r
  obtain ⟨r1, r2⟩ := hQ
  rw [Nr_c] at r1
  rw [Ne_c] at r2
  rw [sz_c] at hp h79 ⊢
  rw [dp_c] at hdp ⊢
  rw [fs_c] at h90
  have ht : wr q true sg (.branch 0 l r) ++ (if 0 < k0 then [41] else []) = wr q true sg l ++ ([sg] ++ (wr q true sg r ++ (if 0 < k0 then [41] else []))) := by rw [wr_c]; simp
  rw [ht] at hL ⊢
  rw [List.length_append, List.length_append] at hL
  have hL : L + ((wr q true sg l).length + (1 + (wr q true sg r ++ (if 0 < k0 then [41] else [])).length)) ≤ 8000 := hL
  obtain ⟨g, N, p1, p2, p3, p4⟩ := ih sg (D + 1) p L (F + sz r) m M h ⟨r1.1, r2.1⟩ (by omega) hm hms (by omega) hd hl (by rw [decide_eq_true (by omega)]; omega)
  rw [decide_eq_true (show 0 < p by omega)] at p3
  obtain ⟨g, rfl⟩ : ∃ g', g = g' + 1 := ⟨g - 1, by omega⟩
  obtain ⟨k1, k2⟩ := p3.2.1 D (by omega)
  obtain ⟨N2, s1, s2, s3, s4, s5⟩ := v_on (s := s) (b := b) (F := F + sz r) (g := g) (x := p + sz l) (e := p + (sz l + sz r)) (E := p + sz l + fs r) hsg (Sh_ey p3.1 h) p4 (by omega) p3.2.2.1 (by omega) (by rw [k1]; exact h88) (by omega) (by rw [ey_rI p3.1 (PW_no (by omega) (by omega))]; exact h79) (by omega) (by omega) (by omega) (by rw [k2]; exact h90) (by rw [ey_rI p3.1 (PW_no (by omega) (by omega))]; exact h76) (by rw [ey_rI p3.1 (PW_no (by omega) (by omega))]; exact Ne_h hwr r2.2)
  have e2 := p3.1.tr s2.1
  obtain ⟨g2, N3, u1, u2, u3, u4⟩ := ih2 sg D (p + sz l) (L + (wr q true sg l).length + 1) F m k0 N2 (Sh_ey e2 h) (HQ_pw e2 ⟨r1.2, r2.2⟩) (by omega) hm (by rw [ey_rI e2 (PW_no (by omega) (by omega))]; exact hms) (by omega) s3 s2.2.2.1 hsg (by omega) s4 (by rw [ey_rI e2 (PW_no (by omega) (by omega))]; exact h76) (by rw [ey_rI e2 (PW_no (by omega) (by omega)), h79, Nat.add_assoc]) s5 (by omega)
  refine ⟨g2, N3, by omega, ?_, (p3.le (by omega)).app (s2.app u3), u4⟩
  rw [show F + (sz l + sz r) = F + sz r + sz l by omega, p2, s1, u2, Nat.add_assoc]
theorem vp_all (hb : b = 600 * s) (hs : s < 20) : ∀ f q, (wf 0 q f → VP s b q f) ∧ (wf 1 q f → VB s b q f) :=
  fm_ind (P := VP s b) (B := VB s b) (fun q c h1 h2 => vp_atom hb hs h1 h2) (fun q l _ ih => vp_not hb hs ih) (fun q k l hk hq _ ih => vp_quant hb hs hk hq ih) (fun q k l hk hl ih => vp_list hb hs hk hl ih) (fun q f h ih => vb_one hb hs h ih) (fun q l r h h2 ih ih2 => vb_cons hb hs h h2 ih ih2)
/-- the whole text -/
theorem m_text (hs : s < 20) {f : Fm} (hwf : wf 0 0 f) (hsz : sz f ≤ 600) (hdp : dp f ≤ 30) {M : jM} (h : Sh M) (hQ : HQ (600 * s) M 0 0 f) (hms : rI M 75 s = nI (sz f)) (hL : (wr 0 false 0 f).length ≤ 8000) : ∃ N, f_X12_writeAll 65 (nI s) M = some ((), N) ∧ Ey PW M N ∧ rI N 65 42 = nI (wr 0 false 0 f).length ∧ ∀ i, i < (wr 0 false 0 f).length → rI N 91 i = nI ((wr 0 false 0 f).getD i 0) := by
  obtain ⟨n0, hn0⟩ := jF_is
  unfold f_X12_writeAll
  rw [nm_mul]
  show ∃ N, ((pI 11 M 65 42 (nI 0)).bind fun M2 => (pI 11 M2 65 38 (nI 0)).bind fun M3 => l_X12_writeAll_18 jF0 65 (nI s) (nI (600 * s)) (nI 0) M3) = _ ∧ _
  have e1 : Ey PW M (wI M 65 42 (nI 0)) := ey_wI Ey.rf (by unfold PW; omega)
  rw [pI_n (t65 h), Option.bind_some, pI_n (t65 (Sh_ey e1 h)), Option.bind_some]
  generalize hM2 : wI (wI M 65 42 (nI 0)) 65 38 (nI 0) = M2
  have e2 : Ey PW M M2 := by rw [← hM2]; exact ey_wI e1 (by unfold PW; omega)
  obtain ⟨F, hF⟩ : ∃ F, jF0 = F + 1 + sz f := ⟨jF0 - sz f - 1, by omega⟩
  obtain ⟨g, N, p1, p2, p3, p4⟩ := (vp_all (rfl : 600 * s = 600 * s) hs f 0).1 hwf 0 0 0 0 (F + 1) (sz f) M2 (Sh_ey e2 h) (HQ_pw e2 hQ) (by omega) hsz (by rw [ey_rI e2 (PW_no (by omega) (by omega))]; exact hms) (by omega) (by rw [← hM2, rI_wI, if_pos ⟨rfl, rfl⟩]) (by rw [← hM2, rI_wI, if_neg (by omega), rI_wI, if_pos ⟨rfl, rfl⟩]) (by rw [decide_eq_false (by omega)]; omega)
  rw [decide_eq_false (show ¬ 0 < 0 by omega)] at p3
  obtain ⟨g, rfl⟩ : ∃ g', g = g' + 1 := ⟨g - 1, by omega⟩
  have e3 := e2.tr p3.1
  have h3 := Sh_ey e3 h
  have inn : l_X12_writeBehind_6 (g + 1) 65 (nI (0 + sz f)) (nI (600 * s)) N = some ((), N) := by
    show b_X12_writeBehind_6 (l_X12_writeBehind_6 g) 65 (nI (0 + sz f)) (nI (600 * s)) N = _
    unfold b_X12_writeBehind_6 j_X12_writeBehind_66
    rw [gI_n (t65 h3), Option.bind_some, p4, if_pos (by decide), Option.bind_some, if_pos (by decide)]
    rfl
  refine ⟨N, ?_, e3, by rw [p3.2.2.1, Nat.zero_add], fun i hi => ?_⟩
  · rw [hF, p2]
    unfold wC
    rw [inn, jb2_some]
    show b_X12_writeAll_18 (l_X12_writeAll_18 F) 65 (nI s) (nI (600 * s)) (nI (0 + sz f)) N = _
    unfold b_X12_writeAll_18
    rw [q65_18 h3, Option.bind_some, ldI_n (t75 h3) hs (by decide), Option.bind_some, ey_rI e3 (PW_no (by omega) (by omega)), hms, if_pos (nI_le (by omega) (by omega))]
    rfl
  · have := p3.2.2.2.2 i hi
    rw [Nat.zero_add] at this
    exact this
end VX
