/-! PARTINGS: the reference's loop over the replies. -/
def bpg (G : Nat → jM → jO Unit) (k : Nat → Int32 → Int32 → Int32 → Int32 → jM → jO Unit) (v0 : Nat) (v1 v2 v3 v4 : Int32) (M : jM) : jO Unit :=
  (gR 11 M v0 0).bind fun r1 =>
  (gI 11 M v0 6).bind fun x2 =>
  (ldI M r1 x2).bind fun x3 =>
  if x3 ≤ v4 then
    jb2 (jiv 11 M v0 (f_X12_closeParts v0 v2 v3 M)) fun _ M4 =>
    jb2 (jiv 11 M4 v0 (f_X12_endPick v0 v1 M4)) fun _ M5 =>
    rt () M5
  else
    (gI 11 M v0 23).bind fun x6 =>
    (rm v1 (nI 10)).bind fun z7 =>
    jb2 (jiv 11 M v0 (f_X12_add v0 z7 v4 M)) fun _ M8 =>
    jb2 (jiv 11 M8 v0 (G v0 M8)) fun _ M9 =>
    (gI 11 M9 v0 7).bind fun x10 =>
    (pI 11 M9 v0 7 (x10 - (nI 1))).bind fun M11 =>
    jb2 (jiv 11 M11 v0 (f_X12_keepUnlike v0 (v2 + (nI 1)) x6 v3 M11)) fun x13 M12 =>
    k v0 v1 v2 x13 (v4 + (nI 1)) M12
def lpg (G : Nat → jM → jO Unit) : Nat → Nat → Int32 → Int32 → Int32 → Int32 → jM → jO Unit
  | 0 => fun _ _ _ _ _ _ => none
  | n + 1 => bpg G (lpg G n)
theorem lpg_1 : ∀ n, l_X12_part1_29 n = lpg f_X12_partAtom n
  | 0 => rfl
  | n + 1 => by
    show b_X12_part1_29 (l_X12_part1_29 n) = bpg f_X12_partAtom (lpg f_X12_partAtom n)
    rw [lpg_1 n]
    rfl
theorem lpg_2 : ∀ n, l_X12_part2_34 n = lpg f_X12_part1 n
  | 0 => rfl
  | n + 1 => by
    show b_X12_part2_34 (l_X12_part2_34 n) = bpg f_X12_part1 (lpg f_X12_part1 n)
    rw [lpg_2 n]
    rfl
theorem lpg_3 : ∀ n, l_X12_part3_34 n = lpg f_X12_part2 n
  | 0 => rfl
  | n + 1 => by
    show b_X12_part3_34 (l_X12_part3_34 n) = bpg f_X12_part2 (lpg f_X12_part2 n)
    rw [lpg_3 n]
    rfl
theorem rm10 : ∀ x, x < 16 → rm (nI x) (nI 10) = some (nI (x % 10)) := by decide +kernel
section LG
variable {ws : Nat → Wd} {w1 w2 : Nat} {r : Rw} {M : jM} {c : Nat}
/-- what a reply's part gives -/
def HGm (ws : Nat → Wd) (w1 w2 : Nat) (r : Rw) (x n : Nat) (g : Nat → Fm) (G : Nat → jM → jO Unit) : Prop := ∀ (y c : Nat) (M : jM), y < (ws w2).1 → GG ws w1 w2 ((x, y) :: r) M → rI M 65 23 = nI c → c + bz n ≤ 800 → ∃ N, G 65 M = some ((), N) ∧ MO ws w1 w2 ((x, y) :: r) (r.length + 1) c (g y) M N
theorem PPr_g {M N : jM} {ws : Nat → Wd} {w1 w2 : Nat} {r : Rw} (e : Ey PNm M N) (g : GG ws w1 w2 r M) : GG ws w1 w2 r N := GG_nm e g
theorem n_close {c : Nat} {fs : List Fm} {q : Nat} (g : GG ws w1 w2 r M) (hne : fs ≠ []) (hw : ∀ z ∈ fs, wf 0 q z) (hl : fs.length ≤ 6) (hc : rI M 65 23 = nI (c + 1 + szL fs)) (h8 : c + 1 + szL fs ≤ 800) (n80 : rI M 80 c = nI 4) (n82 : rI M 82 c = nI 0) (hL : NrL M q (c + 1) fs) : ∃ N, f_X12_closeParts 65 (nI c) (nI fs.length) M = some ((), N) ∧ Ey PNm M N ∧ rI N 65 23 = nI (c + sz (ptR fs)) ∧ NRp N c q (ptR fs) ∧ ∀ i, i < c → rI N 80 i = rI M 80 i ∧ rI N 81 i = rI M 81 i ∧ rI N 82 i = rI M 82 i := by
  have h := g.1
  obtain ⟨n0, hn0⟩ := jF_is
  unfold f_X12_closeParts
  rw [q65_25 h, Option.bind_some, stI_n (t81 h) (by omega) (by decide), Option.bind_some]
  have e1 : Ey PNm M (wI M 81 c (nI fs.length)) := ey_wI Ey.rf (Or.inr (by decide))
  have h1 := Sh_ey e1 h
  match fs, hne with
  | [z], _ =>
    have hz : szL [z] = sz z := by unfold szL; simp
    rw [hz] at hc h8
    have hzw := hw z (by simp)
    have hzp := sz_pos z
    rw [if_pos (show nI [z].length = nI 1 from rfl)]
    obtain ⟨O, o1, o2, o3, o4⟩ := clo_l (M := wI M 81 c (nI [z].length)) (a := c) (c := c + 1 + sz z) (by omega) (fun i i1 i2 => by
      rw [rI_wI, if_neg (by omega), rI_wI, if_neg (by omega)]
      by_cases hic : i = c
      · rw [hic]; exact ⟨⟨4, by decide, n80⟩, 0, by decide, n82⟩
      · have y := (n8_all z q).1 hzw _ _ _ (c + 1) (i - (c + 1)) hL.1 (by omega)
        rw [Nat.add_sub_cancel' (by omega)] at y
        exact y) (sz z) c jF0 _ (by omega) (Nat.le_refl _) h1 (by rw [rI_wI, if_neg (by omega)]; exact hc) (fun e _ _ => ⟨fun _ _ => rfl, fun j j1 j2 => by omega, fun _ _ _ => rfl⟩) (by omega)
    refine ⟨O, o1, e1.tr o2, ?_, ?_, fun i hi => ?_⟩
    · rw [o3]; show nI (c + 1 + sz z - 1) = nI (c + sz z); congr 1; omega
    · refine NRp_same (f := z) (p := c + 1) (fun i hi => ?_) hL.1
      refine ⟨?_, ?_, ?_⟩
      · rw [(o4 80 (by decide) (by decide)).2 _ (by omega) (by omega), rI_wI, if_neg (by omega)]; congr 1; omega
      · rw [(o4 81 (by decide) (by decide)).2 _ (by omega) (by omega), rI_wI, if_neg (by omega)]; congr 1; omega
      · rw [(o4 82 (by decide) (by decide)).2 _ (by omega) (by omega), rI_wI, if_neg (by omega)]; congr 1; omega
    · refine ⟨?_, ?_, ?_⟩
      · rw [(o4 80 (by decide) (by decide)).1 i hi, rI_wI, if_neg (by omega)]
      · rw [(o4 81 (by decide) (by decide)).1 i hi, rI_wI, if_neg (by omega)]
      · rw [(o4 82 (by decide) (by decide)).1 i hi, rI_wI, if_neg (by omega)]
  | z :: y :: fs, _ =>
    have h2 : 2 ≤ (z :: y :: fs).length := by simp
    have e38 : ptR (z :: y :: fs) = .branch 38 (tr (z :: y :: fs)) (.leaf 0) := rfl
    have hsz : ∀ (fs : List Fm), fs ≠ [] → sz (tr fs) = szL fs := by
      intro fs
      induction fs with
      | nil => intro h; exact absurd rfl h
      | cons a fs ih =>
        intro _
        cases fs with
        | nil => show sz a = _; unfold szL; simp
        | cons b fs => rw [tr_2, sz_c, ih (by simp)]; exact szL_c.symm
    have hs := hsz (z :: y :: fs) (by simp)
    rw [if_neg (fun w => by have := (nI_eq (by omega) (by decide)).mp w; omega), e38]
    refine ⟨_, rfl, e1, ?_, ?_, fun i hi => ⟨by rw [rI_wI, if_neg (by omega)], by rw [rI_wI, if_neg (by omega)], by rw [rI_wI, if_neg (by omega)]⟩⟩
    · rw [rI_wI, if_neg (by omega), hc, sz_u (by decide), hs]; congr 1; omega
    · unfold NRp
      simp only [Nr]
      rw [if_neg (by decide), if_neg (by decide), if_neg (by decide), if_neg (by decide)]
      refine ⟨⟨by rw [rI_wI, if_neg (by omega), n80]; rfl, by rw [rI_wI, if_pos ⟨rfl, rfl⟩, tr_np _ (by simp) hw], by rw [rI_wI, if_neg (by omega), n82]⟩, ?_⟩
      exact Nr_congr (tr (z :: y :: fs)) (c + 1) (c + 1) q (fun i hi => ⟨by rw [rI_wI, if_neg (by omega)], by rw [rI_wI, if_neg (by omega)], by rw [rI_wI, if_neg (by omega)]⟩) (NrL_tr _ _ (by simp) hL)
theorem lpg_ok (hf : WF ws) (h2 : w2 < 8) {x n : Nat} {g : Nat → Fm} {G : Nat → jM → jO Unit} (hx : x < 16) (hG : HGm ws w1 w2 r (x % 10) n g G) (hl : r.length < 5) (h8 : c + 1 + 6 * bz n ≤ 800) (hn6 : bz n ≤ 600) (hok : ∀ y, y < (ws w2).1 → wf 0 (r.length + 1) (g y) ∧ sz (g y) ≤ bz n) (h0 : 0 < (ws w2).1) : ∀ (d j F : Nat) (M : jM), j + d = (ws w2).1 → d < F → GG ws w1 w2 r M → rI M 65 23 = nI (c + 1 + szL (dl g j)) → rI M 80 c = nI 4 → rI M 82 c = nI 0 → NrL M (r.length + 1) (c + 1) (dl g j) → ∃ N, lpg G F 65 (nI x) (nI c) (nI (dl g j).length) (nI j) M = (jb2 (jiv 11 N 65 (f_X12_endPick 65 (nI x) N)) fun _ M5 => rt () M5) ∧ MO ws w1 w2 r (r.length + 1) c (ptR (dl g (ws w2).1)) M N := by
  have hV6 := (hf w2).1
  have hall : ∀ j, j ≤ (ws w2).1 → ∀ z ∈ dl g j, wf 0 (r.length + 1) z ∧ sz z ≤ bz n := fun j hj z hz => by
    obtain ⟨i, i1, i2⟩ := dl_mem _ hz
    rw [i2]; exact hok i (by omega)
  have hsz : ∀ j, j ≤ (ws w2).1 → szL (dl g j) ≤ j * bz n := by
    intro j
    induction j with
    | zero => intro _; exact Nat.zero_le _
    | succ j ih =>
      intro hj
      have z := ih (by omega)
      have := (hok j (by omega)).2
      rw [Nat.succ_mul, dl]
      split
      · omega
      · rw [szL_a]; omega
  intro d
  induction d with
  | zero =>
    intro j F M hjd hF gg hc n80 n82 hL
    have hj : j = (ws w2).1 := by omega
    obtain ⟨F, rfl⟩ : ∃ G, F = G + 1 := ⟨F - 1, by omega⟩
    have hlen := dl_len g j
    have hszj := hsz j (by omega)
    have hmul : j * bz n ≤ 6 * bz n := Nat.mul_le_mul_right _ (by omega)
    obtain ⟨N, n1, n2, n3, n4, n5⟩ := n_close (c := c) gg (hlen.2 (by omega)) (fun z hz => (hall j (by omega) z hz).1) (by omega) hc (by omega) n80 n82 hL
    show ∃ N, bpg G (lpg G F) 65 (nI x) (nI c) (nI (dl g j).length) (nI j) M = _ ∧ _
    unfold bpg
    rw [q65_0 gg.1, Option.bind_some, gI_n (t65 gg.1), Option.bind_some, gg.2.2.2.1, ldI_n (t66 gg.1) (by omega) (by decide), Option.bind_some, (gg.2.1 w2 h2).1, if_pos (nI_le (by omega) (by omega)), jiv_n (t65 gg.1), n1, jb2_some]
    rw [← hj]
    exact ⟨N, rfl, GG_nm n2 gg, n2.mono fun _ _ => PNm_r, n3, n4, n5⟩
  | succ d ih =>
    intro j F M hjd hF gg hc n80 n82 hL
    obtain ⟨F, rfl⟩ : ∃ G, F = G + 1 := ⟨F - 1, by omega⟩
    have hlen := dl_len g j
    have hszj := hsz j (by omega)
    have hmul : (j + 1) * bz n ≤ 6 * bz n := Nat.mul_le_mul_right _ (by omega)
    rw [Nat.succ_mul] at hmul
    obtain ⟨hw, hz⟩ := hok j (by omega)
    obtain ⟨A, a1, a2, a3⟩ := n_add gg hl (x % 10) j
    have cA : rI A 65 23 = nI (c + 1 + szL (dl g j)) := by rw [ey_rI a3 (by unfold PG; omega)]; exact hc
    obtain ⟨B, b1, b2, b3, b4, b5, b6⟩ := hG j _ A (by omega) a2 cA (by omega)
    obtain ⟨d1, d2⟩ := n_less b2
    have rD : ∀ e i, 80 ≤ e → e ≤ 82 → rI (wI B 65 7 (rI B 65 7 - nI 1)) e i = rI B e i := fun e i e1 e2 => by rw [rI_wI, if_neg (by omega)]
    have rA : ∀ e i, 80 ≤ e → e ≤ 82 → rI A e i = rI M e i := fun e i e1 e2 => ey_rI a3 (by unfold PG; omega)
    have low : ∀ i, i < c + 1 + szL (dl g j) → rI (wI B 65 7 (rI B 65 7 - nI 1)) 80 i = rI M 80 i ∧ rI (wI B 65 7 (rI B 65 7 - nI 1)) 81 i = rI M 81 i ∧ rI (wI B 65 7 (rI B 65 7 - nI 1)) 82 i = rI M 82 i := fun i hi => by
      obtain ⟨y1, y2, y3⟩ := b6 i hi
      exact ⟨by rw [rD _ _ (by decide) (by decide), y1, rA _ _ (by decide) (by decide)], by rw [rD _ _ (by decide) (by decide), y2, rA _ _ (by decide) (by decide)], by rw [rD _ _ (by decide) (by decide), y3, rA _ _ (by decide) (by decide)]⟩
    have eD : Ey PPr M (wI B 65 7 (rI B 65 7 - nI 1)) := ((a3.mono fun _ _ => PG_r).tr b3).tr (d2.mono fun _ _ => PG_r)
    have cD : rI (wI B 65 7 (rI B 65 7 - nI 1)) 65 23 = nI (c + 1 + szL (dl g j) + sz (g j)) := by rw [rI_wI, if_neg (by omega)]; exact b4
    have nD : NRp (wI B 65 7 (rI B 65 7 - nI 1)) (c + 1 + szL (dl g j)) (r.length + 1) (g j) := NRp_same (fun i hi => ⟨rD _ _ (by decide) (by decide), rD _ _ (by decide) (by decide), rD _ _ (by decide) (by decide)⟩) b5
    have hB65 := t65 b2.1
    have lhs : lpg G (F + 1) 65 (nI x) (nI c) (nI (dl g j).length) (nI j) M = jb2 (f_X12_keepUnlike 65 (nI (c + 1)) (nI (c + 1 + szL (dl g j))) (nI (dl g j).length) (wI B 65 7 (rI B 65 7 - nI 1))) fun x13 M12 => lpg G F 65 (nI x) (nI c) x13 (nI (j + 1)) M12 := by
      show bpg G (lpg G F) 65 (nI x) (nI c) (nI (dl g j).length) (nI j) M = _
      unfold bpg
      rw [q65_0 gg.1, Option.bind_some, gI_n (t65 gg.1), Option.bind_some, gg.2.2.2.1, ldI_n (t66 gg.1) (by omega) (by decide), Option.bind_some, (gg.2.1 w2 h2).1, if_neg (nI_ge (by omega) (by omega)), gI_n (t65 gg.1), Option.bind_some, hc, rm10 x hx, Option.bind_some, jiv_n (t65 gg.1), a1, jb2_some, jiv_n (t65 a2.1), b1, jb2_some, gI_n hB65, Option.bind_some, pI_n hB65, Option.bind_some, jiv_n (t65 d1.1), nI_add, nI_add]
    generalize wI B 65 7 (rI B 65 7 - nI 1) = D at *
    have hLD : NrL D (r.length + 1) (c + 1) (dl g j) := NrL_same _ _ (fun i i1 i2 => low i (by omega)) hL
    obtain ⟨b, k1, k2⟩ := n_kun (first := c + 1) d1.1 hw (by omega) cD (by omega) nD (fun z hz => ⟨(hall j (by omega) z hz).1, by have := (hall j (by omega) z hz).2; omega⟩) rfl hLD (by omega)
    rw [lhs, k1]
    cases b with
    | true =>
      have hmem := k2.mp rfl
      have edl : dl g (j + 1) = dl g j := by rw [dl, if_pos hmem]
      have e3 : Ey PNm D (wI D 65 23 (nI (c + 1 + szL (dl g j)))) := ey_wI Ey.rf (Or.inl ⟨rfl, rfl⟩)
      rw [if_pos rfl, jb2_some]
      have z := ih (j + 1) F (wI D 65 23 (nI (c + 1 + szL (dl g j)))) (by omega) (by omega) (GG_nm e3 d1)
      rw [edl] at z
      have r3 : ∀ e i, 80 ≤ e → rI (wI D 65 23 (nI (c + 1 + szL (dl g j)))) e i = rI D e i := fun e i he => by rw [rI_wI, if_neg (by omega)]
      obtain ⟨Q, q1, q2, q3, q4, q5, q6⟩ := z (by rw [rI_wI, if_pos ⟨rfl, rfl⟩]) (by rw [r3 _ _ (by decide), (low c (by omega)).1]; exact n80) (by rw [r3 _ _ (by decide), (low c (by omega)).2.2]; exact n82) (NrL_same _ _ (fun i i1 i2 => ⟨r3 _ _ (by decide), r3 _ _ (by decide), r3 _ _ (by decide)⟩) hLD)
      refine ⟨Q, q1, q2, (eD.tr (e3.mono fun _ _ => PNm_r)).tr q3, q4, q5, fun i hi => ?_⟩
      obtain ⟨y1, y2, y3⟩ := q6 i hi
      obtain ⟨x1, x2, x3⟩ := low i (by omega)
      exact ⟨by rw [y1, r3 _ _ (by decide), x1], by rw [y2, r3 _ _ (by decide), x2], by rw [y3, r3 _ _ (by decide), x3]⟩
    | false =>
      have hmem : ¬ g j ∈ dl g j := fun z => by have := k2.mpr z; cases this
      have edl : dl g (j + 1) = dl g j ++ [g j] := by rw [dl, if_neg hmem]
      rw [if_neg (show ¬ (false = true) by decide), jb2_some]
      have z := ih (j + 1) F D (by omega) (by omega) d1
      rw [edl, szL_a, List.length_append] at z
      obtain ⟨Q, q1, q2, q3, q4, q5, q6⟩ := z (by rw [cD]; congr 1; omega) (by rw [(low c (by omega)).1]; exact n80) (by rw [(low c (by omega)).2.2]; exact n82) (NrL_app _ _ hLD nD)
      refine ⟨Q, q1, q2, eD.tr q3, q4, q5, fun i hi => ?_⟩
      obtain ⟨y1, y2, y3⟩ := q6 i hi
      obtain ⟨x1, x2, x3⟩ := low i (by omega)
      exact ⟨by rw [y1, x1], by rw [y2, x2], by rw [y3, x3]⟩
end LG
