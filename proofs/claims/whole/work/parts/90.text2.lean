/-! WRITING: the class's Writer, node by node. -/
section WZ
variable {nc LN : Nat}
theorem aok_c {q c : Nat} (hq : q ≤ 8) (ok : aok q c) : (c + 65536) % 256 = aS c ∧ (c + 65536) / 256 % 16 = aA c ∧ (c + 65536) / 4096 % 16 = aB c ∧ (aS c = 65 ∨ aS c = 66 ∨ aS c = 69 ∨ aS c = 61 ∨ aS c = 84 ∨ aS c = 70) ∧ c < 65536 ∧ aA c ≤ q ∧ aB c ≤ q := by
  unfold aS aA aB
  rcases ok with ⟨s, a, hs, ha, hb, rfl⟩ | ⟨s, a, b, hs, ha, hb, hc, hd, rfl⟩ | rfl | rfl <;> omega
theorem yp_atom (hnc : 104 ≤ nc) (hL8 : LN ≤ 800) {q c : Nat} (hq : q ≤ 8) (ok : aok q c) : YP nc LN q (.leaf c) := by
  intro ip sg d deep at' L M h hd hdd hat hN hl hL
  obtain ⟨d, rfl⟩ : ∃ d', d = d' + 1 := ⟨d - 1, by omega⟩
  have hat' : at' < LN := by simp only [sz] at hat; omega
  obtain ⟨c1, c2, c3, c4, c5, -, -⟩ := aok_c hq ok
  have hw : wr q ip sg (.leaf c) = aS c :: ((if aA c = 0 then [] else [96 + aA c]) ++ (if aB c = 0 then [] else [96 + aB c])) := rfl
  rw [hw] at hL ⊢
  obtain ⟨N, p1, p2⟩ := y_node (rec_ := f_X10_writeFrom d) (ip := bI ip) hnc hL8 h hat' (show deep ≤ 30 by omega) (show rI M nc at' = nI (c + 65536) from hN) (by omega) (by rw [c1]; omega) (by rw [c1]; omega) hl (by rw [c1, c2, c3]; exact hL)
  rw [c1, c2, c3] at p2
  have hQ : isQ (aS c) = false := by unfold isQ; rcases c4 with z | z | z | z | z | z <;> rw [z] <;> decide
  refine ⟨N, ?_, p2⟩
  show g_X10_writeFrom (f_X10_writeFrom d) 34 nc (nI at') (bI ip) (nI deep) M = _
  rw [p1, c1, if_neg (fun z => by have := (nI_eq (by omega) (by decide)).mp z; omega), hQ, if_pos (show bI false = 0 from rfl)]
theorem y_85 {M N1 : jM} {d deep at' L q : Nat} {xs ys : List Nat} {l : Fm} (h : YQ nc LN M) (r1 : YR L xs M N1) (ih : ∃ N, f_X10_writeFrom d 34 nc (nI (at' + 1)) (bI true) (nI (deep + 1)) N1 = some ((), N) ∧ YR (L + xs.length) ys N1 N) : ∃ N, j_X10_writeFrom_85 (f_X10_writeFrom d) 34 nc (nI at') (nI deep) N1 = some ((), N) ∧ YR L (xs ++ ys) M N := by
  obtain ⟨N, p1, p2⟩ := ih
  unfold j_X10_writeFrom_85
  rw [jiv_n (t34 (YQ_ex r1.1 h).1), nI_add, nI_add, show nI 1 = bI true from rfl, p1, jb2_some]
  exact ⟨N, rfl, r1.app p2⟩
theorem yp_not (hnc : 104 ≤ nc) (hL8 : LN ≤ 800) {q : Nat} {l : Fm} (ih : YP nc LN q l) : YP nc LN q (.branch 45 l (.leaf 0)) := by
  intro ip sg d deep at' L M h hd hdd hat hN hl hL
  obtain ⟨d, rfl⟩ : ∃ d', d = d' + 1 := ⟨d - 1, by omega⟩
  have hz := sz_pos l
  rw [dp_u (by decide)] at hd hdd
  rw [sz_u (by decide)] at hat
  rw [Nx_n] at hN
  rw [wr_n] at hL ⊢
  rw [List.length_cons] at hL
  have c1 : (45 + 65536 * (sz l + 1)) % 256 = 45 := by omega
  have c2 : (45 + 65536 * (sz l + 1)) / 256 % 16 = 0 := by omega
  have c3 : (45 + 65536 * (sz l + 1)) / 4096 % 16 = 0 := by omega
  obtain ⟨N1, p1, p2⟩ := y_node (rec_ := f_X10_writeFrom d) (ip := bI ip) hnc hL8 h (show at' < LN by omega) (show deep ≤ 30 by omega) hN.1 (by omega) (by rw [c1]; omega) (by rw [c1]; omega) hl (by rw [c1, c2, c3]; show L + 1 ≤ 1300; omega)
  rw [c1, c2, c3] at p2
  have p2 : YR L [45] M N1 := p2
  rw [c1, if_pos rfl] at p1
  show ∃ N, g_X10_writeFrom (f_X10_writeFrom d) 34 nc (nI at') (bI ip) (nI deep) M = _ ∧ _
  rw [p1]
  exact y_85 (q := q) (l := l) h p2 (ih true sg d (deep + 1) (at' + 1) (L + 1) N1 (YQ_ex p2.1 h) (by omega) (by omega) (by omega) (Nx_congr l (at' + 1) (at' + 1) q (fun i _ => ex_rI p2.1 (by unfold CY; omega) _) hN.2) p2.2.1 (by omega))
theorem yp_quant (hnc : 104 ≤ nc) (hL8 : LN ≤ 800) {q k : Nat} {l : Fm} (hk : k = 64 ∨ k = 63) (hq : q < 8) (ih : YP nc LN (q + 1) l) : YP nc LN q (.branch k l (.leaf 0)) := by
  intro ip sg d deep at' L M h hd hdd hat hN hl hL
  obtain ⟨d, rfl⟩ : ∃ d', d = d' + 1 := ⟨d - 1, by omega⟩
  have hz := sz_pos l
  rw [dp_u (by omega)] at hd hdd
  rw [sz_u (by omega)] at hat
  rw [Nx_q hk] at hN
  rw [wr_q hk] at hL ⊢
  rw [List.length_cons, List.length_cons] at hL
  have c1 : (k + 256 * (q + 1) + 65536 * (sz l + 1)) % 256 = k := by omega
  have c2 : (k + 256 * (q + 1) + 65536 * (sz l + 1)) / 256 % 16 = q + 1 := by omega
  have c3 : (k + 256 * (q + 1) + 65536 * (sz l + 1)) / 4096 % 16 = 0 := by omega
  have hx : ((k :: ((if q + 1 = 0 then [] else [96 + (q + 1)]) ++ (if (0 : Nat) = 0 then [] else [96 + 0]))) : List Nat) = [k, 97 + q] := by rw [if_neg (by omega), if_pos rfl, show 96 + (q + 1) = 97 + q by omega]; rfl
  obtain ⟨N1, p1, p2⟩ := y_node (rec_ := f_X10_writeFrom d) (ip := bI ip) hnc hL8 h (show at' < LN by omega) (show deep ≤ 30 by omega) hN.1 (by omega) (by rw [c1]; omega) (by rw [c1]; omega) hl (by rw [c1, c2, c3, hx]; show L + 2 ≤ 1300; omega)
  rw [c1, c2, c3, hx] at p2
  rw [c1, if_neg (fun z => by have := (nI_eq (by omega) (by decide)).mp z; omega), hk_Q hk, if_neg (show ¬ bI true = 0 by decide)] at p1
  show ∃ N, g_X10_writeFrom (f_X10_writeFrom d) 34 nc (nI at') (bI ip) (nI deep) M = _ ∧ _
  rw [p1]
  exact y_85 (q := q) (l := l) h p2 (ih true sg d (deep + 1) (at' + 1) (L + 2) N1 (YQ_ex p2.1 h) (by omega) (by omega) (by omega) (Nx_congr l (at' + 1) (at' + 1) (q + 1) (fun i _ => ex_rI p2.1 (by unfold CY; omega) _) hN.2) p2.2.1 (by omega))
theorem yp_list (hnc : 104 ≤ nc) (hL8 : LN ≤ 800) {q k : Nat} {l : Fm} (hk : k = 38 ∨ k = 124) (ih : YB nc LN q l) : YP nc LN q (.branch k l (.leaf 0)) := by
  intro ip sg d deep at' L M h hd hdd hat hN hl hL
  obtain ⟨d, rfl⟩ : ∃ d', d = d' + 1 := ⟨d - 1, by omega⟩
  obtain ⟨n0, hn0⟩ := jF_is
  have hz := sz_pos l
  rw [dp_u (by omega)] at hd hdd
  rw [sz_u (by omega)] at hat
  rw [Nx_l hk] at hN
  rw [wr_l hk] at hL ⊢
  rw [List.length_append] at hL
  have c1 : (k + 65536 * (sz l + 1)) % 256 = k := by omega
  have go : ∀ (N1 : jM) (xs : List Nat), YR L xs M N1 → xs.length = (if ip = true then [40] else ([] : List Nat)).length → ∃ N, j_X10_writeList_44 (f_X10_writeFrom d) 34 nc (nI at') (bI ip) (nI deep) (nI k) (nI (at' + (sz l + 1))) N1 = some ((), N) ∧ YR (L + xs.length) (wr q true k l ++ (if ip = true then [41] else [])) N1 N := by
    intro N1 xs y1 hx
    unfold j_X10_writeList_44
    have := ih ip k d jF0 deep at' (at' + 1) (L + xs.length) N1 (YQ_ex y1.1 h) (by omega) (by omega) (by omega) (Nx_congr l (at' + 1) (at' + 1) q (fun i _ => ex_rI y1.1 (by unfold CY; omega) _) hN.2) y1.2.1 (Nat.le_refl _) (by omega) (by omega) (by rw [if_pos rfl, List.nil_append]; omega)
    rw [if_pos rfl, List.nil_append, show at' + 1 + sz l = at' + (sz l + 1) by omega] at this
    rw [nI_add]
    exact this
  show ∃ N, g_X10_writeFrom (f_X10_writeFrom d) 34 nc (nI at') (bI ip) (nI deep) M = _ ∧ _
  unfold g_X10_writeFrom f_X10_writeList
  rw [if_neg (nI_pos (by omega)), ln_n h.2 (by decide) (by decide), Option.bind_some, if_neg (nI_ge (by omega) (by omega)), if_pos (nI_le (by omega) (by decide)), ldI_n h.2 (by omega) (by omega), Option.bind_some, hN.1, n_sign (by omega), jb2_some, c1, n_isList (by omega), jb2_some, decide_eq_true hk, if_neg (show ¬ bI true = 0 by decide), jiv_n (t34 h.1), if_neg (nI_pos (by omega)), ln_n h.2 (by decide) (by decide), Option.bind_some, if_pos (nI_lt (by omega) (by omega)), ldI_n h.2 (by omega) (by omega), Option.bind_some, hN.1, n_sign (by omega), jb2_some, c1, ln_n h.2 (by decide) (by decide), Option.bind_some, ldI_n h.2 (by omega) (by omega), Option.bind_some, hN.1, n_span (by omega) (by omega) (by omega), jb2_some, nI_add, jmn_n (by omega) (by omega), Nat.min_eq_right (by omega)]
  show ∃ N, jb2 (if bI ip = 0 then j_X10_writeList_44 (f_X10_writeFrom d) 34 nc (nI at') (bI ip) (nI deep) (nI k) (nI (at' + (sz l + 1))) M else jb2 (jiv 9 M 34 (f_X10_put 34 (nI 40) M)) fun _ M10 => j_X10_writeList_44 (f_X10_writeFrom d) 34 nc (nI at') (bI ip) (nI deep) (nI k) (nI (at' + (sz l + 1))) M10) _ = _ ∧ _
  cases hip : ip with
  | false =>
    rw [hip] at go hL
    rw [if_pos (show bI false = 0 from rfl)]
    obtain ⟨N, p1, p2⟩ := go M [] (YR.nil hl) rfl
    rw [p1, jb2_some]
    exact ⟨N, rfl, p2⟩
  | true =>
    rw [hip] at go hL
    rw [if_neg (show ¬ bI true = 0 by decide), jiv_n (t34 h.1)]
    obtain ⟨N1, s1, s2⟩ := y_put h.1 hl (by have : L + (1 + _) ≤ 1300 := hL; omega) (show 40 < 128 by decide)
    obtain ⟨N, p1, p2⟩ := go N1 [40] s2 rfl
    rw [s1, jb2_some, p1, jb2_some]
    exact ⟨N, rfl, s2.app p2⟩
/-- the loop writes the sign between, and a part -/
theorem yb_step (hnc : 104 ≤ nc) (hL8 : LN ≤ 800) {q : Nat} {l : Fm} (hwl : wf 0 q l) (ih : YP nc LN q l) {ip : Bool} {sg d g deep k0 at' e L : Nat} {M : jM} (h : YQ nc LN M) (hd : dp l < d) (hdd : deep + 1 + dp l ≤ 30) (hat : at' + sz l ≤ LN) (hae : at' < e) (heL : e ≤ LN) (hN : Nx (rI M nc) at' q l) (hl : rI M 34 1 = nI L) (hk0 : k0 + 1 ≤ at') (hsg : sg < 128) (hL : L + ((if at' = k0 + 1 then [] else [sg]) ++ wr q true sg l).length ≤ 1300) :
    ∃ N, l_X10_writeList_49 (f_X10_writeFrom d) (g + 1) 34 nc (nI k0) (bI ip) (nI deep) (nI sg) (nI e) (nI at') M = l_X10_writeList_49 (f_X10_writeFrom d) g 34 nc (nI k0) (bI ip) (nI deep) (nI sg) (nI e) (nI (at' + sz l)) N ∧ YR L ((if at' = k0 + 1 then [] else [sg]) ++ wr q true sg l) M N := by
  have hz := sz_pos l
  rw [List.length_append] at hL
  show ∃ N, b_X10_writeList_49 (f_X10_writeFrom d) (l_X10_writeList_49 (f_X10_writeFrom d) g) 34 nc (nI k0) (bI ip) (nI deep) (nI sg) (nI e) (nI at') M = _ ∧ _
  unfold b_X10_writeList_49 j_X10_writeList_70
  rw [if_neg (nI_ge hae (by omega)), nI_add]
  have go : ∀ (N1 : jM) (xs : List Nat), YR L xs M N1 → xs.length = (if at' = k0 + 1 then ([] : List Nat) else [sg]).length → ∃ N, (jb2 (jiv 9 N1 34 (f_X10_writeFrom d 34 nc (nI at') (nI 1) (nI deep + nI 1) N1)) fun _ M1 => (ldI M1 nc (nI at')).bind fun x2 => jb2 (f_X4_spanOf x2 M1) fun x4 M3 => (jv (nI at' + x4)).bind fun y5 => l_X10_writeList_49 (f_X10_writeFrom d) g 34 nc (nI k0) (bI ip) (nI deep) (nI sg) (nI e) y5 M3) = l_X10_writeList_49 (f_X10_writeFrom d) g 34 nc (nI k0) (bI ip) (nI deep) (nI sg) (nI e) (nI (at' + sz l)) N ∧ YR (L + xs.length) (wr q true sg l) N1 N := by
    intro N1 xs y1 hx
    have h1 := YQ_ex y1.1 h
    obtain ⟨N, p1, p2⟩ := ih true sg d (deep + 1) at' (L + xs.length) N1 h1 hd (by omega) hat (Nx_congr l at' at' q (fun i _ => ex_rI y1.1 (by unfold CY; omega) _) hN) y1.2.1 (by omega)
    have h2 := YQ_ex p2.1 h1
    obtain ⟨c, hc1, hc2⟩ := Nx_head (by decide) (wf0_nb hwl) hwl hN
    rw [jiv_n (t34 h1.1), show nI 1 = bI true from rfl, show nI deep + bI true = nI (deep + 1) from nI_add deep 1, p1, jb2_some, ldI_n h2.2 (by omega) (by omega), Option.bind_some, ex_rI p2.1 (by unfold CY; omega), ex_rI y1.1 (by unfold CY; omega), hc1, n_span hz (by omega) hc2, jb2_some, nI_add]
    exact ⟨N, rfl, p2⟩
  by_cases hc : at' = k0 + 1
  · rw [if_pos hc] at go hL
    rw [if_pos (nI_le (by omega) (by omega)), if_pos hc]
    obtain ⟨N, p1, p2⟩ := go M [] (YR.nil hl) rfl
    exact ⟨N, p1, p2⟩
  · rw [if_neg hc] at go hL
    rw [if_neg (nI_ge (by omega) (by omega)), if_neg hc, jiv_n (t34 h.1)]
    obtain ⟨N1, s1, s2⟩ := y_put h.1 hl (by have : L + (1 + _) ≤ 1300 := hL; omega) hsg
    obtain ⟨N, p1, p2⟩ := go N1 [sg] s2 rfl
    rw [s1, jb2_some]
    exact ⟨N, p1, s2.app p2⟩
theorem yb_end {M : jM} (h : Sh M) {rec_ : Nat → Nat → Int32 → Int32 → Int32 → jM → jO Unit} {ip : Bool} {sg : Int32} {g deep k0 e L : Nat} (he : e < 2 ^ 31) (hl : rI M 34 1 = nI L) (hL : L + (if ip = true then [41] else ([] : List Nat)).length ≤ 1300) : ∃ N, l_X10_writeList_49 rec_ (g + 1) 34 nc (nI k0) (bI ip) (nI deep) sg (nI e) (nI e) M = some ((), N) ∧ YR L (if ip = true then [41] else []) M N := by
  show ∃ N, b_X10_writeList_49 rec_ (l_X10_writeList_49 rec_ g) 34 nc (nI k0) (bI ip) (nI deep) sg (nI e) (nI e) M = _ ∧ _
  unfold b_X10_writeList_49
  rw [if_pos (nI_le (Nat.le_refl _) he)]
  cases ip with
  | false => rw [if_pos (show bI false = 0 from rfl)]; exact ⟨M, rfl, YR.nil hl⟩
  | true =>
    rw [if_neg (show ¬ bI true = 0 by decide), jiv_n (t34 h)]
    obtain ⟨N1, s1, s2⟩ := y_put h hl hL (show 41 < 128 by decide)
    rw [s1, jb2_some]
    exact ⟨N1, rfl, s2⟩
theorem yb_one (hnc : 104 ≤ nc) (hL8 : LN ≤ 800) {q : Nat} {l : Fm} (hwl : wf 0 q l) (ih : YP nc LN q l) : YB nc LN q l := by
  intro ip sg d g deep k0 at' L M h hd hdd hat hN hl hk0 hsg hg hL
  have hz := sz_pos l
  rw [← List.append_assoc, List.length_append] at hL
  obtain ⟨g, rfl⟩ : ∃ g', g = g' + 1 + 1 := ⟨g - 2, by omega⟩
  obtain ⟨N1, p1, p2⟩ := yb_step (g := g + 1) (ip := ip) hnc hL8 hwl ih h hd hdd hat (show at' < at' + sz l by omega) hat hN hl hk0 hsg (by omega)
  obtain ⟨N, s1, s2⟩ := yb_end (nc := nc) (g := g) (rec_ := f_X10_writeFrom d) (ip := ip) (sg := nI sg) (deep := deep) (k0 := k0) (e := at' + sz l) (YQ_ex p2.1 h).1 (by omega) p2.2.1 (by omega)
  refine ⟨N, p1.trans s1, ?_⟩
  rw [← List.append_assoc]
  exact p2.app s2
theorem yb_cons (hnc : 104 ≤ nc) (hL8 : LN ≤ 800) {q : Nat} {l r : Fm} (hwl : wf 0 q l) (ih : YP nc LN q l) (ih2 : YB nc LN q r) : YB nc LN q (.branch 0 l r) := by
  intro ip sg d g deep k0 at' L M h hd hdd hat hN hl hk0 hsg hg hL
  have hz := sz_pos l
  have hz2 := sz_pos r
  rw [sz_c] at hat hg ⊢
  rw [dp_c] at hd hdd
  rw [Nx_c] at hN
  have ht : ((if at' = k0 + 1 then [] else [sg]) ++ (wr q true sg (.branch 0 l r) ++ (if ip = true then [41] else []))) = ((if at' = k0 + 1 then [] else [sg]) ++ wr q true sg l) ++ ([sg] ++ (wr q true sg r ++ (if ip = true then [41] else []))) := by rw [wr_c]; simp
  rw [ht] at hL ⊢
  rw [List.length_append] at hL
  obtain ⟨g, rfl⟩ : ∃ g', g = g' + 1 := ⟨g - 1, by omega⟩
  obtain ⟨N1, p1, p2⟩ := yb_step (g := g) (d := d) (deep := deep) (e := at' + (sz l + sz r)) (ip := ip) hnc hL8 hwl ih h (by omega) (by omega) (by omega) (by omega) hat hN.1 hl hk0 hsg (by omega)
  have hne : ¬ at' + sz l = k0 + 1 := by omega
  have := ih2 ip sg d g deep k0 (at' + sz l) (L + ((if at' = k0 + 1 then [] else [sg]) ++ wr q true sg l).length) N1 (YQ_ex p2.1 h) (by omega) (by omega) (by omega) (Nx_congr r (at' + sz l) (at' + sz l) q (fun i _ => ex_rI p2.1 (by unfold CY; omega) _) hN.2) p2.2.1 (by omega) hsg (by omega) (by rw [if_neg hne]; omega)
  rw [if_neg hne] at this
  obtain ⟨N, s1, s2⟩ := this
  rw [show at' + sz l + sz r = at' + (sz l + sz r) by omega] at s1
  exact ⟨N, p1.trans s1, p2.app s2⟩
theorem yp_all (hnc : 104 ≤ nc) (hL8 : LN ≤ 800) : ∀ f q, (wf 0 q f → YP nc LN q f) ∧ (wf 1 q f → YB nc LN q f) :=
  fm_ind (P := YP nc LN) (B := YB nc LN) (fun q c h1 h2 => yp_atom hnc hL8 h1 h2) (fun q l _ ih => yp_not hnc hL8 ih) (fun q k l hk hq _ ih => yp_quant hnc hL8 hk hq ih) (fun q k l hk _ ih => yp_list hnc hL8 hk ih) (fun q f h ih => yb_one hnc hL8 h ih) (fun q l r h _ ih ih2 => yb_cons hnc hL8 h ih ih2)
end WZ
