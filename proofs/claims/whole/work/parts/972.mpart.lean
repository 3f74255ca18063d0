/-! PARTINGS: the reference's parts. -/
section MQ
variable {ws : Nat → Wd} {w1 w2 : Nat} {r : Rw} {M : jM} {c : Nat}
/-- some ? and what stands behind it, till the pick ends -/
theorem n_some (hf : WF ws) (h1 : w1 < 8) (h2 : w2 < 8) {x n : Nat} {g : Nat → Fm} {G : Nat → jM → jO Unit} (hx : x < 16) (hG : HGm ws w1 w2 r (x % 10) n g G) (hl : r.length < 5) (h8 : c + 2 + 6 * bz n ≤ 800) (hn6 : bz n ≤ 600) (hok : ∀ y, y < (ws w2).1 → wf 0 (r.length + 1) (g y) ∧ sz (g y) ≤ bz n) (h0 : 0 < (ws w2).1) (gg : GG ws w1 w2 r M) (hc : rI M 65 23 = nI c) : ∃ N, (jb2 (j_X12_beginPick_17 65 M) fun x6 M5 => lpg G jF0 65 (nI x) x6 (nI 0) (nI 0) M5) = (jb2 (jiv 11 N 65 (f_X12_endPick 65 (nI x) N)) fun _ M5 => rt () M5) ∧ MO ws w1 w2 r r.length c (.branch 63 (ptR (dl g (ws w2).1)) (.leaf 0)) M N := by
  have hV6 := (hf w2).1
  obtain ⟨n0, hn0⟩ := jF_is
  have g1 := GG_nm (em_ey (M := M) (c := c) (k := 3) (x := nI r.length) (y := 0)) gg
  have c1 : rI (em M c 3 (nI r.length) 0) 65 23 = nI (c + 1) := em_c
  have s1 := fun i hi => em_same (M := M) (c := c) (k := 3) (x := nI r.length) (y := 0) (i := i) hi
  have k1 : rI (em M c 3 (nI r.length) 0) 80 c = nI 3 := by rw [em_k, if_pos rfl]
  have k2 : rI (em M c 3 (nI r.length) 0) 81 c = nI r.length := by rw [em_x, if_pos rfl]
  have k3 : rI (em M c 3 (nI r.length) 0) 82 c = nI 0 := by rw [em_y, if_pos rfl]
  have e1 : Ey PNm M (em M c 3 (nI r.length) 0) := em_ey
  unfold j_X12_beginPick_17
  rw [gI_n (t65 gg.1), Option.bind_some, gg.2.2.2.2.1, jiv_n (t65 gg.1), m_emit gg.1 hc (by omega) (by decide) (by decide), jb2_some]
  generalize em M c 3 (nI r.length) 0 = A at *
  have g2 := GG_nm (em_ey (M := A) (c := c + 1) (k := 4) (x := nI 0) (y := 0)) g1
  have c2 : rI (em A (c + 1) 4 (nI 0) 0) 65 23 = nI (c + 1 + 1) := em_c
  have s2 := fun i hi => em_same (M := A) (c := c + 1) (k := 4) (x := nI 0) (y := 0) (i := i) hi
  have m1 : rI (em A (c + 1) 4 (nI 0) 0) 80 (c + 1) = nI 4 := by rw [em_k, if_pos rfl]
  have m3 : rI (em A (c + 1) 4 (nI 0) 0) 82 (c + 1) = nI 0 := by rw [em_y, if_pos rfl]
  have e2 : Ey PNm A (em A (c + 1) 4 (nI 0) 0) := em_ey
  rw [jiv_n (t65 g1.1), m_emit g1.1 c1 (by omega) (by decide) (by decide), jb2_some]
  generalize em A (c + 1) 4 (nI 0) 0 = B at *
  rw [gI_n (t65 g2.1), Option.bind_some, c2, pk_sub (by omega), Nat.add_sub_cancel]
  show ∃ N, lpg G jF0 65 (nI x) (nI (c + 1)) (nI 0) (nI 0) B = _ ∧ _
  obtain ⟨N, n1, n2, n3, n4, n5, n6⟩ := lpg_ok (c := c + 1) hf h2 hx hG hl (by omega) hn6 hok h0 (ws w2).1 0 jF0 B (by omega) (by omega) g2 c2 m1 m3 trivial
  have n1' : lpg G jF0 65 (nI x) (nI (c + 1)) (nI 0) (nI 0) B = _ := n1
  rw [n1']
  refine ⟨N, rfl, n2, ((e1.mono fun _ _ => PNm_r).tr (e2.mono fun _ _ => PNm_r)).tr n3, by rw [n4, sz_u (by decide)]; congr 1; omega, ?_, fun i hi => ?_⟩
  · obtain ⟨y1, y2, y3⟩ := n6 c (by omega)
    obtain ⟨z1, z2, z3⟩ := s2 c (by omega)
    simp only [Nr]
    rw [if_neg (by decide), if_pos (by rfl), if_pos (by rfl)]
    exact ⟨⟨by rw [y1, z1, k1]; rfl, by rw [y2, z2, k2], by rw [y3, z3, k3]⟩, n5⟩
  · obtain ⟨y1, y2, y3⟩ := n6 i (by omega)
    obtain ⟨z1, z2, z3⟩ := s2 i (by omega)
    obtain ⟨t1, t2, t3⟩ := s1 i hi
    exact ⟨by rw [y1, z1, t1], by rw [y2, z2, t2], by rw [y3, z3, t3]⟩
/-- what a part of j rounds gives -/
def PJm (ws : Nat → Wd) (j : Nat) (G : Nat → jM → jO Unit) : Prop := ∀ (w1 w2 : Nat) (r : Rw) (c : Nat) (M : jM), w1 < 8 → w2 < 8 → 0 < (ws w1).1 → 0 < (ws w2).1 → rv (ws w1) (ws w2) r → r.length + j ≤ 3 → GG ws w1 w2 r M → kw (ws w1) (ws w2) j r = false → rI M 65 23 = nI c → c + bz (3 - r.length) ≤ 800 → (alk (ws w1) (ws w2) r = false → ∃ p r0, r = p :: r0 ∧ alk (ws w1) (ws w2) r0 = true) → ∃ N, G 65 M = some ((), N) ∧ MO ws w1 w2 r r.length c (if alk (ws w1) (ws w2) r = true then ptA (3 - r.length) (ws w1) (ws w2) r else ptT (ws w1) (ws w2) r (r.length - 1)) M N
theorem pj_0 (hf : WF ws) : PJm ws 0 f_X12_partAtom := by
  intro w1 w2 r c M h1 h2 p1 p2 hr hl gg hk hc h8 hsh
  have hk : alk (ws w1) (ws w2) r = false := hk
  obtain ⟨p, r0, rfl, hal⟩ := hsh hk
  have hpl : pla (ws w1) (ws w2) r0 p = false := by
    rw [alk, hal, Bool.true_and] at hk; exact hk
  have hb := bz_2 (3 - (p :: r0).length)
  rw [hk, if_neg (by decide), show (p :: r0).length - 1 = r0.length from rfl]
  exact n_patom hf h1 h2 hr gg hc (by omega) hal hpl
theorem bz_600 {n : Nat} (h : n ≤ 2) : bz n ≤ 600 := by
  have : n = 0 ∨ n = 1 ∨ n = 2 := by omega
  rcases this with rfl | rfl | rfl <;> decide
/-- a pick, its replies' parts, its end -/
theorem n_pick (hf : WF ws) (h1 : w1 < 8) (h2 : w2 < 8) (p1 : 0 < (ws w1).1) (p2 : 0 < (ws w2).1) {j n : Nat} {G : Nat → jM → jO Unit} (hG : PJm ws j G) (hr : rv (ws w1) (ws w2) r) (hl : r.length + (n + 1) = 3) (hjn : j ≤ n) (gg : GG ws w1 w2 r M) (hal : alk (ws w1) (ws w2) r = true) (hlrd : lrd (ws w1) (ws w2) r 1 (n + 1) = some (j + 1)) (hk : kw (ws w1) (ws w2) (j + 1) r = false) (hc : rI M 65 23 = nI c) (h8 : c + bz (n + 1) ≤ 800) : ∃ N, (jb2 (jiv 11 M 65 (f_X12_winning 65 (nI (j + 1)) M)) fun x4 M3 => jb2 (jiv 11 M3 65 (f_X12_beginPick 65 x4 M3)) fun x6 M5 => lpg G jF0 65 x4 x6 (nI 0) (nI 0) M5) = some ((), N) ∧ MO ws w1 w2 r r.length c (ptA (n + 1) (ws w1) (ws w2) r) M N := by
  rw [bz] at h8
  obtain ⟨x, x1⟩ := fpk_some (f := 0) (by decide) hal hk
  obtain ⟨A, a1, a2, a3⟩ := n_win hf h1 h2 hr (k := j) (by omega) (by omega) gg
  rw [x1] at a1
  have a1 : f_X12_winning 65 (nI (j + 1)) M = some (nI x, A) := a1
  have cA : rI A 65 23 = nI c := by rw [ey_rI a3 (by unfold PG; omega)]; exact hc
  have lA : ∀ e i, 80 ≤ e → e ≤ 82 → rI A e i = rI M e i := fun e i e1 e2 => ey_rI a3 (by unfold PG; omega)
  rw [jiv_n (t65 gg.1), a1, jb2_some, jiv_n (t65 a2.1)]
  have hT : ptA (n + 1) (ws w1) (ws w2) r = if x < 10 then .branch 63 (ptR (dl (fun y => ptL n (ws w1) (ws w2) r (x, y)) (ws w2).1)) (.leaf 0)
        else .branch 45 (.branch 63 (ptR (dl (fun y => ptL n (ws w2) (ws w1) (swp r) (x - 10, y)) (ws w1).1)) (.leaf 0)) (.leaf 0) := by
    rw [ptA_s, hlrd]
    show (match fpk (ws w1) (ws w2) r 0 j with
      | none => Lean.RArray.leaf 84
      | some x => _) = _
    rw [x1]
  rw [hT]
  -- a reply's part, whichever way round
  have inner : ∀ (a b : Nat) (ρ : Rw) (t : Nat), a < 8 → b < 8 → 0 < (ws a).1 → 0 < (ws b).1 → rv (ws a) (ws b) ρ → ρ.length = r.length → alk (ws a) (ws b) ρ = true → t < (ws a).1 → (∀ y, y < (ws b).1 → kw (ws a) (ws b) j ((t, y) :: ρ) = false) → HGm ws a b ρ t n (fun y => ptL n (ws a) (ws b) ρ (t, y)) G := by
    intro a b ρ t ha hb pa pb hρ hρl hρa ht hky y c' N hy gN hcN h8N
    have hll : ((t, y) :: ρ).length = ρ.length + 1 := rfl
    have e3 : 3 - ((t, y) :: ρ).length = n := by omega
    obtain ⟨Q, q1, q2⟩ := hG a b ((t, y) :: ρ) c' N ha hb pa pb (rv_cons hρ ht hy) (by omega) gN (hky y hy) hcN (by rw [e3]; exact h8N) (fun _ => ⟨(t, y), ρ, rfl, hρa⟩)
    refine ⟨Q, q1, ?_⟩
    rw [e3, show ((t, y) :: ρ).length - 1 = ρ.length from rfl] at q2
    have : (if alk (ws a) (ws b) ((t, y) :: ρ) = true then ptA n (ws a) (ws b) ((t, y) :: ρ) else ptT (ws a) (ws b) ((t, y) :: ρ) ρ.length) = ptL n (ws a) (ws b) ρ (t, y) := by
      unfold ptL
      rw [alk, hρa, Bool.true_and]
    rw [this] at q2
    exact q2
  rcases fpk_is (hf w1) (hf w2) x1 with ⟨y1, y2, y3⟩ | ⟨y1, y1', y2, y3⟩
  · have hx10 : x % 10 = x := Nat.mod_eq_of_lt y1
    obtain ⟨N, n1, n2⟩ := n_some (c := c) (x := x) hf h1 h2 (by omega) (by rw [hx10]; exact inner w1 w2 r x h1 h2 p1 p2 hr rfl hal y2 (fun y hy => y3 y hy)) (by omega) (by omega) (bz_600 (by omega)) (fun y hy => by
      have := ptL_ok (n := n) (r := r) (p := (x, y)) (hf w1) (hf w2) p1 p2 (by omega)
      exact ⟨this.1, this.2.1⟩) p2 a2 cA
    unfold f_X12_beginPick
    rw [if_pos (nI_lt y1 (by decide)), n1, if_pos y1]
    unfold f_X12_endPick
    rw [jiv_n (t65 n2.1.1), if_pos (nI_lt y1 (by decide))]
    refine ⟨N, rfl, n2.1, (a3.mono fun _ _ => PG_r).tr n2.2.1, n2.2.2.1, n2.2.2.2.1, fun i hi => ?_⟩
    obtain ⟨z1, z2, z3⟩ := n2.2.2.2.2 i hi
    exact ⟨by rw [z1, lA _ _ (by decide) (by decide)], by rw [z2, lA _ _ (by decide) (by decide)], by rw [z3, lA _ _ (by decide) (by decide)]⟩
  · have hx10 : x % 10 = x - 10 := by omega
    have gB := GG_nm (em_ey (M := A) (c := c) (k := 1) (x := nI 0) (y := 0)) a2
    have cB : rI (em A c 1 (nI 0) 0) 65 23 = nI (c + 1) := em_c
    have sB := fun i hi => em_same (M := A) (c := c) (k := 1) (x := nI 0) (y := 0) (i := i) hi
    have k1 : rI (em A c 1 (nI 0) 0) 80 c = nI 1 := by rw [em_k, if_pos rfl]
    have k2 : rI (em A c 1 (nI 0) 0) 81 c = nI 0 := by rw [em_x, if_pos rfl]
    have k3 : rI (em A c 1 (nI 0) 0) 82 c = nI 0 := by rw [em_y, if_pos rfl]
    have eB : Ey PNm A (em A c 1 (nI 0) 0) := em_ey
    unfold f_X12_beginPick
    rw [if_neg (nI_nlt y1 (by omega)), jiv_n (t65 a2.1), m_emit a2.1 cA (by omega) (by decide) (by decide), jb2_some]
    generalize em A c 1 (nI 0) 0 = B at *
    obtain ⟨C, s1, s2, s3⟩ := m_swap gB
    have lC : ∀ e i, 80 ≤ e → e ≤ 82 → rI C e i = rI B e i := fun e i e1 e2 => ey_rI s3 (by unfold PG; omega)
    have cC : rI C 65 23 = nI (c + 1) := by rw [ey_rI s3 (by unfold PG; omega)]; exact cB
    rw [jiv_n (t65 gB.1), s1, jb2_some]
    obtain ⟨N, n1, n2⟩ := n_some (c := c + 1) (x := x) hf h2 h1 (by omega) (by
      rw [hx10]
      exact inner w2 w1 (swp r) (x - 10) h2 h1 p2 p1 (rv_sw hr) swp_len (by rw [alk_sw]; exact hal) y2 (fun y hy => by
        have := y3 y hy
        rw [show (x - 10, y) :: swp r = swp ((y, x - 10) :: r) from rfl, kw_sw]
        exact this)) (by rw [swp_len]; omega) (by omega) (bz_600 (by omega)) (fun y hy => by
      have := ptL_ok (n := n) (r := swp r) (p := (x - 10, y)) (hf w2) (hf w1) p2 p1 (by rw [swp_len]; omega)
      exact ⟨this.1, this.2.1⟩) p1 s2 cC
    rw [n1, if_neg (by omega)]
    unfold f_X12_endPick
    obtain ⟨D, t1, t2, t3⟩ := m_swap n2.1
    rw [swp_sw] at t2
    rw [jiv_n (t65 n2.1.1), if_neg (nI_nlt y1 (by omega)), jiv_n (t65 n2.1.1), t1, jb2_some]
    have lD : ∀ e i, 80 ≤ e → e ≤ 82 → rI D e i = rI N e i := fun e i e1 e2 => ey_rI t3 (by unfold PG; omega)
    have q4 := n2.2.2.2.1
    rw [swp_len] at q4
    refine ⟨D, rfl, t2, ((((a3.mono fun _ _ => PG_r).tr (eB.mono fun _ _ => PNm_r)).tr (s3.mono fun _ _ => PG_r)).tr n2.2.1).tr (t3.mono fun _ _ => PG_r), by rw [ey_rI t3 (by unfold PG; omega), n2.2.2.1]; congr 1; rw [sz_u (k := 45) (by decide)]; omega, ?_, fun i hi => ?_⟩
    · obtain ⟨z1, z2, z3⟩ := n2.2.2.2.2 c (by omega)
      rw [Nr_n]
      exact ⟨⟨by rw [lD _ _ (by decide) (by decide), z1, lC _ _ (by decide) (by decide), k1], by rw [lD _ _ (by decide) (by decide), z2, lC _ _ (by decide) (by decide), k2], by rw [lD _ _ (by decide) (by decide), z3, lC _ _ (by decide) (by decide), k3]⟩, Nr_congr _ _ _ _ (fun i _ => ⟨lD _ _ (by decide) (by decide), lD _ _ (by decide) (by decide), lD _ _ (by decide) (by decide)⟩) q4⟩
    · obtain ⟨z1, z2, z3⟩ := n2.2.2.2.2 i (by omega)
      obtain ⟨v1, v2, v3⟩ := sB i hi
      exact ⟨by rw [lD _ _ (by decide) (by decide), z1, lC _ _ (by decide) (by decide), v1, lA _ _ (by decide) (by decide)], by rw [lD _ _ (by decide) (by decide), z2, lC _ _ (by decide) (by decide), v2, lA _ _ (by decide) (by decide)], by rw [lD _ _ (by decide) (by decide), z3, lC _ _ (by decide) (by decide), v3, lA _ _ (by decide) (by decide)]⟩
end MQ
