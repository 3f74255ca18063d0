/-! PARTINGS: the reference parts rows by an atom. -/
section MV
variable {ws : Nat → Wd} {w1 w2 : Nat} {r : Rw} {M : jM} {c q : Nat}
theorem em_same {k y : Nat} {x : Int32} {i : Nat} (hi : i < c) : rI (em M c k x y) 80 i = rI M 80 i ∧ rI (em M c k x y) 81 i = rI M 81 i ∧ rI (em M c k x y) 82 i = rI M 82 i := ⟨by rw [em_k, if_neg (by omega)], by rw [em_x, if_neg (by omega)], by rw [em_y, if_neg (by omega)]⟩
theorem PNm_r {c k : Nat} (h : PNm c k) : PPr c k := Or.inr h
theorem PG_r {c k : Nat} (h : PG c k) : PPr c k := Or.inl h
theorem put_m (g : GG ws w1 w2 r M) (hc : rI M 65 23 = nI c) (h8 : c < 1000) {s n m : Nat} (hs : s = 61 ∨ s = 65 ∨ s = 66 ∨ s = 69) (hn : n < 8) (hm : m < 8) : j_X12_parts_211 65 (nI (rk s)) (nI n) (nI m) M = some (bI true, em M c (rk s) (nI n) (if s = 65 ∨ s = 66 then 0 else m)) ∧ Nr (rI (em M c (rk s) (nI n) (if s = 65 ∨ s = 66 then 0 else m)) 80) (rI (em M c (rk s) (nI n) (if s = 65 ∨ s = 66 then 0 else m)) 81) (rI (em M c (rk s) (nI n) (if s = 65 ∨ s = 66 then 0 else m)) 82) c q (.leaf (ac s n m)) := by
  have h := g.1
  have hk : rk s < 128 := rk_128 s (by omega)
  unfold j_X12_parts_211 j_X12_parts_226 j_X12_parts_231
  refine ⟨?_, ?_⟩
  · rcases hs with rfl | rfl | rfl | rfl
    · rw [show rk 61 = 9 from rfl, if_pos rfl, jiv_n (t65 h), m_emit h hc (by omega) (by decide) (show m < 128 by omega), jb2_some, if_neg (by decide)]; rfl
    · rw [show rk 65 = 6 from rfl, if_neg (by decide), if_neg (by decide), jiv_n (t65 h), m_emit h hc (by omega) (by decide) (by decide), jb2_some, if_pos (by decide)]; rfl
    · rw [show rk 66 = 7 from rfl, if_neg (by decide), if_neg (by decide), jiv_n (t65 h), m_emit h hc (by omega) (by decide) (by decide), jb2_some, if_pos (by decide)]; rfl
    · rw [show rk 69 = 8 from rfl, if_neg (by decide), if_pos rfl, jiv_n (t65 h), m_emit h hc (by omega) (by decide) (show m < 128 by omega), jb2_some, if_neg (by decide)]; rfl
  · simp only [Nr]
    rw [em_k, if_pos rfl, em_x, if_pos rfl, em_y, if_pos rfl]
    unfold ac
    by_cases h6 : s = 65 ∨ s = 66
    · rw [if_pos h6, if_pos h6]
      refine ⟨?_, ?_, ?_⟩
      · congr 1; unfold aS; congr 1; omega
      · congr 1; unfold aA; omega
      · congr 1; unfold aB; omega
    · rw [if_neg h6, if_neg h6]
      refine ⟨?_, ?_, ?_⟩
      · congr 1; unfold aS; congr 1; omega
      · congr 1; unfold aA; omega
      · congr 1; unfold aB; omega
theorem m_parts (hf : WF ws) (h1 : w1 < 8) (h2 : w2 < 8) (hr : rv (ws w1) (ws w2) r) (g : GG ws w1 w2 r M) (hc : rI M 65 23 = nI c) (h8 : c + 2 < 1000) {s n m : Nat} (hs : s = 61 ∨ s = 65 ∨ s = 66 ∨ s = 69) (hn : n < r.length) (hm : m < r.length) : (df (ws w1) (ws w2) r s n m = false → f_X12_parts 65 (nI (rk s)) (nI n) (nI m) M = some (bI false, M)) ∧ (df (ws w1) (ws w2) r s n m = true → ∃ N, f_X12_parts 65 (nI (rk s)) (nI n) (nI m) M = some (bI true, N) ∧ MO ws w1 w2 r q c (lit (ws w1) r s n m) M N) := by
  have hl := g.2.2.2.2.2.1
  rw [parts_v hf h1 h2 hr g hs hn hm]
  unfold df j_X12_parts_188 lit
  generalize av (ws w1) s (ro r n).1 (ro r m).1 = x
  generalize av (ws w2) s (ro r n).2 (ro r m).2 = y
  refine ⟨fun z => ?_, fun z => ?_⟩
  · have : x = y := by cases x <;> cases y <;> first | rfl | cases z
    rw [if_pos (by rw [this])]; rfl
  · have hne : x ≠ y := fun w => by rw [w] at z; cases y <;> cases z
    rw [if_neg (fun w => hne (bI_e.mp w))]
    cases x with
    | true =>
      obtain ⟨p1, p2⟩ := put_m (q := q) g hc (by omega) hs (show n < 8 by omega) (show m < 8 by omega)
      rw [if_neg (by decide), p1, if_pos rfl]
      exact ⟨_, rfl, GG_nm em_ey g, em_ey.mono fun _ _ => PNm_r, em_c, p2, fun i hi => em_same hi⟩
    | false =>
      have g0 := GG_nm (em_ey (M := M) (c := c) (k := 1) (x := nI 0) (y := 0)) g
      have c0 : rI (em M c 1 (nI 0) 0) 65 23 = nI (c + 1) := em_c
      obtain ⟨p1, p2⟩ := put_m (q := q) g0 c0 (by omega) hs (show n < 8 by omega) (show m < 8 by omega)
      rw [if_pos (show bI false = 0 from rfl), jiv_n (t65 g.1), m_emit g.1 hc (by omega) (by decide) (by decide), jb2_some, p1, if_neg (show ¬ (false = true) by decide)]
      generalize (if s = 65 ∨ s = 66 then 0 else m) = yy at p1 p2 ⊢
      refine ⟨_, rfl, GG_nm em_ey g0, (em_ey.mono fun _ _ => PNm_r).tr (em_ey.mono fun _ _ => PNm_r), by rw [em_c, sz_u (by decide)]; rfl, ?_, fun i hi => ?_⟩
      · simp only [Nr] at p2 ⊢
        rw [if_neg (by decide), if_neg (by decide), if_pos trivial]
        obtain ⟨q1, q2, q3⟩ := em_same (M := em M c 1 (nI 0) 0) (c := c + 1) (k := rk s) (x := nI n) (y := yy) (i := c) (by omega)
        refine ⟨⟨by rw [q1, em_k, if_pos rfl]; rfl, by rw [q2, em_x, if_pos rfl], by rw [q3, em_y, if_pos rfl]⟩, p2⟩
      · obtain ⟨q1, q2, q3⟩ := em_same (M := em M c 1 (nI 0) 0) (c := c + 1) (k := rk s) (x := nI n) (y := yy) (i := i) (by omega)
        obtain ⟨t1, t2, t3⟩ := em_same (M := M) (c := c) (k := 1) (x := nI 0) (y := 0) hi
        exact ⟨q1.trans t1, q2.trans t2, q3.trans t3⟩
theorem pat_60 (hf : WF ws) (h1 : w1 < 8) (h2 : w2 < 8) (hr : rv (ws w1) (ws w2) r) (g : GG ws w1 w2 r M) (hc : rI M 65 23 = nI c) (h8 : c + 2 < 1000) {k2 : Nat → Int32 → jM → jO Unit} {m : Nat} (hm : m < r.length) : ∀ (d n F : Nat), n + d = m + 1 → d < F → match ff (fun n => df (ws w1) (ws w2) r 69 n m || df (ws w1) (ws w2) r 69 m n) n d with
      | none => l_X12_partAtom_60 k2 F 65 (nI m) (nI n) M = k2 65 (nI (m + 1)) M
      | some k => ∃ N, l_X12_partAtom_60 k2 F 65 (nI m) (nI n) M = some ((), N) ∧ MO ws w1 w2 r q c (if df (ws w1) (ws w2) r 69 k m = true then lit (ws w1) r 69 k m else lit (ws w1) r 69 m k) M N := by
  have hl := g.2.2.2.2.2.1
  intro d
  induction d with
  | zero =>
    intro n F hnd hF
    obtain ⟨F, rfl⟩ : ∃ G, F = G + 1 := ⟨F - 1, by omega⟩
    show b_X12_partAtom_60 k2 (l_X12_partAtom_60 k2 F) 65 (nI m) (nI n) M = _
    unfold b_X12_partAtom_60
    rw [if_pos (nI_lt (by omega) (by omega)), nI_add]
  | succ d ih =>
    intro n F hnd hF
    obtain ⟨F, rfl⟩ : ∃ G, F = G + 1 := ⟨F - 1, by omega⟩
    obtain ⟨p1, p2⟩ := m_parts (q := q) hf h1 h2 hr g hc h8 (s := 69) (n := n) (m := m) (by simp) (by omega) hm
    obtain ⟨p3, p4⟩ := m_parts (q := q) hf h1 h2 hr g hc h8 (s := 69) (n := m) (m := n) (by simp) hm (by omega)
    rw [show rk 69 = 8 from rfl] at p1 p2 p3 p4
    have un : l_X12_partAtom_60 k2 (F + 1) 65 (nI m) (nI n) M = jb2 (f_X12_parts 65 (nI 8) (nI n) (nI m) M) fun x2 M1 => if x2 = 0 then (if nI m ≤ nI n then l_X12_partAtom_60 k2 F 65 (nI m) (nI (n + 1)) M1 else jb2 (jiv 11 M1 65 (f_X12_parts 65 (nI 8) (nI m) (nI n) M1)) fun x4 M3 => if x4 = 0 then l_X12_partAtom_60 k2 F 65 (nI m) (nI (n + 1)) M3 else rt () M3) else rt () M1 := by
      show b_X12_partAtom_60 k2 (l_X12_partAtom_60 k2 F) 65 (nI m) (nI n) M = _
      unfold b_X12_partAtom_60 j_X12_partAtom_93
      rw [if_neg (nI_nlt (by omega) (by omega)), jiv_n (t65 g.1), nI_add]
    rw [ff_s, un]
    cases e1 : df (ws w1) (ws w2) r 69 n m with
    | true =>
      obtain ⟨N, n1, n2⟩ := p2 e1
      rw [if_pos (by rfl), n1, jb2_some, if_neg (by decide)]
      dsimp only
      rw [if_pos e1]
      exact ⟨N, rfl, n2⟩
    | false =>
      rw [p1 e1, jb2_some, if_pos (show bI false = 0 from rfl)]
      by_cases hmn : m ≤ n
      · have hnm : n = m := by omega
        have e2 : df (ws w1) (ws w2) r 69 m n = false := by rw [← hnm] at e1 ⊢; exact e1
        rw [e2, if_neg (by decide), if_pos (nI_le hmn (by omega))]
        exact ih (n + 1) F (by omega) (by omega)
      · rw [if_neg (nI_ge (by omega) (by omega)), jiv_n (t65 g.1)]
        cases e2 : df (ws w1) (ws w2) r 69 m n with
        | true =>
          obtain ⟨N, n1, n2⟩ := p4 e2
          rw [if_pos (by rfl), n1, jb2_some, if_neg (by decide)]
          dsimp only
          rw [e1, if_neg (by decide)]
          exact ⟨N, rfl, n2⟩
        | false =>
          rw [if_neg (by decide), p3 e2, jb2_some, if_pos (show bI false = 0 from rfl)]
          exact ih (n + 1) F (by omega) (by omega)
theorem pat_12 (hf : WF ws) (h1 : w1 < 8) (h2 : w2 < 8) (hr : rv (ws w1) (ws w2) r) (g : GG ws w1 w2 r M) (hc : rI M 65 23 = nI c) (h8 : c + 2 < 1000) {k2 : Nat → Int32 → jM → jO Unit} {m : Nat} (hm : m < r.length) : ∀ (d n F : Nat), n + d = m → d < F → match ff (fun n => df (ws w1) (ws w2) r 61 n m) n d with
      | some k => ∃ N, l_X12_partAtom_12 k2 F 65 (nI m) (nI n) M = some ((), N) ∧ MO ws w1 w2 r q c (lit (ws w1) r 61 k m) M N
      | none => l_X12_partAtom_12 k2 F 65 (nI m) (nI n) M = jb2 (f_X12_parts 65 (nI 6) (nI m) (nI m) M) fun x2 M1 => if x2 = 0 then (jb2 (jiv 11 M1 65 (f_X12_parts 65 (nI 7) (nI m) (nI m) M1)) fun x4 M3 => if x4 = 0 then l_X12_partAtom_60 k2 jF0 65 (nI m) (nI 0) M3 else rt () M3) else rt () M1 := by
  have hl := g.2.2.2.2.2.1
  intro d
  induction d with
  | zero =>
    intro n F hnd hF
    obtain ⟨F, rfl⟩ : ∃ G, F = G + 1 := ⟨F - 1, by omega⟩
    show b_X12_partAtom_12 k2 (l_X12_partAtom_12 k2 F) 65 (nI m) (nI n) M = _
    unfold b_X12_partAtom_12
    rw [if_pos (nI_le (by omega) (by omega)), jiv_n (t65 g.1)]
  | succ d ih =>
    intro n F hnd hF
    obtain ⟨F, rfl⟩ : ∃ G, F = G + 1 := ⟨F - 1, by omega⟩
    obtain ⟨p1, p2⟩ := m_parts (q := q) hf h1 h2 hr g hc h8 (s := 61) (n := n) (m := m) (by simp) (by omega) hm
    rw [show rk 61 = 9 from rfl] at p1 p2
    have un : l_X12_partAtom_12 k2 (F + 1) 65 (nI m) (nI n) M = jb2 (f_X12_parts 65 (nI 9) (nI n) (nI m) M) fun x6 M5 => if x6 = 0 then l_X12_partAtom_12 k2 F 65 (nI m) (nI (n + 1)) M5 else rt () M5 := by
      show b_X12_partAtom_12 k2 (l_X12_partAtom_12 k2 F) 65 (nI m) (nI n) M = _
      unfold b_X12_partAtom_12
      rw [if_neg (nI_ge (by omega) (by omega)), jiv_n (t65 g.1), nI_add]
    rw [ff_s, un]
    cases e1 : df (ws w1) (ws w2) r 61 n m with
    | true =>
      obtain ⟨N, n1, n2⟩ := p2 e1
      rw [if_pos rfl, n1, jb2_some, if_neg (by decide)]
      exact ⟨N, rfl, n2⟩
    | false =>
      rw [if_neg (by decide), p1 e1, jb2_some, if_pos (show bI false = 0 from rfl)]
      exact ih (n + 1) F (by omega) (by omega)
/-- is there an atom at m -/
def hasA (u v : Wd) (r : Rw) (m : Nat) : Bool := (ff (fun n => df u v r 61 n m) 0 m).isSome || (df u v r 65 m m || (df u v r 66 m m || (ff (fun n => df u v r 69 n m || df u v r 69 m n) 0 (m + 1)).isSome))
theorem pat_m (hf : WF ws) (h1 : w1 < 8) (h2 : w2 < 8) (hr : rv (ws w1) (ws w2) r) (g : GG ws w1 w2 r M) (hc : rI M 65 23 = nI c) (h8 : c + 2 < 1000) {k2 : Nat → Int32 → jM → jO Unit} {m : Nat} (hm : m < r.length) : (hasA (ws w1) (ws w2) r m = false → l_X12_partAtom_12 k2 jF0 65 (nI m) (nI 0) M = k2 65 (nI (m + 1)) M) ∧ (hasA (ws w1) (ws w2) r m = true → ∃ N, l_X12_partAtom_12 k2 jF0 65 (nI m) (nI 0) M = some ((), N) ∧ MO ws w1 w2 r q c (ptT (ws w1) (ws w2) r m) M N) := by
  have hl := g.2.2.2.2.2.1
  obtain ⟨n0, hn0⟩ := jF_is
  have z := pat_12 (q := q) (k2 := k2) hf h1 h2 hr g hc h8 hm m 0 jF0 (by omega) (by omega)
  have y := pat_60 (q := q) (k2 := k2) hf h1 h2 hr g hc h8 hm (m + 1) 0 jF0 (by omega) (by omega)
  obtain ⟨p1, p2⟩ := m_parts (q := q) hf h1 h2 hr g hc h8 (s := 65) (n := m) (m := m) (by simp) hm hm
  obtain ⟨p3, p4⟩ := m_parts (q := q) hf h1 h2 hr g hc h8 (s := 66) (n := m) (m := m) (by simp) hm hm
  rw [show rk 65 = 6 from rfl] at p1 p2
  rw [show rk 66 = 7 from rfl] at p3 p4
  unfold hasA ptT
  cases e1 : ff (fun n => df (ws w1) (ws w2) r 61 n m) 0 m with
  | some k =>
    rw [e1] at z
    exact ⟨fun w => absurd w (by simp), fun _ => z⟩
  | none =>
    rw [e1] at z
    have z : l_X12_partAtom_12 k2 jF0 65 (nI m) (nI 0) M = jb2 (f_X12_parts 65 (nI 6) (nI m) (nI m) M) fun x2 M1 => if x2 = 0 then (jb2 (jiv 11 M1 65 (f_X12_parts 65 (nI 7) (nI m) (nI m) M1)) fun x4 M3 => if x4 = 0 then l_X12_partAtom_60 k2 jF0 65 (nI m) (nI 0) M3 else rt () M3) else rt () M1 := z
    rw [z]
    dsimp only
    cases e2 : df (ws w1) (ws w2) r 65 m m with
    | true =>
      obtain ⟨N, n1, n2⟩ := p2 e2
      rw [n1, jb2_some, if_neg (by decide), if_pos rfl]
      exact ⟨fun w => absurd w (by simp), fun _ => ⟨N, rfl, n2⟩⟩
    | false =>
      rw [p1 e2, jb2_some, if_pos (show bI false = 0 from rfl), jiv_n (t65 g.1), if_neg (show ¬ (false = true) by decide)]
      cases e3 : df (ws w1) (ws w2) r 66 m m with
      | true =>
        obtain ⟨N, n1, n2⟩ := p4 e3
        rw [n1, jb2_some, if_neg (by decide), if_pos rfl]
        exact ⟨fun w => absurd w (by simp), fun _ => ⟨N, rfl, n2⟩⟩
      | false =>
        rw [p3 e3, jb2_some, if_pos (show bI false = 0 from rfl), if_neg (show ¬ (false = true) by decide)]
        cases e4 : ff (fun n => df (ws w1) (ws w2) r 69 n m || df (ws w1) (ws w2) r 69 m n) 0 (m + 1) with
        | some k =>
          rw [e4] at y
          exact ⟨fun w => absurd w (by simp), fun _ => y⟩
        | none =>
          rw [e4] at y
          exact ⟨fun _ => y, fun w => absurd w (by simp)⟩
theorem hasA_plm {u v : Wd} {r : Rw} {m : Nat} (h : plm u v r m = true) : hasA u v r m = false := by
  unfold plm at h
  rw [Bool.and_eq_true] at h
  obtain ⟨hm, hp⟩ := h
  have hm := of_decide_eq_true hm
  have hp := allB_iff.mp hp
  have bq : ∀ {a b : Bool}, a = b → (a != b) = false := fun {a b} h => by rw [h]; cases b <;> rfl
  have d61 : ∀ n, n ≤ m → df u v r 61 n m = false ∧ df u v r 69 n m = false ∧ df u v r 69 m n = false := by
    intro n hn
    have z := hp n (by omega)
    unfold pl1 at z
    simp only [Bool.and_eq_true, beq_iff_eq] at z
    exact ⟨bq z.1, bq z.2.1, bq z.2.2⟩
  unfold hasA
  rw [ff_all0 (f := fun n => df u v r 61 n m) (fun k _ h2 => (d61 k (by omega)).1), ff_all0 (f := fun n => df u v r 69 n m || df u v r 69 m n) (fun k _ h2 => by
    show (df u v r 69 k m || df u v r 69 m k) = false
    rw [(d61 k (by omega)).2.1, (d61 k (by omega)).2.2]; rfl)]
  have e5 : df u v r 65 m m = false := bq (show (u.2.1 (ro r m).1).testBit 0 = (v.2.1 (ro r m).2).testBit 0 by rw [hm])
  have e6 : df u v r 66 m m = false := bq (show (u.2.1 (ro r m).1).testBit 1 = (v.2.1 (ro r m).2).testBit 1 by rw [hm])
  rw [e5, e6]
  rfl
theorem hasA_pla {u v : Wd} (hu : wwf u) (hv : wwf v) {r : Rw} {p : Nat × Nat} (h : pla u v r p = false) : hasA u v (p :: r) r.length = true := by
  cases hx : hasA u v (p :: r) r.length with
  | true => rfl
  | false =>
    unfold hasA at hx
    simp only [Bool.or_eq_false_iff, Option.isSome_eq_false_iff, Option.isNone_iff_eq_none] at hx
    obtain ⟨a1, a2, a3, a4⟩ := hx
    rw [pla_of hu hv (fun n hn => ff_none a1 n (by omega) (by omega)) a2 a3 (fun n hn => ff_none a4 n (by omega) (by omega))] at h
    cases h
theorem pat_2 {p : Nat × Nat} (hf : WF ws) (h1 : w1 < 8) (h2 : w2 < 8) (hr : rv (ws w1) (ws w2) (p :: r)) (g : GG ws w1 w2 (p :: r) M) (hc : rI M 65 23 = nI c) (h8 : c + 2 < 1000) (hal : alk (ws w1) (ws w2) r = true) (hp : pla (ws w1) (ws w2) r p = false) : ∀ (d m F : Nat), m + d = r.length → d < F → ∃ N, l_X12_partAtom_2 F 65 (nI m) M = some ((), N) ∧ MO ws w1 w2 (p :: r) q c (ptT (ws w1) (ws w2) (p :: r) r.length) M N := by
  have hl := g.2.2.2.2.2.1
  have hll : (p :: r).length = r.length + 1 := rfl
  intro d
  induction d with
  | zero =>
    intro m F hmd hF
    obtain ⟨F, rfl⟩ : ∃ G, F = G + 1 := ⟨F - 1, by omega⟩
    have hm : m = r.length := by omega
    subst hm
    show ∃ N, b_X12_partAtom_2 (l_X12_partAtom_2 F) 65 (nI r.length) M = _ ∧ _
    unfold b_X12_partAtom_2
    rw [gI_n (t65 g.1), Option.bind_some, g.2.2.2.2.1, if_neg (nI_ge (by omega) (by omega))]
    exact (pat_m hf h1 h2 hr g hc h8 (by omega)).2 (hasA_pla (hf w1) (hf w2) hp)
  | succ d ih =>
    intro m F hmd hF
    obtain ⟨F, rfl⟩ : ∃ G, F = G + 1 := ⟨F - 1, by omega⟩
    show ∃ N, b_X12_partAtom_2 (l_X12_partAtom_2 F) 65 (nI m) M = _ ∧ _
    unfold b_X12_partAtom_2
    have hplm : plm (ws w1) (ws w2) (p :: r) m = true := by
      rw [plm_cons (by omega)]
      rw [alk_plm] at hal
      exact allB_iff.mp hal m (by omega)
    rw [gI_n (t65 g.1), Option.bind_some, g.2.2.2.2.1, if_neg (nI_ge (by omega) (by omega)), (pat_m (q := q) hf h1 h2 hr g hc h8 (by omega)).1 (hasA_plm hplm)]
    exact ih (m + 1) F (by omega) (by omega)
theorem n_patom {p : Nat × Nat} (hf : WF ws) (h1 : w1 < 8) (h2 : w2 < 8) (hr : rv (ws w1) (ws w2) (p :: r)) (g : GG ws w1 w2 (p :: r) M) (hc : rI M 65 23 = nI c) (h8 : c + 2 < 1000) (hal : alk (ws w1) (ws w2) r = true) (hp : pla (ws w1) (ws w2) r p = false) : ∃ N, f_X12_partAtom 65 M = some ((), N) ∧ MO ws w1 w2 (p :: r) q c (ptT (ws w1) (ws w2) (p :: r) r.length) M N := by
  obtain ⟨n0, hn0⟩ := jF_is
  have hl := g.2.2.2.2.2.1
  have hll : (p :: r).length = r.length + 1 := rfl
  exact pat_2 hf h1 h2 hr g hc h8 hal hp r.length 0 jF0 (by omega) (by omega)
end MV
