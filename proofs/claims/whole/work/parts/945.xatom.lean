/-! READING: the class reads variables and atoms. -/
def P23 (c k : Nat) : Prop := c = 29 ∧ (k = 2 ∨ k = 3)
/-- what reading changes -/
def PQ (c k : Nat) : Prop := (c = 29 ∧ (k = 2 ∨ k = 3)) ∨ c = 31 ∨ (c = 32 ∧ k = 1) ∨ c = 33
/-- all is well so far: at p, with c nodes, the letters' owners ow -/
def AL (t : Tp) (p c : Nat) (ow : Nat → Nat) (M : jM) : Prop := Sh M ∧ XT t M ∧ rI M 29 2 = nI p ∧ p ≤ t.1 ∧ rI M 32 1 = nI c ∧ rI M 29 3 = -1 ∧ ∀ j, j < 8 → rI M 31 j = nI (ow j)
/-- the text is wrong at w -/
def DE (t : Tp) (w : Nat) (M : jM) : Prop := Sh M ∧ XT t M ∧ rI M 29 3 = nI w ∧ w < 2 ^ 31 ∧ (∃ p, p ≤ t.1 ∧ rI M 29 2 = nI p) ∧ ∃ c, c ≤ 800 ∧ rI M 32 1 = nI c
def PO (t : Tp) (q c : Nat) (ow : Nat → Nat) (r : Rs Fm) (M N : jM) : Prop := Ey PQ M N ∧ match r with
  | .inl w => DE t w N
  | .inr (f, p') => ∃ p2, AL t p2 (c + sz f) ow N ∧ sk t p2 = sk t p' ∧ p' ≤ p2 ∧ Nx (rI N 33) c q f ∧ ∀ i, i < c → rI N 33 i = rI M 33 i
theorem P23_Q {c k : Nat} (h : P23 c k) : PQ c k := Or.inl h
theorem P2_23 {c k : Nat} (h : P2 c k) : P23 c k := ⟨h.1, Or.inl h.2⟩
theorem P3_23 {c k : Nat} (h : P3 c k) : P23 c k := ⟨h.1, Or.inr h.2⟩
theorem PNo_Q {c k : Nat} (h : PNo c k) : PQ c k := by unfold PNo at h; unfold PQ; omega
theorem XT_q {t : Tp} {M N : jM} (e : Ey PQ M N) (x : XT t M) : XT t N := XT_ey e (by unfold PQ; omega) (fun k => by unfold PQ; omega) x
theorem pb_sk {t : Tp} {p : Nat} : pb t (sk t p) = pb t p := by unfold pb; rw [sk_sk]
theorem pbI_sk {t : Tp} {p : Nat} : pbI t (sk t p) = pbI t p := by unfold pbI; rw [pb_sk]
section XV
variable {M : jM} {t : Tp} {p c q w : Nat} {ow : Nat → Nat}
theorem DE_ey {P : Nat → Nat → Prop} {N : jM} (e : Ey P M N) (hP : ∀ c k, P c k → PQ c k) (h3 : ¬ P 29 3) {p : Nat} (hp : p ≤ t.1) (hp2 : rI N 29 2 = nI p) (hc : ∃ c, c ≤ 800 ∧ rI N 32 1 = nI c) (d : DE t w M) : DE t w N := ⟨Sh_ey e d.1, XT_q (e.mono hP) d.2.1, by rw [ey_rI e h3]; exact d.2.2.1, d.2.2.2.1, ⟨p, hp, hp2⟩, hc⟩
theorem al_peek (ht : VT t) (a : AL t p c ow M) : ∃ N, f_X8_peek 29 M = some (pbI t p, N) ∧ Ey P2 M N ∧ AL t (sk t p) c ow N := by
  obtain ⟨a1, a2, a3, a4, a5, a6, a7⟩ := a
  obtain ⟨N, n1, n2, n3⟩ := x_peek ht a1 a2 a3 a4
  exact ⟨N, n1, n2, Sh_ey n2 a1, XT_q (n2.mono fun c k h => P23_Q (P2_23 h)) a2, n3, sk_ge.2 a4, by rw [ey_rI n2 (by unfold P2; omega)]; exact a5, by rw [ey_rI n2 (by unfold P2; omega)]; exact a6, fun j hj => by rw [ey_rI n2 (by unfold P2; omega)]; exact a7 j hj⟩
theorem de_peek (ht : VT t) (d : DE t w M) : ∃ N v, f_X8_peek 29 M = some (v, N) ∧ Ey P2 M N ∧ DE t w N ∧ ∃ p, p ≤ t.1 ∧ rI N 29 2 = nI p ∧ ((v = -1) ∨ p < t.1) := by
  obtain ⟨d1, d2, d3, d4, ⟨p, d5, d6⟩, c, d7, d8⟩ := d
  obtain ⟨N, n1, n2, n3⟩ := x_peek ht d1 d2 d6 d5
  refine ⟨N, _, n1, n2, ⟨Sh_ey n2 d1, XT_q (n2.mono fun c k h => P23_Q (P2_23 h)) d2, by rw [ey_rI n2 (by unfold P2; omega)]; exact d3, d4, ⟨_, sk_ge.2 d5, n3⟩, c, d7, by rw [ey_rI n2 (by unfold P2; omega)]; exact d8⟩, sk t p, sk_ge.2 d5, n3, ?_⟩
  by_cases h : pb t p = 256
  · exact Or.inl ((pbI_m1 ht).mpr h)
  · have := pb_256 ht p
    exact Or.inr (pb_lt (by omega))
theorem al_fail (ht : VT t) (h8 : c ≤ 800) (a : AL t p c ow M) : ∃ N, f_X8_fail 29 M = some ((), N) ∧ Ey P3 M N ∧ DE t p N := by
  have := ht.1
  obtain ⟨a1, a2, a3, a4, a5, a6, a7⟩ := a
  obtain ⟨N, n1, n2, n3⟩ := x_fail a1 (w := none) a6 (fun x h => by cases h) a3
  exact ⟨N, n1, n2, Sh_ey n2 a1, XT_q (n2.mono fun c k h => P23_Q (P3_23 h)) a2, n3, by omega, ⟨p, a4, by rw [ey_rI n2 (by unfold P3; omega)]; exact a3⟩, c, h8, by rw [ey_rI n2 (by unfold P3; omega)]; exact a5⟩
theorem de_fail (ht : VT t) (d : DE t w M) : f_X8_fail 29 M = some ((), M) := by
  obtain ⟨d1, d2, d3, d4, -⟩ := d
  unfold f_X8_fail
  rw [gI_n (t29 d1), Option.bind_some, d3, if_pos (nI_pos' d4)]
  rfl
/-- the place goes on by one -/
theorem al_next (ht : VT t) (a : AL t p c ow M) (hp : p < t.1) : ((gI 7 M 29 2).bind fun x => pI 7 M 29 2 (x + nI 1)) = some (wI M 29 2 (nI (p + 1))) ∧ AL t (p + 1) c ow (wI M 29 2 (nI (p + 1))) := by
  obtain ⟨a1, a2, a3, a4, a5, a6, a7⟩ := a
  have e : Ey P2 M (wI M 29 2 (nI (p + 1))) := ey_wI Ey.rf ⟨rfl, rfl⟩
  refine ⟨by rw [gI_n (t29 a1), Option.bind_some, a3, nI_add, pI_n (t29 a1)], Sh_ey e a1, XT_q (e.mono fun c k h => P23_Q (P2_23 h)) a2, by rw [rI_wI, if_pos ⟨rfl, rfl⟩], by omega, by rw [ey_rI e (by unfold P2; omega)]; exact a5, by rw [ey_rI e (by unfold P2; omega)]; exact a6, fun j hj => by rw [ey_rI e (by unfold P2; omega)]; exact a7 j hj⟩
theorem let_lo : ∀ n, n < 97 → nI n - nI 97 < 0 := by decide +kernel
theorem pbI_let (ht : VT t) : (97 ≤ pb t p ∧ pb t p < 256 ∧ pbI t p - nI 97 = nI (pb t p - 97)) ∨ ((pb t p < 97 ∨ pb t p = 256) ∧ pbI t p - nI 97 < 0) := by
  have := pb_256 ht p
  unfold pbI
  by_cases h : pb t p = 256
  · rw [if_pos h]; exact Or.inr ⟨Or.inr h, by decide⟩
  · rw [if_neg h]
    by_cases h9 : pb t p < 97
    · exact Or.inr ⟨Or.inl h9, let_lo _ h9⟩
    · exact Or.inl ⟨by omega, by omega, nI_sb (by omega)⟩
theorem al_own (ht : VT t) (h8 : c ≤ 800) (ho : ∀ j, ow j ≤ 8) (a : AL t p c ow M) : ∃ N v, f_X8_parseOwner 29 M = some (v, N) ∧ Ey P23 M N ∧ match pOwn t ow p with
    | .inl w => DE t w N
    | .inr (b, p') => v = nI b ∧ AL t p' c ow N := by
  obtain ⟨N, n1, n2, n3⟩ := al_peek ht a
  have hN := n3.1
  have n2' := n2.mono fun c k h => P2_23 h
  unfold f_X8_parseOwner
  rw [jiv_n (t29 a.1), n1, jb2_some, jv_b]
  obtain ⟨O, o1, o2, o3⟩ := al_fail ht h8 n3
  have bad : ¬ (97 ≤ pb t p ∧ pb t p ≤ 104 ∧ ow (pb t p - 97) ≠ 0) → ∃ N1 v, j_X8_parseOwner_30 29 N = some (v, N1) ∧ Ey P23 M N1 ∧ match pOwn t ow p with
    | .inl w => DE t w N1
    | .inr (b, p') => v = nI b ∧ AL t p' c ow N1 := by
    intro hb
    unfold j_X8_parseOwner_30 pOwn
    rw [jiv_n (t29 hN), o1, jb2_some, if_neg hb]
    exact ⟨O, _, rfl, n2'.tr (o2.mono fun c k h => P3_23 h), o3⟩
  rcases pbI_let (p := p) ht with ⟨h1, h2, h3⟩ | ⟨h1, h2⟩
  · rw [h3, if_neg (nI_pos (by omega)), q29_4 hN, Option.bind_some, ln_n (t31 hN) (by decide) (by decide), Option.bind_some]
    by_cases h4 : 8 ≤ pb t p - 97
    · rw [if_pos (nI_le h4 (by omega))]
      exact bad (by omega)
    · rw [if_neg (nI_ge (by omega) (by decide)), Option.bind_some, ldI_n (t31 hN) (by omega) (by decide), Option.bind_some, n3.2.2.2.2.2.2 _ (by omega)]
      have := ho (pb t p - 97)
      by_cases h5 : ow (pb t p - 97) = 0
      · rw [h5, if_pos (show nI 0 = 0 from rfl)]
        exact bad (by omega)
      · obtain ⟨z1, z2⟩ := al_next ht n3 (pb_lt h2)
        rw [if_neg (nI_ne0 (by omega) (by omega))]
        rw [gI_n (t29 hN), Option.bind_some] at z1 ⊢
        rw [z1, Option.bind_some, q29_4 z2.1, Option.bind_some, ldI_n (t31 z2.1) (by omega) (by decide), Option.bind_some, z2.2.2.2.2.2.2 _ (by omega)]
        unfold pOwn
        rw [if_pos ⟨h1, by omega, h5⟩]
        exact ⟨_, _, rfl, n2'.tr (ey_wI Ey.rf ⟨rfl, Or.inl rfl⟩), rfl, z2⟩
  · rw [if_pos h2]
    exact bad (by omega)
theorem de_own (ht : VT t) (d : DE t w M) : ∃ N v, f_X8_parseOwner 29 M = some (v, N) ∧ Ey P23 M N ∧ DE t w N := by
  obtain ⟨N, v, n1, n2, n3, p, hp, n4, n5⟩ := de_peek ht d
  have hN := n3.1
  have n2' := n2.mono fun c k h => P2_23 h
  unfold f_X8_parseOwner
  rw [jiv_n (t29 d.1), n1, jb2_some, jv_b]
  have bad : ∃ N1 v, j_X8_parseOwner_30 29 N = some (v, N1) ∧ Ey P23 M N1 ∧ DE t w N1 := by
    unfold j_X8_parseOwner_30
    rw [jiv_n (t29 hN), de_fail ht n3, jb2_some]
    exact ⟨N, _, rfl, n2', n3⟩
  by_cases h1 : v - nI 97 < 0
  · rw [if_pos h1]; exact bad
  · rw [if_neg h1, q29_4 hN, Option.bind_some, ln_n (t31 hN) (by decide) (by decide), Option.bind_some]
    by_cases h2 : nI 8 ≤ v - nI 97
    · rw [if_pos h2]; exact bad
    · obtain ⟨j, hj, hj2⟩ := nI_of h1
      rw [hj2] at h2 ⊢
      have h3 : j < 8 := by
        by_cases h : 8 ≤ j
        · exact absurd (nI_le h hj) h2
        · omega
      have hv : p < t.1 := by
        rcases n5 with h | h
        · rw [h] at h1; exact absurd (by decide) h1
        · exact h
      rw [if_neg h2, Option.bind_some, ldI_n (t31 hN) h3 (by decide), Option.bind_some]
      by_cases h5 : rI N 31 j = 0
      · rw [if_pos h5]; exact bad
      · have e : Ey P2 N (wI N 29 2 (nI (p + 1))) := ey_wI Ey.rf ⟨rfl, rfl⟩
        have hO := Sh_ey e hN
        rw [if_neg h5, gI_n (t29 hN), Option.bind_some, n4, nI_add, pI_n (t29 hN), Option.bind_some, q29_4 hO, Option.bind_some, ldI_n (t31 hO) h3 (by decide), Option.bind_some]
        obtain ⟨c, hc, hc2⟩ := n3.2.2.2.2.2
        exact ⟨_, _, rfl, n2'.tr (e.mono fun c k h => P2_23 h), DE_ey e (fun c k h => P23_Q (P2_23 h)) (by unfold P2; omega) (p := p + 1) (by omega) (by rw [rI_wI, if_pos ⟨rfl, rfl⟩]) ⟨c, hc, by rw [ey_rI e (by unfold P2; omega)]; exact hc2⟩ n3⟩
/-- a node more -/
theorem de_add (d : DE t w M) (k v u : Int32) : ∃ N r, f_X4_add 32 k v u M = some (r, N) ∧ Ey PNo M N ∧ DE t w N := by
  obtain ⟨d1, d2, d3, d4, ⟨p, d5, d6⟩, c, d7, d8⟩ := d
  obtain ⟨N, c', n1, n2, n3, n4⟩ := x_naddA d1 d8 d7 k v u
  exact ⟨N, _, n1, n2, DE_ey n2 (fun c k h => PNo_Q h) (by unfold PNo; omega) d5 (by rw [ey_rI n2 (by unfold PNo; omega)]; exact d6) ⟨c', n4, n3⟩ ⟨d1, d2, d3, d4, ⟨p, d5, d6⟩, c, d7, d8⟩⟩
theorem de_close (d : DE t w M) {b : Nat} (hb : b ≤ 800) : ∃ N, f_X4_close 32 (nI b) M = some ((), N) ∧ Ey PNo M N ∧ DE t w N := by
  obtain ⟨d1, d2, d3, d4, ⟨p, d5, d6⟩, c, d7, d8⟩ := d
  obtain ⟨N, n1, n2, n3⟩ := x_ncloseA d1 d8 d7 hb
  exact ⟨N, n1, n2, DE_ey n2 (fun c k h => PNo_Q h) (by unfold PNo; omega) d5 (by rw [ey_rI n2 (by unfold PNo; omega)]; exact d6) ⟨c, d7, n3⟩ ⟨d1, d2, d3, d4, ⟨p, d5, d6⟩, c, d7, d8⟩⟩
theorem al_add (a : AL t p c ow M) (h8 : c < 800) {k v u x : Int32} (he : f_X4_encode k v u M = some (x, M)) : f_X4_add 32 k v u M = some (nI c, wI (wI M 33 c x) 32 1 (nI (c + 1))) ∧ Ey PNo M (wI (wI M 33 c x) 32 1 (nI (c + 1))) ∧ AL t p (c + 1) ow (wI (wI M 33 c x) 32 1 (nI (c + 1))) ∧ rI (wI (wI M 33 c x) 32 1 (nI (c + 1))) 33 c = x ∧ ∀ i, i < c → rI (wI (wI M 33 c x) 32 1 (nI (c + 1))) 33 i = rI M 33 i := by
  obtain ⟨a1, a2, a3, a4, a5, a6, a7⟩ := a
  have e : Ey PNo M (wI (wI M 33 c x) 32 1 (nI (c + 1))) := ey_wI (ey_wI Ey.rf (Or.inr rfl)) (Or.inl ⟨rfl, rfl⟩)
  refine ⟨x_nadd a1 a5 h8 he, e, ⟨Sh_ey e a1, XT_q (e.mono fun c k h => PNo_Q h) a2, by rw [ey_rI e (by unfold PNo; omega)]; exact a3, a4, by rw [rI_wI, if_pos ⟨rfl, rfl⟩], by rw [ey_rI e (by unfold PNo; omega)]; exact a6, fun j hj => by rw [ey_rI e (by unfold PNo; omega)]; exact a7 j hj⟩, by rw [rI_wI, if_neg (by omega), rI_wI, if_pos ⟨rfl, rfl⟩], fun i hi => by rw [rI_wI, if_neg (by omega), rI_wI, if_neg (by omega)]⟩
theorem pAtom_sk : pAtom t ow (sk t p) = pAtom t ow p := by unfold pAtom; rw [pb_sk, sk_sk]
end XV
