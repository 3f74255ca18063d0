/-! READING: the reference's new nodes and its tape, small steps. -/
def PNm (c k : Nat) : Prop := (c = 65 ∧ k = 23) ∨ (80 ≤ c ∧ c ≤ 82)
def em (M : jM) (c k : Nat) (x : Int32) (y : Nat) : jM := wI (wI (wI (wI M 80 c (nI k)) 81 c x) 82 c (nI y)) 65 23 (nI (c + 1))
theorem em_ey {M : jM} {c k y : Nat} {x : Int32} : Ey PNm M (em M c k x y) := ey_wI (ey_wI (ey_wI (ey_wI Ey.rf (Or.inr (by decide))) (Or.inr (by decide))) (Or.inr (by decide))) (Or.inl ⟨rfl, rfl⟩)
theorem em_c {M : jM} {c k y : Nat} {x : Int32} : rI (em M c k x y) 65 23 = nI (c + 1) := by unfold em; rw [rI_wI, if_pos ⟨rfl, rfl⟩]
theorem em_k {M : jM} {c k y : Nat} {x : Int32} (i : Nat) : rI (em M c k x y) 80 i = if i = c then nI k else rI M 80 i := by
  unfold em
  rw [rI_wI, if_neg (by omega), rI_wI, if_neg (by omega), rI_wI, if_neg (by omega), rI_wI]
  by_cases h : i = c
  · rw [if_pos ⟨rfl, h⟩, if_pos h]
  · rw [if_neg (by omega), if_neg h]
theorem em_x {M : jM} {c k y : Nat} {x : Int32} (i : Nat) : rI (em M c k x y) 81 i = if i = c then x else rI M 81 i := by
  unfold em
  rw [rI_wI, if_neg (by omega), rI_wI, if_neg (by omega), rI_wI]
  by_cases h : i = c
  · rw [if_pos ⟨rfl, h⟩, if_pos h]
  · rw [if_neg (by omega), if_neg h, rI_wI, if_neg (by omega)]
theorem em_y {M : jM} {c k y : Nat} {x : Int32} (i : Nat) : rI (em M c k x y) 82 i = if i = c then nI y else rI M 82 i := by
  unfold em
  rw [rI_wI, if_neg (by omega), rI_wI]
  by_cases h : i = c
  · rw [if_pos ⟨rfl, h⟩, if_pos h]
  · rw [if_neg (by omega), if_neg h, rI_wI, if_neg (by omega), rI_wI, if_neg (by omega)]
section MX
variable {M : jM} {c a p : Nat} {t : Tp}
theorem m_emit (h : Sh M) (hc : rI M 65 23 = nI c) (h8 : c < 1000) {k y : Nat} {x : Int32} (hk : k < 128) (hy : y < 128) : f_X12_emit 65 (nI k) x (nI y) M = some ((), em M c k x y) := by
  unfold f_X12_emit
  have e1 : Ey PNm M (wI M 80 c (nI k)) := ey_wI Ey.rf (Or.inr (by decide))
  have e2 : Ey PNm M (wI (wI M 80 c (nI k)) 81 c x) := ey_wI e1 (Or.inr (by decide))
  have e3 : Ey PNm M (wI (wI (wI M 80 c (nI k)) 81 c x) 82 c (nI y)) := ey_wI e2 (Or.inr (by decide))
  have h1 := Sh_ey e1 h
  have h2 := Sh_ey e2 h
  have h3 := Sh_ey e3 h
  rw [q65_24 h, Option.bind_some, gI_n (t65 h), Option.bind_some, hc, stB_n (t80 h) h8 (by decide), Option.bind_some, by8 k hk, q65_25 h1, Option.bind_some, gI_n (t65 h1), Option.bind_some, rI_wI, if_neg (by omega), hc, stI_n (t81 h1) h8 (by decide), Option.bind_some, q65_26 h2, Option.bind_some, gI_n (t65 h2), Option.bind_some, rI_wI, if_neg (by omega), rI_wI, if_neg (by omega), hc, stB_n (t82 h2) h8 (by decide), Option.bind_some, by8 y hy, gI_n (t65 h3), Option.bind_some, rI_wI, if_neg (by omega), rI_wI, if_neg (by omega), rI_wI, if_neg (by omega), hc, nI_add, pI_n (t65 h3), Option.bind_some]
  rfl
/-- how far the nodes behind a have moved on -/
def Mv (a i c : Nat) (M N : jM) : Prop := ∀ d, 80 ≤ d → d ≤ 82 → (∀ j, j < a → rI N d j = rI M d j) ∧ (∀ j, a ≤ j → j < i → rI N d j = rI M d j) ∧ ∀ j, i ≤ j → j < c → rI N d (j + 1) = rI M d j
theorem ins_l (h9 : c < 1000) {k : Nat} (hk : k < 128) (h0 : ∀ i, a ≤ i → i < c → (∃ v, v < 128 ∧ rI M 80 i = nI v) ∧ ∃ u, u < 128 ∧ rI M 82 i = nI u) : ∀ (i F : Nat) (N : jM), a ≤ i → i ≤ c → Sh N → rI N 65 23 = nI c → Mv a i c M N → i - a < F → ∃ O, l_X12_insert_5 F 65 (nI a) (nI k) (nI i) N = some ((), O) ∧ Ey PNm N O ∧ rI O 65 23 = nI (c + 1) ∧ rI O 80 a = nI k ∧ rI O 81 a = nI 0 ∧ rI O 82 a = nI 0 ∧ ∀ d, 80 ≤ d → d ≤ 82 → (∀ j, j < a → rI O d j = rI M d j) ∧ ∀ j, a ≤ j → j < c → rI O d (j + 1) = rI M d j := by
  intro i
  induction i with
  | zero =>
    intro F N hai hic hS hN mv hF
    obtain ⟨F, rfl⟩ : ∃ G, F = G + 1 := ⟨F - 1, by omega⟩
    have ha : a = 0 := by omega
    show ∃ O, b_X12_insert_5 (l_X12_insert_5 F) 65 (nI a) (nI k) (nI 0) N = _ ∧ _
    unfold b_X12_insert_5
    have e1 : Ey PNm N (wI N 80 a (nI k)) := ey_wI Ey.rf (Or.inr (by decide))
    have e2 : Ey PNm N (wI (wI N 80 a (nI k)) 81 a (nI 0)) := ey_wI e1 (Or.inr (by decide))
    have e3 : Ey PNm N (wI (wI (wI N 80 a (nI k)) 81 a (nI 0)) 82 a (nI 0)) := ey_wI e2 (Or.inr (by decide))
    have h1 := Sh_ey e1 hS
    have h2 := Sh_ey e2 hS
    have h3 := Sh_ey e3 hS
    rw [if_pos (nI_le (by omega) (by omega)), q65_24 hS, Option.bind_some, stB_n (t80 hS) (by omega) (by decide), Option.bind_some, by8 k hk, q65_25 h1, Option.bind_some, stI_n (t81 h1) (by omega) (by decide), Option.bind_some, q65_26 h2, Option.bind_some, stB_n (t82 h2) (by omega) (by decide), Option.bind_some, fit7 0 (by decide), gI_n (t65 h3), Option.bind_some, rI_wI, if_neg (by omega), rI_wI, if_neg (by omega), rI_wI, if_neg (by omega), hN, nI_add, pI_n (t65 h3), Option.bind_some]
    refine ⟨_, rfl, ey_wI e3 (Or.inl ⟨rfl, rfl⟩), by rw [rI_wI, if_pos ⟨rfl, rfl⟩], ?_, ?_, ?_, fun d d1 d2 => ⟨fun j hj => ?_, fun j j1 j2 => ?_⟩⟩
    · rw [rI_wI, if_neg (by omega), rI_wI, if_neg (by omega), rI_wI, if_neg (by omega), rI_wI, if_pos ⟨rfl, rfl⟩]
    · rw [rI_wI, if_neg (by omega), rI_wI, if_neg (by omega), rI_wI, if_pos ⟨rfl, rfl⟩]
    · rw [rI_wI, if_neg (by omega), rI_wI, if_pos ⟨rfl, rfl⟩]
    · rw [rI_wI, if_neg (by omega), rI_wI, if_neg (by omega), rI_wI, if_neg (by omega), rI_wI, if_neg (by omega)]; exact (mv d d1 d2).1 j hj
    · rw [rI_wI, if_neg (by omega), rI_wI, if_neg (by omega), rI_wI, if_neg (by omega), rI_wI, if_neg (by omega)]; exact (mv d d1 d2).2.2 j (by omega) j2
  | succ i ih =>
    intro F N hai hic hS hN mv hF
    obtain ⟨F, rfl⟩ : ∃ G, F = G + 1 := ⟨F - 1, by omega⟩
    show ∃ O, b_X12_insert_5 (l_X12_insert_5 F) 65 (nI a) (nI k) (nI (i + 1)) N = _ ∧ _
    unfold b_X12_insert_5
    by_cases hl : i + 1 ≤ a
    · have hia : a = i + 1 := by omega
      have e1 : Ey PNm N (wI N 80 a (nI k)) := ey_wI Ey.rf (Or.inr (by decide))
      have e2 : Ey PNm N (wI (wI N 80 a (nI k)) 81 a (nI 0)) := ey_wI e1 (Or.inr (by decide))
      have e3 : Ey PNm N (wI (wI (wI N 80 a (nI k)) 81 a (nI 0)) 82 a (nI 0)) := ey_wI e2 (Or.inr (by decide))
      have h1 := Sh_ey e1 hS
      have h2 := Sh_ey e2 hS
      have h3 := Sh_ey e3 hS
      rw [if_pos (nI_le (by omega) (by omega)), q65_24 hS, Option.bind_some, stB_n (t80 hS) (by omega) (by decide), Option.bind_some, by8 k hk, q65_25 h1, Option.bind_some, stI_n (t81 h1) (by omega) (by decide), Option.bind_some, q65_26 h2, Option.bind_some, stB_n (t82 h2) (by omega) (by decide), Option.bind_some, fit7 0 (by decide), gI_n (t65 h3), Option.bind_some, rI_wI, if_neg (by omega), rI_wI, if_neg (by omega), rI_wI, if_neg (by omega), hN, nI_add, pI_n (t65 h3), Option.bind_some]
      refine ⟨_, rfl, ey_wI e3 (Or.inl ⟨rfl, rfl⟩), by rw [rI_wI, if_pos ⟨rfl, rfl⟩], ?_, ?_, ?_, fun d d1 d2 => ⟨fun j hj => ?_, fun j j1 j2 => ?_⟩⟩
      · rw [rI_wI, if_neg (by omega), rI_wI, if_neg (by omega), rI_wI, if_neg (by omega), rI_wI, if_pos ⟨rfl, rfl⟩]
      · rw [rI_wI, if_neg (by omega), rI_wI, if_neg (by omega), rI_wI, if_pos ⟨rfl, rfl⟩]
      · rw [rI_wI, if_neg (by omega), rI_wI, if_pos ⟨rfl, rfl⟩]
      · rw [rI_wI, if_neg (by omega), rI_wI, if_neg (by omega), rI_wI, if_neg (by omega), rI_wI, if_neg (by omega)]; exact (mv d d1 d2).1 j hj
      · rw [rI_wI, if_neg (by omega), rI_wI, if_neg (by omega), rI_wI, if_neg (by omega), rI_wI, if_neg (by omega)]; exact (mv d d1 d2).2.2 j (by omega) j2
    · obtain ⟨⟨v, v1, v2⟩, u, u1, u2⟩ := h0 i (by omega) (by omega)
      have k80 : rI N 80 i = nI v := by rw [(mv 80 (by decide) (by decide)).2.1 i (by omega) (by omega)]; exact v2
      have k82 : rI N 82 i = nI u := by rw [(mv 82 (by decide) (by decide)).2.1 i (by omega) (by omega)]; exact u2
      have k81 : rI N 81 i = rI M 81 i := (mv 81 (by decide) (by decide)).2.1 i (by omega) (by omega)
      have e1 : Ey PNm N (wI N 80 (i + 1) (nI v)) := ey_wI Ey.rf (Or.inr (by decide))
      have e2 : Ey PNm N (wI (wI N 80 (i + 1) (nI v)) 81 (i + 1) (rI M 81 i)) := ey_wI e1 (Or.inr (by decide))
      have e3 : Ey PNm N (wI (wI (wI N 80 (i + 1) (nI v)) 81 (i + 1) (rI M 81 i)) 82 (i + 1) (nI u)) := ey_wI e2 (Or.inr (by decide))
      have h1 := Sh_ey e1 hS
      have h2 := Sh_ey e2 hS
      have h3 := Sh_ey e3 hS
      have hm1 : nI (i + 1) + (-1 : Int32) = nI i := by
        rw [show (-1 : Int32) = - (nI 1) by decide, ← Int32.sub_eq_add_neg, nI_sb (by omega)]
        rfl
      rw [if_neg (nI_ge (by omega) (by omega)), q65_24 hS, Option.bind_some, Option.bind_some, nI_sb (by omega), Nat.add_sub_cancel, ldB_n (t80 hS) (by omega) (by decide), Option.bind_some, k80, stB_n (t80 hS) (by omega) (by decide), Option.bind_some, fit7 v v1, q65_25 h1, Option.bind_some, Option.bind_some, ldI_n (t81 h1) (by omega) (by decide), Option.bind_some, rI_wI, if_neg (by omega), k81, stI_n (t81 h1) (by omega) (by decide), Option.bind_some, q65_26 h2, Option.bind_some, Option.bind_some, ldB_n (t82 h2) (by omega) (by decide), Option.bind_some, rI_wI, if_neg (by omega), rI_wI, if_neg (by omega), k82, stB_n (t82 h2) (by omega) (by decide), Option.bind_some, fit7 u u1, hm1]
      obtain ⟨O, o1, o2, o3⟩ := ih F (wI (wI (wI N 80 (i + 1) (nI v)) 81 (i + 1) (rI M 81 i)) 82 (i + 1) (nI u)) (by omega) (by omega) h3 (by rw [rI_wI, if_neg (by omega), rI_wI, if_neg (by omega), rI_wI, if_neg (by omega)]; exact hN) (fun d d1 d2 => ⟨fun j hj => by
          rw [rI_wI, if_neg (by omega), rI_wI, if_neg (by omega), rI_wI, if_neg (by omega)]; exact (mv d d1 d2).1 j hj, fun j j1 j2 => by
          rw [rI_wI, if_neg (by omega), rI_wI, if_neg (by omega), rI_wI, if_neg (by omega)]; exact (mv d d1 d2).2.1 j j1 (by omega), fun j j1 j2 => by
          by_cases hj : j = i
          · rw [hj]
            by_cases h80 : d = 80
            · rw [h80, rI_wI, if_neg (by omega), rI_wI, if_neg (by omega), rI_wI, if_pos ⟨rfl, rfl⟩, v2]
            · by_cases h81 : d = 81
              · rw [h81, rI_wI, if_neg (by omega), rI_wI, if_pos ⟨rfl, rfl⟩]
              · have h82 : d = 82 := by omega
                rw [h82, rI_wI, if_pos ⟨rfl, rfl⟩, u2]
          · rw [rI_wI, if_neg (by omega), rI_wI, if_neg (by omega), rI_wI, if_neg (by omega)]; exact (mv d d1 d2).2.2 j (by omega) j2⟩) (by omega)
      exact ⟨O, o1, e3.tr o2, o3⟩
theorem m_ins (h : Sh M) (hc : rI M 65 23 = nI c) (h9 : c < 1000) (ha : a ≤ c) {k : Nat} (hk : k < 128) (h0 : ∀ i, a ≤ i → i < c → (∃ v, v < 128 ∧ rI M 80 i = nI v) ∧ ∃ u, u < 128 ∧ rI M 82 i = nI u) : ∃ O, f_X12_insert 65 (nI a) (nI k) M = some ((), O) ∧ Ey PNm M O ∧ rI O 65 23 = nI (c + 1) ∧ rI O 80 a = nI k ∧ rI O 81 a = nI 0 ∧ rI O 82 a = nI 0 ∧ ∀ d, 80 ≤ d → d ≤ 82 → (∀ j, j < a → rI O d j = rI M d j) ∧ ∀ j, a ≤ j → j < c → rI O d (j + 1) = rI M d j := by
  obtain ⟨n0, hn0⟩ := jF_is
  unfold f_X12_insert
  rw [gI_n (t65 h), Option.bind_some, hc]
  exact ins_l h9 hk h0 c jF0 M ha (Nat.le_refl _) h hc (fun d _ _ => ⟨fun _ _ => rfl, fun _ _ _ => rfl, fun j j1 j2 => by omega⟩) (by omega)
/-- the tape -/
def P36 (c k : Nat) : Prop := c = 65 ∧ k = 36
def hv (t : Tp) (p : Nat) : Int32 := if p < t.1 then t.2 p else -1
theorem hv_eq (ht : VT t) {k : Nat} (hk : k < 128) : hv t p = nI k ↔ tb t p = k := by
  unfold hv tb
  by_cases h : p < t.1
  · rw [if_pos h, if_pos h]
    exact ub_eq (ht.2 p h) hk
  · rw [if_neg h, if_neg h]
    refine ⟨fun z => absurd (show (-1 : Int32) < 0 by decide) (by rw [z]; exact nI_pos (by omega)), fun z => by omega⟩
theorem m_here (h : Sh M) (ht : VT t) (x : MT t M) (hp : rI M 65 36 = nI p) (hpt : p ≤ t.1) : f_X12_here 65 M = some (hv t p, M) := by
  have h8 := ht.1
  unfold f_X12_here hv
  rw [gI_n (t65 h), Option.bind_some, hp, gI_n (t65 h), Option.bind_some, x.1]
  by_cases hc : p < t.1
  · rw [if_neg (nI_ge hc (by omega)), q65_27 h, Option.bind_some, Option.bind_some, ldB_n (t83 h) (by omega) (by decide), Option.bind_some, if_pos hc, x.2 p hc]
    rfl
  · rw [if_pos (nI_le (by omega) (by omega)), if_neg hc]
    rfl
theorem MT_ey {P : Nat → Nat → Prop} {M N : jM} (e : Ey P M N) (h1 : ¬ P 65 28) (h2 : ∀ k, ¬ P 83 k) (x : MT t M) : MT t N := ⟨by rw [ey_rI e h1]; exact x.1, fun k hk => by rw [ey_rI e (h2 k)]; exact x.2 k hk⟩
theorem skip_l (ht : VT t) : ∀ (F p : Nat) (M : jM), Sh M → MT t M → rI M 65 36 = nI p → p ≤ t.1 → t.1 - p < F → ∃ N, l_X12_skip_0 F 65 M = some ((), N) ∧ Ey P36 M N ∧ rI N 65 36 = nI (sk t p) := by
  have h8 := ht.1
  intro F
  induction F with
  | zero => intro p M _ _ _ _ z; omega
  | succ F ih =>
    intro p M h x hp hpt hF
    show ∃ N, b_X12_skip_0 (l_X12_skip_0 F) 65 M = _ ∧ _
    unfold b_X12_skip_0 j_X12_skip_39
    rw [gI_n (t65 h), Option.bind_some, hp, gI_n (t65 h), Option.bind_some, x.1]
    by_cases hc : t.1 ≤ p
    · have hb : tb t p = 256 := by unfold tb; rw [if_neg (by omega)]
      rw [if_pos (nI_le hc (by omega)), sk_no (by omega)]
      exact ⟨M, rfl, Ey.rf, hp⟩
    · have hx : ∃ y : Int8, rI M 83 p = y.toInt32 := by rw [x.2 p (by omega)]; exact ht.2 p (by omega)
      have hb : tb t p = ub (rI M 83 p) := by unfold tb; rw [if_pos (by omega), x.2 p (by omega)]
      have e1 : Ey P36 M (wI M 65 36 (nI (p + 1))) := ey_wI Ey.rf ⟨rfl, rfl⟩
      rw [if_neg (nI_ge (by omega) (by omega)), q65_27 h, Option.bind_some, Option.bind_some, ldB_n (t83 h) (by omega) (by decide)]
      simp only [Option.bind_some]
      rw [ldB_n (t83 h) (by omega) (by decide), Option.bind_some, nI_add, pI_n (t65 h), Option.bind_some]
      have on : (tb t p = 32 ∨ tb t p = 10) → ∃ N, l_X12_skip_0 F 65 (wI M 65 36 (nI (p + 1))) = some ((), N) ∧ Ey P36 M N ∧ rI N 65 36 = nI (sk t p) := by
        intro hbl
        obtain ⟨N, p1, p2, p3⟩ := ih (p + 1) _ (Sh_ey e1 h) (MT_ey e1 (by unfold P36; omega) (fun k => by unfold P36; omega) x) (by rw [rI_wI, if_pos ⟨rfl, rfl⟩]) (by omega) (by omega)
        rw [sk_blank hbl]
        exact ⟨N, p1, e1.tr p2, p3⟩
      by_cases h32 : tb t p = 32
      · rw [if_pos ((ub_eq hx (by decide)).mpr (by omega))]
        exact on (Or.inl h32)
      · rw [if_neg (fun z => h32 (by rw [hb]; exact (ub_eq hx (by decide)).mp z))]
        by_cases h10 : tb t p = 10
        · rw [if_pos ((ub_eq hx (by decide)).mpr (by omega))]
          exact on (Or.inr h10)
        · rw [if_neg (fun z => h10 (by rw [hb]; exact (ub_eq hx (by decide)).mp z)), sk_no (by omega)]
          exact ⟨M, rfl, Ey.rf, hp⟩
theorem m_skip (ht : VT t) (h : Sh M) (x : MT t M) (hp : rI M 65 36 = nI p) (hpt : p ≤ t.1) : ∃ N, f_X12_skip 65 M = some ((), N) ∧ Ey P36 M N ∧ rI N 65 36 = nI (sk t p) := by
  have h8 := ht.1
  obtain ⟨n0, hn0⟩ := jF_is
  exact skip_l ht jF0 p M h x hp hpt (by omega)
end MX
