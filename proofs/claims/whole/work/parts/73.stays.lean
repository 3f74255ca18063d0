/-! COLOURS: the reference's later likeness is the class's. -/
section M4
variable {ws : Nat → Wd} {x y : Nat} {M : jM} {g : Nat → Nat}
theorem m_stays0 (hf : WF ws) (hx : x < 6) (hy : y < 6) (h : Sh M) (a : MA ws M) (l : LT false (ws x) (ws y) (itN false (ws x) (ws y)) M) {K : Nat} (hK : K ≤ 12) (hgK : ∀ e, e < itN false (ws x) (ws y) → g e < K) (hg : ∀ e, e < itN false (ws x) (ws y) → rI M 95 e = nI (g e)) (hk : rI M 65 51 = nI K) {e q : Nat} (he : e < itN false (ws x) (ws y)) (hq : q < itN false (ws x) (ws y)) :
    f_X12_staysWith 65 (nI x) (nI y) (nI 0) (nI e) (nI q) M = some (bI (stM false (ws x) (ws y) g e q), M) := by
  have hN := itN_le (b := false) (hf x) (hf y)
  have k1 := hgK e he
  have k2 := hgK q hq
  obtain ⟨n0, hn0⟩ := jF_is
  have main := fun p => stay0_27 hf hx hy h a l (fun e he => by have := hgK e he; omega) hg (show K ≤ 72 by omega) hk he hq jF0 0 p (Nat.zero_le _) (by omega)
  unfold f_X12_staysWith j_X12_staysWith_22
  rw [q65_55 h, Option.bind_some, ldI_n (t95 h) (by omega) (by decide), Option.bind_some, hg e he, Option.bind_some, ldI_n (t95 h) (by omega) (by decide), Option.bind_some, hg q hq, stM0 (hf x) (hf y) hK hgK he hq]
  by_cases hc : g e = g q
  · have := main true
    rw [allB_0] at this
    rw [if_pos (by rw [hc]), decide_eq_true hc]
    exact this
  · have := main false
    rw [allB_0] at this
    rw [if_neg (fun k => hc ((nI_eq (by omega) (by omega)).mp k)), decide_eq_false hc]
    exact this
theorem m_stays1 (hf : WF ws) (h : Sh M) (hg7 : ∀ e, e < itN true (ws x) (ws y) → g e < 72) (hg : ∀ e, e < itN true (ws x) (ws y) → rI M 95 e = nI (g e)) {e q : Nat} (he : e < itN true (ws x) (ws y)) (hq : q < itN true (ws x) (ws y)) (ge : Ga (ws x) (ws y) g e (itN true (ws x) (ws y)) M) (gq : Ga (ws x) (ws y) g q (itN true (ws x) (ws y)) M) :
    f_X12_staysWith 65 (nI x) (nI y) (nI 1) (nI e) (nI q) M = some (bI (stM true (ws x) (ws y) g e q), M) := by
  have hN := itN_le (b := true) (hf x) (hf y)
  have k1 := hg7 e he
  have k2 := hg7 q hq
  obtain ⟨n0, hn0⟩ := jF_is
  obtain ⟨a1, a2, a3, a4⟩ := ge
  obtain ⟨b1, b2, b3, b4⟩ := gq
  have s := stM1 hg7 he hq
  rw [← setsAB hg7, ← setsCD hg7, ← a1, ← a2, ← a3, ← a4, ← b1, ← b2, ← b3, ← b4] at s
  have F : stM true (ws x) (ws y) g e q = false ↔ ¬ (g e = g q ∧ (rL M 100 e = rL M 100 q ∧ rL M 101 e = rL M 101 q) ∧ rL M 102 e = rL M 102 q ∧ rL M 103 e = rL M 103 q) := by rw [← s]; simp
  have to107 : ∀ p : Bool, l_X12_staysWith_27 jF0 65 (nI x) (nI y) (nI 1) (nI e) (nI q) (bI p) (nI 0) M = j_X12_staysWith_107 65 (nI 1) (nI e) (nI q) (bI p) M := by
    intro p
    rw [hn0]
    show b_X12_staysWith_27 (l_X12_staysWith_27 (n0 + 899999)) 65 (nI x) (nI y) (nI 1) (nI e) (nI q) (bI p) (nI 0) M = _
    unfold b_X12_staysWith_27
    rw [gI_n (t65 h), Option.bind_some, if_neg (show ¬ nI 1 = 0 by decide)]
    split
    · rfl
    · split <;> rfl
  unfold f_X12_staysWith j_X12_staysWith_22
  rw [q65_55 h, Option.bind_some, ldI_n (t95 h) (by omega) (by decide), Option.bind_some, hg e he, Option.bind_some, ldI_n (t95 h) (by omega) (by decide), Option.bind_some, hg q hq]
  by_cases hc : g e = g q
  · rw [if_pos (by rw [hc])]
    refine (to107 true).trans ?_
    unfold j_X12_staysWith_107 j_X12_staysWith_188
    rw [if_neg (show ¬ bI true = 0 by decide), if_neg (show ¬ nI 1 = 0 by decide), q65_60 h, Option.bind_some, ldJ_n (t100 h) (by omega) (by decide), Option.bind_some, Option.bind_some, ldJ_n (t100 h) (by omega) (by decide), Option.bind_some]
    by_cases c1 : rL M 100 e = rL M 100 q
    · rw [if_pos ((lg_cmp_eq _ _).mpr c1), q65_61 h, Option.bind_some, ldJ_n (t101 h) (by omega) (by decide), Option.bind_some, Option.bind_some, ldJ_n (t101 h) (by omega) (by decide), Option.bind_some]
      by_cases c2 : rL M 101 e = rL M 101 q
      · rw [if_pos ((lg_cmp_eq _ _).mpr c2), q65_62 h, Option.bind_some, ldJ_n (t102 h) (by omega) (by decide), Option.bind_some, Option.bind_some, ldJ_n (t102 h) (by omega) (by decide), Option.bind_some]
        by_cases c3 : rL M 102 e = rL M 102 q
        · rw [if_pos ((lg_cmp_eq _ _).mpr c3), q65_63 h, Option.bind_some, ldJ_n (t103 h) (by omega) (by decide), Option.bind_some, Option.bind_some, ldJ_n (t103 h) (by omega) (by decide), Option.bind_some]
          by_cases c4 : rL M 103 e = rL M 103 q
          · rw [if_pos ((lg_cmp_eq _ _).mpr c4), s.mpr ⟨hc, ⟨c1, c2⟩, c3, c4⟩]; exact rZ_n (p := true)
          · rw [if_neg (fun k => c4 ((lg_cmp_eq _ _).mp k)), F.mpr (fun k => c4 k.2.2.2)]; exact rZ_n (p := false)
        · rw [if_neg (fun k => c3 ((lg_cmp_eq _ _).mp k)), F.mpr (fun k => c3 k.2.2.1)]; exact rZ_n (p := false)
      · rw [if_neg (fun k => c2 ((lg_cmp_eq _ _).mp k)), F.mpr (fun k => c2 k.2.1.2)]; exact rZ_n (p := false)
    · rw [if_neg (fun k => c1 ((lg_cmp_eq _ _).mp k)), F.mpr (fun k => c1 k.2.1.1)]; exact rZ_n (p := false)
  · rw [if_neg (fun k => hc ((nI_eq (by omega) (by omega)).mp k)), F.mpr (fun k => hc k.1)]
    refine (to107 false).trans ?_
    unfold j_X12_staysWith_107
    rw [if_pos (show bI false = 0 from rfl)]
    exact rZ_n (p := false)
end M4
