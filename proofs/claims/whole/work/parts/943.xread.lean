/-! READING: the class's Tape and Nodes, their small steps. -/
def pbI (t : Tp) (p : Nat) : Int32 := if pb t p = 256 then -1 else nI (pb t p)
def P2 (c k : Nat) : Prop := c = 29 ∧ k = 2
def P3 (c k : Nat) : Prop := c = 29 ∧ k = 3
theorem XT_ey {P : Nat → Nat → Prop} {t : Tp} {M N : jM} (e : Ey P M N) (h1 : ¬ P 29 1) (h2 : ∀ k, ¬ P 30 k) (x : XT t M) : XT t N := ⟨by rw [ey_rI e h1]; exact x.1, fun k hk => by rw [ey_rI e (h2 k)]; exact x.2 k hk⟩
theorem pb_256 {t : Tp} (ht : VT t) (p : Nat) : pb t p ≤ 256 := by
  unfold pb tb
  split
  · rename_i h
    have := (ub_is (ht.2 _ h)).1
    omega
  · omega
section XR
variable {M : jM} {t : Tp} {p : Nat}
theorem peek_l (ht : VT t) : ∀ (F p : Nat) (M : jM), Sh M → XT t M → rI M 29 2 = nI p → p ≤ t.1 → t.1 - p < F → ∃ N, l_X8_peek_0 F 29 M = some (pbI t p, N) ∧ Ey P2 M N ∧ rI N 29 2 = nI (sk t p) := by
  have h8 := ht.1
  intro F
  induction F with
  | zero => intro p M _ _ _ _ z; omega
  | succ F ih =>
    intro p M h x hp hpt hF
    show ∃ N, b_X8_peek_0 (l_X8_peek_0 F) 29 M = _ ∧ _
    unfold b_X8_peek_0 j_X8_peek_58
    rw [gI_n (t29 h), Option.bind_some, hp, if_neg (nI_pos (by omega)), Option.bind_some, gI_n (t29 h), Option.bind_some, x.1]
    by_cases hc : t.1 ≤ p
    · have hb : tb t p = 256 := by unfold tb; rw [if_neg (by omega)]
      have hs : sk t p = p := sk_no (by omega)
      have : pbI t p = -1 := by unfold pbI pb; rw [hs, if_pos hb]
      rw [if_pos (nI_le hc (by omega)), this, hs]
      exact ⟨M, rfl, Ey.rf, hp⟩
    · have hx : ∃ y : Int8, rI M 30 p = y.toInt32 := by rw [x.2 p (by omega)]; exact ht.2 p (by omega)
      obtain ⟨u1, u2, -, -⟩ := ub_is hx
      have hb : tb t p = ub (rI M 30 p) := by unfold tb; rw [if_pos (by omega), x.2 p (by omega)]
      rw [if_neg (nI_ge (by omega) (by omega)), Option.bind_some, q29_0 h, Option.bind_some, ln_n (t30 h) (by decide) (by decide), Option.bind_some, if_neg (nI_ge (by omega) (by decide)), Option.bind_some, Option.bind_some, ldB_n (t30 h) (by omega) (by decide), Option.bind_some, u2, jv_b]
      have on : (tb t p = 32 ∨ tb t p = 10) → ∃ N, ((gI 7 M 29 2).bind fun x1 => (pI 7 M 29 2 (x1 + nI 1)).bind fun M2 => l_X8_peek_0 F 29 M2) = some (pbI t p, N) ∧ Ey P2 M N ∧ rI N 29 2 = nI (sk t p) := by
        intro hbl
        rw [gI_n (t29 h), Option.bind_some, hp, nI_add, pI_n (t29 h), Option.bind_some]
        have e1 : Ey P2 M (wI M 29 2 (nI (p + 1))) := ey_wI Ey.rf ⟨rfl, rfl⟩
        obtain ⟨N, p1, p2, p3⟩ := ih (p + 1) _ (Sh_ey e1 h) (XT_ey e1 (by unfold P2; omega) (fun k => by unfold P2; omega) x) (by rw [rI_wI, if_pos ⟨rfl, rfl⟩]) (by omega) (by omega)
        have hs := sk_blank hbl
        have : pbI t p = pbI t (p + 1) := by unfold pbI pb; rw [hs]
        rw [this, hs]
        exact ⟨N, p1, e1.tr p2, p3⟩
      by_cases h32 : tb t p = 32
      · rw [if_pos (by rw [← hb, h32])]
        have z := on (Or.inl h32)
        rw [gI_n (t29 h), hp] at z
        exact z
      · rw [if_neg (fun z => h32 (by rw [hb]; exact (nI_eq (by omega) (by decide)).mp z))]
        by_cases h10 : tb t p = 10
        · rw [if_pos (by rw [← hb, h10])]
          have z := on (Or.inr h10)
          rw [gI_n (t29 h), hp] at z
          exact z
        · have hs : sk t p = p := sk_no (by omega)
          have : pbI t p = nI (ub (rI M 30 p)) := by unfold pbI pb; rw [hs, hb, if_neg (by omega)]
          rw [if_neg (fun z => h10 (by rw [hb]; exact (nI_eq (by omega) (by decide)).mp z)), this, hs]
          exact ⟨M, rfl, Ey.rf, hp⟩
theorem x_peek (ht : VT t) (h : Sh M) (x : XT t M) (hp : rI M 29 2 = nI p) (hpt : p ≤ t.1) : ∃ N, f_X8_peek 29 M = some (pbI t p, N) ∧ Ey P2 M N ∧ rI N 29 2 = nI (sk t p) := by
  have h8 := ht.1
  obtain ⟨n0, hn0⟩ := jF_is
  exact peek_l ht jF0 p M h x hp hpt (by omega)
theorem pbI_eq (ht : VT t) {c : Nat} (hc : c < 256) : pbI t p = nI c ↔ pb t p = c := by
  have hb := pb_256 ht p
  unfold pbI
  by_cases h : pb t p = 256
  · rw [if_pos h]
    constructor
    · intro e
      exact absurd (show (-1 : Int32) < 0 by decide) (by rw [e]; exact nI_pos (by omega))
    · intro e; omega
  · rw [if_neg h]
    exact nI_eq (by omega) (by omega)
theorem pbI_m1 (ht : VT t) : pbI t p = -1 ↔ pb t p = 256 := by
  have hb := pb_256 ht p
  unfold pbI
  by_cases h : pb t p = 256
  · rw [if_pos h]; exact ⟨fun _ => h, fun _ => rfl⟩
  · rw [if_neg h]
    refine ⟨fun e => ?_, fun e => absurd e h⟩
    exact absurd (show (-1 : Int32) < 0 by decide) (by rw [← e]; exact nI_pos (by omega))
/-- where the text is wrong: none, or a place -/
def wI3 (w : Option Nat) : Int32 := match w with
  | none => -1
  | some x => nI x
theorem x_fail (h : Sh M) {w : Option Nat} (hw : rI M 29 3 = wI3 w) (hw8 : ∀ x, w = some x → x < 2 ^ 31) (hp : rI M 29 2 = nI p) : ∃ N, f_X8_fail 29 M = some ((), N) ∧ Ey P3 M N ∧ rI N 29 3 = wI3 (some (w.getD p)) := by
  unfold f_X8_fail
  rw [gI_n (t29 h), Option.bind_some, hw]
  cases w with
  | none =>
    rw [if_neg (show ¬ (0 : Int32) ≤ wI3 none by decide), gI_n (t29 h), Option.bind_some, hp, pI_n (t29 h), Option.bind_some]
    exact ⟨_, rfl, ey_wI Ey.rf ⟨rfl, rfl⟩, by rw [rI_wI, if_pos ⟨rfl, rfl⟩]; rfl⟩
  | some x =>
    rw [if_pos (show (0 : Int32) ≤ wI3 (some x) from nI_pos' (hw8 x rfl))]
    exact ⟨M, rfl, Ey.rf, hw⟩
end XR
/-- codes of nodes -/
theorem enc_n : ∀ k, k < 128 → ∀ a, a < 16 → ∀ M : jM, f_X4_encode (nI k) (nI a) (nI 0) M = some (nI (k + 256 * a + 65536), M) := by
  intro k hk a ha M
  unfold f_X4_encode
  have e1 : nI a <<< (nI 8 &&& 31) = nI (a <<< 8) := nI_shl (by decide) (by omega)
  have e2 : nI 0 <<< (nI 12 &&& 31) = nI 0 := by decide
  rw [e1, e2, nI_or, nI_or, nI_or]
  have : ∀ k, k < 128 → ∀ a, a < 16 → ((k ||| a <<< 8) ||| 0) ||| 65536 = k + 256 * a + 65536 := by decide +kernel
  rw [this k hk a ha]
  rfl
theorem enc_2 : ∀ k, k < 128 → ∀ a, a < 16 → ∀ b, b < 16 → ∀ M : jM, f_X4_encode (nI k) (nI a) (nI b) M = some (nI (k + 256 * a + 4096 * b + 65536), M) := by
  intro k hk a ha b hb M
  unfold f_X4_encode
  have e1 : nI a <<< (nI 8 &&& 31) = nI (a <<< 8) := nI_shl (by decide) (by omega)
  have e2 : nI b <<< (nI 12 &&& 31) = nI (b <<< 12) := nI_shl (by decide) (by omega)
  rw [e1, e2, nI_or, nI_or, nI_or]
  have : ∀ k, k < 128 → ∀ a, a < 16 → ∀ b, b < 16 → ((k ||| a <<< 8) ||| b <<< 12) ||| 65536 = k + 256 * a + 4096 * b + 65536 := by decide +kernel
  rw [this k hk a ha b hb]
  rfl
