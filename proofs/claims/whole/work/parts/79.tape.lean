/-! THE TAPE: feed and trim, on both sides. -/
theorem jmn_n {a b : Nat} (ha : a < 2 ^ 31) (hb : b < 2 ^ 31) : jmn (nI a) (nI b) = nI (min a b) := by
  unfold jmn
  by_cases h : b < a
  · rw [if_pos (nI_lt h ha), Nat.min_eq_right (by omega)]
  · rw [if_neg (nI_nlt (by omega) hb), Nat.min_eq_left (by omega)]
/-- what a byte of a number is as an int -/
def bt (v : Int32) (s : Nat) : Int32 := (Int8.toInt32 (Int32.toInt8 (v >>> (nI s &&& 31)))).toInt8.toInt32
abbrev Tp : Type := Nat × (Nat → Int32)
/-- a tape with a number more -/
def pt (t : Tp) (v : Int32) : Tp := (t.1 + 4, fun k => if k < t.1 then t.2 k else bt v (24 - 8 * (k - t.1)))
def sp_feed (t : Tp) (a b c d e : Int32) : Int32 × Tp := if t.1 + 20 ≤ 800 then (nI (t.1 + 20), pt (pt (pt (pt (pt t a) b) c) d) e) else (-4, t)
def sp_trim (t : Tp) (x : Int32) : Int32 × Tp := match ixo x (t.1 + 1) with
  | none => (-2, t)
  | some n => (nI n, (n, t.2))
def VT (t : Tp) : Prop := t.1 ≤ 800 ∧ ∀ k, k < t.1 → ∃ y : Int8, t.2 k = y.toInt32
def XT (t : Tp) (M : jM) : Prop := rI M 29 1 = nI t.1 ∧ ∀ k, k < t.1 → rI M 30 k = t.2 k
def MT (t : Tp) (M : jM) : Prop := rI M 65 28 = nI t.1 ∧ ∀ k, k < t.1 → rI M 83 k = t.2 k
def CT (c : Nat) : Prop := c = 29 ∨ c = 30
def PM (c k : Nat) : Prop := c = 83 ∨ (c = 65 ∧ k = 28)
theorem pt_vt {t : Tp} {v : Int32} (h : VT t) (h4 : t.1 + 4 ≤ 800) : VT (pt t v) := by
  refine ⟨h4, fun k hk => ?_⟩
  show ∃ y : Int8, (if k < t.1 then t.2 k else bt v (24 - 8 * (k - t.1))) = y.toInt32
  by_cases hc : k < t.1
  · rw [if_pos hc]; exact h.2 k hc
  · rw [if_neg hc]; exact ⟨_, rfl⟩
theorem sp_feed_vt {t : Tp} (h : VT t) (a b c d e : Int32) : VT (sp_feed t a b c d e).2 := by
  unfold sp_feed
  by_cases hc : t.1 + 20 ≤ 800
  · rw [if_pos hc]
    refine pt_vt (pt_vt (pt_vt (pt_vt (pt_vt h ?_) ?_) ?_) ?_) ?_ <;> (first | omega | (simp only [pt]; omega))
  · rw [if_neg hc]; exact h
theorem sp_trim_vt {t : Tp} (h : VT t) (x : Int32) : VT (sp_trim t x).2 := by
  have h1 := h.1
  unfold sp_trim
  cases hx : ixo x (t.1 + 1) with
  | none => exact h
  | some n =>
    obtain ⟨hn, -⟩ := (ixo_some (by omega)).mp hx
    exact ⟨by show n ≤ 800; omega, fun k hk => h.2 k (by have : k < n := hk; omega)⟩
section TP
variable {M : jM} {t : Tp}
theorem put_1 (h : Sh M) {L s : Nat} (hl : rI M 29 1 = nI L) (hL : L < 800) (hs : s < 2 ^ 31) {v : Int32} {k : Nat → Int32 → Int32 → jM → jO Unit} : b_X8_putNumber_3 k 29 v (nI s) M = k 29 v (nI s + (-8 : Int32)) (wI (wI M 30 L (bt v s)) 29 1 (nI (L + 1))) := by
  unfold b_X8_putNumber_3
  have e1 : Ex CT M (wI M 30 L (bt v s)) := ex_wI Ex.rf (Or.inr rfl)
  rw [if_neg (nI_pos hs), gI_n (t29 h), Option.bind_some, hl, if_neg (nI_pos (by omega)), Option.bind_some, q29_0 h, Option.bind_some, ln_n (t30 h) (by decide) (by decide), Option.bind_some, if_neg (nI_ge hL (by decide)), Option.bind_some, Option.bind_some, stB_n (t30 h) hL (by decide), Option.bind_some, show (Int8.toInt32 (Int32.toInt8 (v >>> (nI s &&& 31)))).toInt8.toInt32 = bt v s from rfl]
  rw [gI_n (t29 (Sh_ex e1 h)), Option.bind_some, rI_wI, if_neg (by omega), hl, nI_add, pI_n (t29 (Sh_ex e1 h)), Option.bind_some]
theorem x_pn (h : Sh M) (x : XT t M) (h4 : t.1 + 4 ≤ 800) (v : Int32) : ∃ N, f_X8_putNumber 29 v M = some ((), N) ∧ XT (pt t v) N ∧ Ex CT M N := by
  obtain ⟨n0, hn0⟩ := jF_is
  unfold f_X8_putNumber
  rw [hn0]
  have ex1 : ∀ N L b, Ex CT M N → Ex CT M (wI (wI N 30 L b) 29 1 (nI (L + 1))) := fun N L b e => ex_wI (ex_wI e (Or.inr rfl)) (Or.inl rfl)
  have l1 : ∀ N L b, rI (wI (wI N 30 L b) 29 1 (nI (L + 1))) 29 1 = nI (L + 1) := fun N L b => by rw [rI_wI, if_pos ⟨rfl, rfl⟩]
  show ∃ N, b_X8_putNumber_3 (l_X8_putNumber_3 (n0 + 899999)) 29 v (nI 24) M = some ((), N) ∧ _
  rw [put_1 h x.1 (by omega) (by decide), show nI 24 + (-8 : Int32) = nI 16 by decide]
  have e1 := ex1 M t.1 (bt v 24) Ex.rf
  have q1 := l1 M t.1 (bt v 24)
  generalize hM1 : wI (wI M 30 t.1 (bt v 24)) 29 1 (nI (t.1 + 1)) = M1 at *
  show ∃ N, b_X8_putNumber_3 (l_X8_putNumber_3 (n0 + 899998)) 29 v (nI 16) M1 = some ((), N) ∧ _
  rw [put_1 (Sh_ex e1 h) q1 (by omega) (by decide), show nI 16 + (-8 : Int32) = nI 8 by decide]
  have e2 := ex1 M1 (t.1 + 1) (bt v 16) e1
  have q2 := l1 M1 (t.1 + 1) (bt v 16)
  generalize hM2 : wI (wI M1 30 (t.1 + 1) (bt v 16)) 29 1 (nI (t.1 + 1 + 1)) = M2 at *
  show ∃ N, b_X8_putNumber_3 (l_X8_putNumber_3 (n0 + 899997)) 29 v (nI 8) M2 = some ((), N) ∧ _
  rw [put_1 (Sh_ex e2 h) q2 (by omega) (by decide), show nI 8 + (-8 : Int32) = nI 0 by decide]
  have e3 := ex1 M2 (t.1 + 1 + 1) (bt v 8) e2
  have q3 := l1 M2 (t.1 + 1 + 1) (bt v 8)
  generalize hM3 : wI (wI M2 30 (t.1 + 1 + 1) (bt v 8)) 29 1 (nI (t.1 + 1 + 1 + 1)) = M3 at *
  show ∃ N, b_X8_putNumber_3 (l_X8_putNumber_3 (n0 + 899996)) 29 v (nI 0) M3 = some ((), N) ∧ _
  rw [put_1 (Sh_ex e3 h) q3 (by omega) (by decide)]
  have e4 := ex1 M3 (t.1 + 1 + 1 + 1) (bt v 0) e3
  have q4 := l1 M3 (t.1 + 1 + 1 + 1) (bt v 0)
  generalize hM4 : wI (wI M3 30 (t.1 + 1 + 1 + 1) (bt v 0)) 29 1 (nI (t.1 + 1 + 1 + 1 + 1)) = M4 at *
  show ∃ N, b_X8_putNumber_3 (l_X8_putNumber_3 (n0 + 899995)) 29 v (nI 0 + (-8 : Int32)) M4 = some ((), N) ∧ _
  unfold b_X8_putNumber_3
  rw [if_pos (by decide)]
  refine ⟨M4, rfl, ⟨q4, fun k hk => ?_⟩, e4⟩
  have hk' : k < t.1 + 4 := hk
  show rI M4 30 k = if k < t.1 then t.2 k else bt v (24 - 8 * (k - t.1))
  rw [← hM4, rI_wI, if_neg (by omega), rI_wI, ← hM3, rI_wI, if_neg (c := 30 = 29 ∧ k = 1) (by omega), rI_wI, ← hM2, rI_wI, if_neg (c := 30 = 29 ∧ k = 1) (by omega), rI_wI, ← hM1, rI_wI, if_neg (c := 30 = 29 ∧ k = 1) (by omega), rI_wI]
  by_cases c0 : k < t.1
  · rw [if_pos c0, if_neg (by omega), if_neg (by omega), if_neg (by omega), if_neg (by omega)]; exact x.2 k c0
  · rw [if_neg c0]
    rcases (show k = t.1 ∨ k = t.1 + 1 ∨ k = t.1 + 1 + 1 ∨ k = t.1 + 1 + 1 + 1 by omega) with c | c | c | c
    · rw [if_neg (by omega), if_neg (by omega), if_neg (by omega), if_pos ⟨rfl, c⟩, show k - t.1 = 0 by omega]
    · rw [if_neg (by omega), if_neg (by omega), if_pos ⟨rfl, c⟩, show k - t.1 = 1 by omega]
    · rw [if_neg (by omega), if_pos ⟨rfl, c⟩, show k - t.1 = 2 by omega]
    · rw [if_pos ⟨rfl, c⟩, show k - t.1 = 3 by omega]
theorem x_feed (h : Sh M) (ht : VT t) (x : XT t M) (a b c d e : Int32) : ∃ N, f_X11_feed 1 a b c d e M = some ((sp_feed t a b c d e).1, N) ∧ XT (sp_feed t a b c d e).2 N ∧ Ex CT M N := by
  have h8 := ht.1
  unfold f_X11_feed sp_feed f_X8_length
  rw [q1_4 h, Option.bind_some, jiv_n (t29 h), gI_n (t29 h), Option.bind_some, x.1]
  show ∃ N, (if nI t.1 + nI 20 ≤ nI 800 then _ else _) = _ ∧ _
  rw [nI_add]
  by_cases hc : t.1 + 20 ≤ 800
  · rw [if_pos (nI_le hc (by decide)), if_pos hc, q1_4 h, Option.bind_some, jiv_n (t29 h)]
    obtain ⟨M1, p1, x1, e1⟩ := x_pn h x (by omega) a
    have h1 := Sh_ex e1 h
    have s1 : (pt t a).1 = t.1 + 4 := rfl
    rw [p1, jb2_some, q1_4 h1, Option.bind_some, jiv_n (t29 h1)]
    obtain ⟨M2, p2, x2, e2⟩ := x_pn h1 x1 (by omega) b
    have h2 := Sh_ex e2 h1
    have s2 : (pt (pt t a) b).1 = t.1 + 4 + 4 := rfl
    rw [p2, jb2_some, q1_4 h2, Option.bind_some, jiv_n (t29 h2)]
    obtain ⟨M3, p3, x3, e3⟩ := x_pn h2 x2 (by omega) c
    have h3 := Sh_ex e3 h2
    have s3 : (pt (pt (pt t a) b) c).1 = t.1 + 4 + 4 + 4 := rfl
    rw [p3, jb2_some, q1_4 h3, Option.bind_some, jiv_n (t29 h3)]
    obtain ⟨M4, p4, x4, e4⟩ := x_pn h3 x3 (by omega) d
    have h4 := Sh_ex e4 h3
    have s4 : (pt (pt (pt (pt t a) b) c) d).1 = t.1 + 4 + 4 + 4 + 4 := rfl
    rw [p4, jb2_some, q1_4 h4, Option.bind_some, jiv_n (t29 h4)]
    obtain ⟨M5, p5, x5, e5⟩ := x_pn h4 x4 (by omega) e
    have h5 := Sh_ex e5 h4
    rw [p5, jb2_some, q1_4 h5, Option.bind_some, jiv_n (t29 h5), gI_n (t29 h5), Option.bind_some, x5.1]
    exact ⟨M5, rfl, x5, e1.tr (e2.tr (e3.tr (e4.tr e5)))⟩
  · rw [if_neg (nI_ge (by omega) (by omega)), if_neg hc]
    exact ⟨M, rfl, x, Ex.rf⟩
theorem x_trim (h : Sh M) (ht : VT t) (x : XT t M) (v : Int32) : ∃ N, f_X11_trim 1 v M = some ((sp_trim t v).1, N) ∧ XT (sp_trim t v).2 N ∧ Ex CT M N := by
  have h8 := ht.1
  unfold f_X11_trim sp_trim f_X8_length f_X8_cutTo
  cases hx : ixo v (t.1 + 1) with
  | none =>
    by_cases h0 : v < 0
    · rw [if_pos h0]; exact ⟨M, rfl, x, Ex.rf⟩
    · obtain ⟨j, hj, rfl⟩ := nI_of h0
      have hlt : t.1 < j := by
        by_cases q : j < t.1 + 1
        · rw [(ixo_some (by omega)).mpr ⟨q, rfl⟩] at hx; cases hx
        · omega
      rw [if_neg h0, q1_4 h, Option.bind_some, jiv_n (t29 h), gI_n (t29 h), Option.bind_some, x.1]
      show ∃ N, (if nI j ≤ nI t.1 then _ else _) = _ ∧ _
      rw [if_neg (nI_ge hlt hj)]
      exact ⟨M, rfl, x, Ex.rf⟩
  | some n =>
    obtain ⟨hn, rfl⟩ := (ixo_some (by omega)).mp hx
    rw [if_neg (nI_pos (by omega)), q1_4 h, Option.bind_some, jiv_n (t29 h), gI_n (t29 h), Option.bind_some, x.1]
    show ∃ N, (if nI n ≤ nI t.1 then _ else _) = _ ∧ _
    rw [if_pos (nI_le (by omega) (by omega)), q1_4 h, Option.bind_some, jiv_n (t29 h), gI_n (t29 h), Option.bind_some, x.1, jmn_n (by omega) (by omega), Nat.min_eq_left (by omega), show jmx (nI 0) (nI n) = nI n by
      unfold jmx
      by_cases h0 : n = 0
      · subst h0; rfl
      · rw [if_pos (nI_lt (by omega) (by omega))], pI_n (t29 h), Option.bind_some]
    exact ⟨_, rfl, ⟨by rw [rI_wI, if_pos ⟨rfl, rfl⟩], fun k hk => by rw [rI_wI, if_neg (by omega)]; exact x.2 k (by have : k < n := hk; omega)⟩, ex_wI Ex.rf (Or.inl rfl)⟩
theorem m_trim (h : Sh M) (ht : VT t) (x : MT t M) (v : Int32) : ∃ N, f_X12_trim 65 v M = some ((sp_trim t v).1, N) ∧ MT (sp_trim t v).2 N ∧ Ey PM M N := by
  have h8 := ht.1
  unfold f_X12_trim sp_trim
  rw [gI_n (t65 h), Option.bind_some, x.1, show nI t.1 = nI (t.1 + 1 - 1) from rfl, m_in0 (by omega) (by omega), jb2_some]
  cases hx : ixo v (t.1 + 1) with
  | none => exact ⟨M, rfl, x, Ey.rf⟩
  | some n =>
    obtain ⟨hn, rfl⟩ := (ixo_some (by omega)).mp hx
    rw [if_neg (show ¬ bI (some n).isSome = 0 by show ¬ bI true = 0; decide), pI_n (t65 h), Option.bind_some]
    exact ⟨_, rfl, ⟨by rw [rI_wI, if_pos ⟨rfl, rfl⟩], fun k hk => by rw [rI_wI, if_neg (by omega)]; exact x.2 k (by have : k < n := hk; omega)⟩, ey_wI Ey.rf (Or.inr ⟨rfl, rfl⟩)⟩
theorem feed_1 (h : Sh M) {L j s : Nat} (hl : rI M 65 28 = nI L) (hL : L + 20 ≤ 800) (hj : j < 4) (hs : s = 24 - 8 * j) {a b c d e : Int32} {k : Nat → Int32 → Int32 → Int32 → Int32 → Int32 → Int32 → jM → jO Int32} :
    b_X12_feed_20 k 65 a b c d e (nI s) M = k 65 a b c d e (nI s + (-8 : Int32)) (wI (wI (wI (wI (wI M 83 (L + j) (bt a s)) 83 (L + j + 4) (bt b s)) 83 (L + j + 8) (bt c s)) 83 (L + j + 12) (bt d s)) 83 (L + j + 16) (bt e s)) := by
  unfold b_X12_feed_20
  have s3 : s ≤ 24 := by omega
  have e1 : Ey PM M (wI M 83 (L + j) (bt a s)) := ey_wI Ey.rf (Or.inl rfl)
  have e2 : Ey PM M (wI (wI M 83 (L + j) (bt a s)) 83 (L + j + 4) (bt b s)) := ey_wI e1 (Or.inl rfl)
  have e3 : Ey PM M (wI (wI (wI M 83 (L + j) (bt a s)) 83 (L + j + 4) (bt b s)) 83 (L + j + 8) (bt c s)) := ey_wI e2 (Or.inl rfl)
  have e4 : Ey PM M (wI (wI (wI (wI M 83 (L + j) (bt a s)) 83 (L + j + 4) (bt b s)) 83 (L + j + 8) (bt c s)) 83 (L + j + 12) (bt d s)) := ey_wI e3 (Or.inl rfl)
  have hd : dv (nI s) (nI 8) = some (nI (3 - j)) := by
    unfold dv
    rw [if_neg (by decide), pk_div (by omega) (by decide) (by decide), show s / 8 = 3 - j by omega]
  have hy : nI L + nI 3 - nI (3 - j) = nI (L + j) := by
    rw [nI_add, pk_sub (by omega), show L + 3 - (3 - j) = L + j by omega]
  have hb : ∀ v : Int32, (Int8.toInt32 (Int32.toInt8 (v >>> (nI s &&& 31)))).toInt8.toInt32 = bt v s := fun _ => rfl
  rw [if_neg (nI_pos (by omega)), gI_n (t65 h), Option.bind_some, hl, hd, Option.bind_some, hy]
  show ((gR 11 M 65 27).bind fun r7 => _) = _
  rw [q65_27 h, Option.bind_some, stB_n (t83 h) (by omega) (by decide), Option.bind_some, hb, q65_27 (Sh_ey e1 h), Option.bind_some, nI_add, stB_n (t83 (Sh_ey e1 h)) (by omega) (by decide), Option.bind_some, hb, q65_27 (Sh_ey e2 h), Option.bind_some, nI_add, stB_n (t83 (Sh_ey e2 h)) (by omega) (by decide), Option.bind_some, hb, q65_27 (Sh_ey e3 h), Option.bind_some, nI_add, stB_n (t83 (Sh_ey e3 h)) (by omega) (by decide), Option.bind_some, hb, q65_27 (Sh_ey e4 h), Option.bind_some, nI_add, stB_n (t83 (Sh_ey e4 h)) (by omega) (by decide), Option.bind_some, hb]
/-- the first j bytes of each of five numbers are there -/
def fd5 (L j : Nat) (a b c d e : Int32) (M : jM) : Prop := ∀ r, r < j → rI M 83 (L + r) = bt a (24 - 8 * r) ∧ rI M 83 (L + 4 + r) = bt b (24 - 8 * r) ∧ rI M 83 (L + 8 + r) = bt c (24 - 8 * r) ∧ rI M 83 (L + 12 + r) = bt d (24 - 8 * r) ∧ rI M 83 (L + 16 + r) = bt e (24 - 8 * r)
theorem feed_2 {L j : Nat} (hj : j < 4) {a b c d e : Int32} (f : fd5 L j a b c d e M) : fd5 L (j + 1) a b c d e (wI (wI (wI (wI (wI M 83 (L + j) (bt a (24 - 8 * j))) 83 (L + j + 4) (bt b (24 - 8 * j))) 83 (L + j + 8) (bt c (24 - 8 * j))) 83 (L + j + 12) (bt d (24 - 8 * j))) 83 (L + j + 16) (bt e (24 - 8 * j))) := by
  intro r hr
  by_cases hrj : r = j
  · subst hrj
    refine ⟨?_, ?_, ?_, ?_, ?_⟩
    · rw [rI_wI, if_neg (by omega), rI_wI, if_neg (by omega), rI_wI, if_neg (by omega), rI_wI, if_neg (by omega), rI_wI, if_pos ⟨rfl, rfl⟩]
    · rw [rI_wI, if_neg (by omega), rI_wI, if_neg (by omega), rI_wI, if_neg (by omega), rI_wI, if_pos ⟨rfl, by omega⟩]
    · rw [rI_wI, if_neg (by omega), rI_wI, if_neg (by omega), rI_wI, if_pos ⟨rfl, by omega⟩]
    · rw [rI_wI, if_neg (by omega), rI_wI, if_pos ⟨rfl, by omega⟩]
    · rw [rI_wI, if_pos ⟨rfl, by omega⟩]
  · obtain ⟨f1, f2, f3, f4, f5⟩ := f r (by omega)
    refine ⟨?_, ?_, ?_, ?_, ?_⟩ <;> (rw [rI_wI, if_neg (by omega), rI_wI, if_neg (by omega), rI_wI, if_neg (by omega), rI_wI, if_neg (by omega), rI_wI, if_neg (by omega)]; assumption)
theorem m_feed (h : Sh M) (ht : VT t) (x : MT t M) (a b c d e : Int32) : ∃ N, f_X12_feed 65 a b c d e M = some ((sp_feed t a b c d e).1, N) ∧ MT (sp_feed t a b c d e).2 N ∧ Ey PM M N := by
  have h8 := ht.1
  unfold f_X12_feed sp_feed
  rw [gI_n (t65 h), Option.bind_some, x.1, nI_add]
  by_cases hc : t.1 + 20 ≤ 800
  · rw [if_pos (nI_le hc (by decide)), if_pos hc]
    obtain ⟨n0, hn0⟩ := jF_is
    rw [hn0]
    have st : ∀ (N : jM) (j : Nat), j < 4 → Sh N → Ey PM M N → rI N 65 28 = nI t.1 → fd5 t.1 j a b c d e N → (∀ k, k < t.1 → rI N 83 k = t.2 k) → ∀ k, ∃ N', b_X12_feed_20 k 65 a b c d e (nI (24 - 8 * j)) N = k 65 a b c d e (nI (24 - 8 * j) + (-8 : Int32)) N' ∧ Sh N' ∧ Ey PM M N' ∧ rI N' 65 28 = nI t.1 ∧ fd5 t.1 (j + 1) a b c d e N' ∧ (∀ k, k < t.1 → rI N' 83 k = t.2 k) := by
      intro N j hj hN eN lN fN oN k
      refine ⟨_, feed_1 hN lN hc hj rfl, ?_, ?_, ?_, feed_2 hj fN, fun q hq => ?_⟩
      · exact Sh_ey (P := PM) (ey_wI (ey_wI (ey_wI (ey_wI (ey_wI Ey.rf (Or.inl rfl)) (Or.inl rfl)) (Or.inl rfl)) (Or.inl rfl)) (Or.inl rfl)) hN
      · exact ey_wI (ey_wI (ey_wI (ey_wI (ey_wI eN (Or.inl rfl)) (Or.inl rfl)) (Or.inl rfl)) (Or.inl rfl)) (Or.inl rfl)
      · rw [rI_wI, if_neg (by omega), rI_wI, if_neg (by omega), rI_wI, if_neg (by omega), rI_wI, if_neg (by omega), rI_wI, if_neg (by omega)]; exact lN
      · rw [rI_wI, if_neg (by omega), rI_wI, if_neg (by omega), rI_wI, if_neg (by omega), rI_wI, if_neg (by omega), rI_wI, if_neg (by omega)]; exact oN q hq
    obtain ⟨M1, p1, h1, e1, l1, f1, o1⟩ := st M 0 (by decide) h Ey.rf x.1 (fun r hr => absurd hr (Nat.not_lt_zero r)) x.2 (l_X12_feed_20 (n0 + 899999))
    obtain ⟨M2, p2, h2, e2, l2, f2, o2⟩ := st M1 1 (by decide) h1 e1 l1 f1 o1 (l_X12_feed_20 (n0 + 899998))
    obtain ⟨M3, p3, h3, e3, l3, f3, o3⟩ := st M2 2 (by decide) h2 e2 l2 f2 o2 (l_X12_feed_20 (n0 + 899997))
    obtain ⟨M4, p4, h4, e4, l4, f4, o4⟩ := st M3 3 (by decide) h3 e3 l3 f3 o3 (l_X12_feed_20 (n0 + 899996))
    show ∃ N, b_X12_feed_20 (l_X12_feed_20 (n0 + 899999)) 65 a b c d e (nI (24 - 8 * 0)) M = _ ∧ _
    rw [p1, show nI (24 - 8 * 0) + (-8 : Int32) = nI (24 - 8 * 1) by decide]
    show ∃ N, b_X12_feed_20 (l_X12_feed_20 (n0 + 899998)) 65 a b c d e (nI (24 - 8 * 1)) M1 = _ ∧ _
    rw [p2, show nI (24 - 8 * 1) + (-8 : Int32) = nI (24 - 8 * 2) by decide]
    show ∃ N, b_X12_feed_20 (l_X12_feed_20 (n0 + 899997)) 65 a b c d e (nI (24 - 8 * 2)) M2 = _ ∧ _
    rw [p3, show nI (24 - 8 * 2) + (-8 : Int32) = nI (24 - 8 * 3) by decide]
    show ∃ N, b_X12_feed_20 (l_X12_feed_20 (n0 + 899996)) 65 a b c d e (nI (24 - 8 * 3)) M3 = _ ∧ _
    rw [p4]
    show ∃ N, b_X12_feed_20 (l_X12_feed_20 (n0 + 899995)) 65 a b c d e (nI (24 - 8 * 3) + (-8 : Int32)) M4 = _ ∧ _
    unfold b_X12_feed_20
    have e5 : Ey PM M (wI M4 65 28 (nI (t.1 + 20))) := ey_wI e4 (Or.inr ⟨rfl, rfl⟩)
    rw [if_pos (by decide), gI_n (t65 h4), Option.bind_some, l4, nI_add, pI_n (t65 h4), Option.bind_some, gI_n (t65 (Sh_ey e5 h)), Option.bind_some, rI_wI, if_pos ⟨rfl, rfl⟩]
    refine ⟨_, rfl, ⟨by rw [rI_wI, if_pos ⟨rfl, rfl⟩]; rfl, fun k hk => ?_⟩, e5⟩
    have hk' : k < t.1 + 4 + 4 + 4 + 4 + 4 := hk
    rw [rI_wI, if_neg (by omega)]
    show rI M4 83 k = if k < t.1 + 4 + 4 + 4 + 4 then (if k < t.1 + 4 + 4 + 4 then (if k < t.1 + 4 + 4 then (if k < t.1 + 4 then (if k < t.1 then t.2 k else bt a (24 - 8 * (k - t.1))) else bt b (24 - 8 * (k - (t.1 + 4)))) else bt c (24 - 8 * (k - (t.1 + 4 + 4)))) else bt d (24 - 8 * (k - (t.1 + 4 + 4 + 4)))) else bt e (24 - 8 * (k - (t.1 + 4 + 4 + 4 + 4)))
    by_cases c5 : k < t.1 + 4 + 4 + 4 + 4
    · rw [if_pos c5]
      by_cases c4 : k < t.1 + 4 + 4 + 4
      · rw [if_pos c4]
        by_cases c3 : k < t.1 + 4 + 4
        · rw [if_pos c3]
          by_cases c2 : k < t.1 + 4
          · rw [if_pos c2]
            by_cases c1 : k < t.1
            · rw [if_pos c1]; exact o4 k c1
            · rw [if_neg c1, ← (f4 (k - t.1) (by omega)).1, show t.1 + (k - t.1) = k by omega]
          · rw [if_neg c2, ← (f4 (k - (t.1 + 4)) (by omega)).2.1, show t.1 + 4 + (k - (t.1 + 4)) = k by omega]
        · rw [if_neg c3, ← (f4 (k - (t.1 + 4 + 4)) (by omega)).2.2.1, show t.1 + 8 + (k - (t.1 + 4 + 4)) = k by omega]
      · rw [if_neg c4, ← (f4 (k - (t.1 + 4 + 4 + 4)) (by omega)).2.2.2.1, show t.1 + 12 + (k - (t.1 + 4 + 4 + 4)) = k by omega]
    · rw [if_neg c5, ← (f4 (k - (t.1 + 4 + 4 + 4 + 4)) (by omega)).2.2.2.2, show t.1 + 16 + (k - (t.1 + 4 + 4 + 4 + 4)) = k by omega]
  · rw [if_neg (nI_ge (by omega) (by omega)), if_neg hc]
    exact ⟨M, rfl, x, Ey.rf⟩
end TP
