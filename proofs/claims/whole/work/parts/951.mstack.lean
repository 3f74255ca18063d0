/-! READING: the reference's stack. -/
def PGr (c k : Nat) : Prop := (c = 65 ∧ (k = 23 ∨ k = 29 ∨ k = 33 ∨ k = 34 ∨ k = 36 ∨ k = 37)) ∨ (80 ≤ c ∧ c ≤ 82) ∨ (84 ≤ c ∧ c ≤ 87)
/-- at place a, c nodes made, s signs around, q quantifiers with the letters l -/
def BS (t : Tp) (a c s q : Nat) (l : Nat → Nat) (M : jM) : Prop := Sh M ∧ MT t M ∧ rI M 65 36 = nI a ∧ a ≤ t.1 ∧ rI M 65 37 = -1 ∧ rI M 65 33 = nI s ∧ rI M 65 34 = nI q ∧ rI M 65 23 = nI c ∧ rI M 65 29 = nI (s + 1) ∧ ∀ k, k < q → rI M 87 k = nI (l k)
def lok (q : Nat) (l : Nat → Nat) : Prop := ∀ k, k < q → 97 ≤ l k ∧ l k ≤ 104
/-- the innermost quantifier with that letter -/
def lwc (l : Nat → Nat) (c : Nat) : Nat → Nat
  | 0 => 0
  | k + 1 => if l k = c then k + 1 else lwc l c k
def lw (l : Nat → Nat) (q j : Nat) : Nat := lwc l (97 + j) q
def fi (n : Nat) : Int32 := if n = 0 then -1 else nI (n - 1)
theorem lwc_le {l : Nat → Nat} {c : Nat} : ∀ q, lwc l c q ≤ q
  | 0 => Nat.le_refl _
  | q + 1 => by
    rw [lwc]
    split
    · exact Nat.le_refl _
    · have := lwc_le (l := l) (c := c) q; omega
theorem lwc_0 {l : Nat → Nat} {c : Nat} (h : ¬ (97 ≤ c ∧ c ≤ 104)) : ∀ q, lok q l → lwc l c q = 0
  | 0, _ => rfl
  | q + 1, k => by
    have := k q (by omega)
    rw [lwc, if_neg (by omega)]
    exact lwc_0 h q (fun j hj => k j (by omega))
theorem lwc_up {l : Nat → Nat} {c x q0 : Nat} : ∀ q, q ≤ q0 → lwc (up1 l q0 x) c q = lwc l c q
  | 0, _ => rfl
  | q + 1, h => by
    have z : up1 l q0 x q = l q := by unfold up1; rw [if_neg (by omega)]
    rw [lwc, lwc, lwc_up q (by omega), z]
theorem lw_up {l : Nat → Nat} {q j0 : Nat} : lw (up1 l q (97 + j0)) (q + 1) = up1 (lw l q) j0 (q + 1) := by
  funext j
  unfold lw
  have z : up1 l q (97 + j0) q = 97 + j0 := by unfold up1; rw [if_pos rfl]
  rw [lwc, lwc_up q (Nat.le_refl _), z]
  unfold up1
  by_cases h : j = j0
  · rw [if_pos h, if_pos (by omega)]
  · rw [if_neg h, if_neg (by omega)]
theorem lok_up {l : Nat → Nat} {q x : Nat} (h : lok q l) (hx : 97 ≤ x ∧ x ≤ 104) : lok (q + 1) (up1 l q x) := fun k hk => by
  unfold up1
  split
  · exact hx
  · exact h k (by omega)
/-- m frames of nodes above the formula's at b -/
def fr (M : jM) (b q0 : Nat) : Nat → Nat → Prop
  | 0, q => q = q0
  | m + 1, q => ∃ q1, fr M b q0 m q1 ∧ ((rI M 84 (b + 1 + m) = nI 1 ∧ q = q1) ∨ ((rI M 84 (b + 1 + m) = nI 2 ∨ rI M 84 (b + 1 + m) = nI 3) ∧ q = q1 + 1))
theorem fr_same {M N : jM} {b q0 : Nat} : ∀ m q, (∀ i, i ≤ b + m → rI N 84 i = rI M 84 i) → fr M b q0 m q → fr N b q0 m q
  | 0, q, _, h => h
  | m + 1, q, e, ⟨q1, h1, h2⟩ => ⟨q1, fr_same m q1 (fun i hi => e i (by omega)) h1, by rw [e _ (by omega)]; exact h2⟩
theorem fr_le {M : jM} {b q0 : Nat} : ∀ m q, fr M b q0 m q → q0 ≤ q
  | 0, q, h => by have : q = q0 := h; omega
  | m + 1, q, ⟨q1, h1, h2⟩ => by have := fr_le m q1 h1; omega
/-- which list's number of parts goes up -/
def IA (M : jM) (b c : Nat) (ia : Option Nat) : Prop := match ia with
  | none => rI M 86 b = nI 0
  | some a => rI M 86 b ≠ 0 ∧ rI M 85 b = nI a ∧ a < c
def P3x (c k : Nat) : Prop := (c = 65 ∧ (k = 29 ∨ k = 33 ∨ k = 34)) ∨ c = 81
theorem P3x_G {c k : Nat} (h : P3x c k) : PGr c k := by unfold P3x at h; unfold PGr; omega
theorem P36_G {c k : Nat} (h : P36 c k) : PGr c k := by unfold P36 at h; unfold PGr; omega
theorem PNm_G {c k : Nat} (h : PNm c k) : PGr c k := by unfold PNm at h; unfold PGr; omega
theorem MT_g {t : Tp} {M N : jM} (e : Ey PGr M N) (x : MT t M) : MT t N := MT_ey e (by unfold PGr; omega) (fun k => by unfold PGr; omega) x
section MY
variable {M : jM} {t : Tp} {a c s q b q0 m : Nat} {l : Nat → Nat} {ia : Option Nat}
theorem pd_l (h9 : c < 1000) : ∀ (m s q F : Nat) (M : jM), BS t a c s q l M → s = b + m → s ≤ 12 → fr M b q0 m q → rI M 84 b = nI 0 → IA M b c ia → m < F → ∃ N, l_X12_partDone_0 F 65 M = some ((), N) ∧ BS t a c b q0 l N ∧ Ey P3x M N ∧ ∀ i, rI N 81 i = if ia = some i then rI M 81 i + nI 1 else rI M 81 i := by
  intro m
  induction m with
  | zero =>
    intro s q F M B hs h12 hf h84 hi hF
    obtain ⟨F, rfl⟩ : ∃ G, F = G + 1 := ⟨F - 1, by omega⟩
    have hsb : s = b := by omega
    have hq : q = q0 := hf
    subst hsb hq
    have h := B.1
    show ∃ N, b_X12_partDone_0 (l_X12_partDone_0 F) 65 M = _ ∧ _
    unfold b_X12_partDone_0
    rw [q65_30 h, Option.bind_some, gI_n (t65 h), Option.bind_some, B.2.2.2.2.2.2.2.2.1, nI_sb (by omega), Nat.add_sub_cancel, ldI_n (t84 h) (by omega) (by decide), Option.bind_some, h84, if_pos (show nI 0 = 0 from rfl), q65_32 h, Option.bind_some, Option.bind_some, nI_sb (by omega), Nat.add_sub_cancel, ldI_n (t86 h) (by omega) (by decide), Option.bind_some]
    cases ia with
    | none =>
      have hi : rI M 86 s = nI 0 := hi
      rw [hi, if_pos (show nI 0 = 0 from rfl)]
      exact ⟨M, rfl, B, Ey.rf, fun i => by rw [if_neg (by simp)]⟩
    | some x =>
      obtain ⟨i1, i2, i3⟩ := hi
      rw [if_neg i1, q65_25 h, Option.bind_some, q65_31 h, Option.bind_some, Option.bind_some, nI_sb (by omega), Nat.add_sub_cancel, ldI_n (t85 h) (by omega) (by decide), Option.bind_some, i2, ldI_n (t81 h) (by omega) (by decide), Option.bind_some, stI_n (t81 h) (by omega) (by decide), Option.bind_some]
      have e : Ey P3x M (wI M 81 x (rI M 81 x + nI 1)) := ey_wI Ey.rf (Or.inr rfl)
      obtain ⟨b1, b2, b3, b4, b5, b6, b7, b8, b9, b10⟩ := B
      refine ⟨_, rfl, ⟨Sh_ey e b1, MT_g (e.mono fun _ _ => P3x_G) b2, by rw [rI_wI, if_neg (by omega)]; exact b3, b4, by rw [rI_wI, if_neg (by omega)]; exact b5, by rw [rI_wI, if_neg (by omega)]; exact b6, by rw [rI_wI, if_neg (by omega)]; exact b7, by rw [rI_wI, if_neg (by omega)]; exact b8, by rw [rI_wI, if_neg (by omega)]; exact b9, fun k hk => by rw [rI_wI, if_neg (by omega)]; exact b10 k hk⟩, e, fun i => ?_⟩
      rw [rI_wI]
      by_cases hix : i = x
      · rw [if_pos ⟨rfl, hix⟩, if_pos (by rw [hix]), hix]
      · rw [if_neg (by omega), if_neg (fun z => hix (by cases z; rfl))]
  | succ m ih =>
    intro s q F M B hs h12 hf h84 hi hF
    obtain ⟨F, rfl⟩ : ∃ G, F = G + 1 := ⟨F - 1, by omega⟩
    obtain ⟨q1, f1, f2⟩ := hf
    have h := B.1
    show ∃ N, b_X12_partDone_0 (l_X12_partDone_0 F) 65 M = _ ∧ _
    unfold b_X12_partDone_0
    have hs1 : b + 1 + m = s := by omega
    rw [hs1] at f2
    have hne : ¬ rI M 84 s = 0 := by
      rcases f2 with ⟨z, -⟩ | ⟨z | z, -⟩ <;> rw [z] <;> decide
    obtain ⟨b1, b2, b3, b4, b5, b6, b7, b8, b9, b10⟩ := B
    have e1 : Ey P3x M (wI M 65 29 (nI s)) := ey_wI Ey.rf (Or.inl ⟨rfl, Or.inl rfl⟩)
    have e2 : Ey P3x M (wI (wI M 65 29 (nI s)) 65 33 (nI (s - 1))) := ey_wI e1 (Or.inl ⟨rfl, Or.inr (Or.inl rfl)⟩)
    have h1 := Sh_ey e1 h
    have h2 := Sh_ey e2 h
    have h84s : rI (wI (wI M 65 29 (nI s)) 65 33 (nI (s - 1))) 84 s = rI M 84 s := by rw [rI_wI, if_neg (by omega), rI_wI, if_neg (by omega)]
    rw [q65_30 h, Option.bind_some, gI_n (t65 h), Option.bind_some, b9, nI_sb (by omega), Nat.add_sub_cancel, ldI_n (t84 h) (by omega) (by decide), Option.bind_some, if_neg hne, Option.bind_some, nI_sb (by omega), Nat.add_sub_cancel, pI_n (t65 h), Option.bind_some, gI_n (t65 h1), Option.bind_some, rI_wI, if_neg (by omega), b6, nI_sb (by omega), pI_n (t65 h1), Option.bind_some, gI_n (t65 h2), Option.bind_some, rI_wI, if_neg (by omega), rI_wI, if_neg (by omega), b7, q65_30 h2, Option.bind_some, gI_n (t65 h2), Option.bind_some, rI_wI, if_neg (by omega), rI_wI, if_pos ⟨rfl, rfl⟩, ldI_n (t84 h2) (by omega) (by decide), Option.bind_some, h84s]
    have fin : ∀ q2, q2 = q1 → ∃ N, ((pI 11 (wI (wI M 65 29 (nI s)) 65 33 (nI (s - 1))) 65 34 (nI q2)).bind fun M1 => l_X12_partDone_0 F 65 M1) = some ((), N) ∧ BS t a c b q0 l N ∧ Ey P3x M N ∧ ∀ i, rI N 81 i = if ia = some i then rI M 81 i + nI 1 else rI M 81 i := by
      intro q2 hq2
      subst hq2
      have e3 : Ey P3x M (wI (wI (wI M 65 29 (nI s)) 65 33 (nI (s - 1))) 65 34 (nI q2)) := ey_wI e2 (Or.inl ⟨rfl, Or.inr (Or.inr rfl)⟩)
      rw [pI_n (t65 h2), Option.bind_some]
      have B3 : BS t a c (s - 1) q2 l (wI (wI (wI M 65 29 (nI s)) 65 33 (nI (s - 1))) 65 34 (nI q2)) := ⟨Sh_ey e3 b1, MT_g (e3.mono fun _ _ => P3x_G) b2, by rw [rI_wI, if_neg (by omega), rI_wI, if_neg (by omega), rI_wI, if_neg (by omega)]; exact b3, b4, by rw [rI_wI, if_neg (by omega), rI_wI, if_neg (by omega), rI_wI, if_neg (by omega)]; exact b5, by rw [rI_wI, if_neg (by omega), rI_wI, if_pos ⟨rfl, rfl⟩], by rw [rI_wI, if_pos ⟨rfl, rfl⟩], by rw [rI_wI, if_neg (by omega), rI_wI, if_neg (by omega), rI_wI, if_neg (by omega)]; exact b8, by rw [rI_wI, if_neg (by omega), rI_wI, if_neg (by omega), rI_wI, if_pos ⟨rfl, rfl⟩]; congr 1; omega, fun k hk => by rw [rI_wI, if_neg (by omega), rI_wI, if_neg (by omega), rI_wI, if_neg (by omega)]; exact b10 k (by omega)⟩
      have nb : ∀ d i, d ≠ 65 → rI (wI (wI (wI M 65 29 (nI s)) 65 33 (nI (s - 1))) 65 34 (nI q2)) d i = rI M d i := fun d i hd => by rw [rI_wI, if_neg (by omega), rI_wI, if_neg (by omega), rI_wI, if_neg (by omega)]
      obtain ⟨N, n1, n2, n3, n4⟩ := ih (s - 1) q2 F _ B3 (by omega) (by omega) (fr_same m q2 (fun i _ => nb 84 i (by decide)) f1) (by rw [nb 84 b (by decide)]; exact h84) (by
        cases ia with
        | none => show rI _ 86 b = nI 0; rw [nb 86 b (by decide)]; exact hi
        | some x => exact ⟨by rw [nb 86 b (by decide)]; exact hi.1, by rw [nb 85 b (by decide)]; exact hi.2.1, hi.2.2⟩) (by omega)
      exact ⟨N, n1, n2, e3.tr n3, fun i => by rw [n4 i, nb 81 i (by decide)]⟩
    unfold j_X12_partDone_57
    rcases f2 with ⟨z, hq1⟩ | ⟨z, hq1⟩
    · rw [if_pos z, nI_sb (by omega), Nat.sub_zero]
      exact fin q (by omega)
    · rw [if_neg (by rcases z with z | z <;> rw [z] <;> decide), nI_sb (by omega)]
      exact fin (q - 1) (by omega)
theorem m_pd (h9 : c < 1000) (B : BS t a c s q l M) (hs : s = b + m) (h12 : s ≤ 12) (hf : fr M b q0 m q) (h84 : rI M 84 b = nI 0) (hi : IA M b c ia) : ∃ N, f_X12_partDone 65 M = some ((), N) ∧ BS t a c b q0 l N ∧ Ey P3x M N ∧ ∀ i, rI N 81 i = if ia = some i then rI M 81 i + nI 1 else rI M 81 i := by
  obtain ⟨n0, hn0⟩ := jF_is
  exact pd_l h9 m s q jF0 M B hs h12 hf h84 hi (by omega)
theorem bs_skip (ht : VT t) (B : BS t a c s q l M) : ∃ N, f_X12_skip 65 M = some ((), N) ∧ Ey P36 M N ∧ BS t (sk t a) c s q l N := by
  obtain ⟨b1, b2, b3, b4, b5, b6, b7, b8, b9, b10⟩ := B
  obtain ⟨N, n1, n2, n3⟩ := m_skip ht b1 b2 b3 b4
  exact ⟨N, n1, n2, Sh_ey n2 b1, MT_g (n2.mono fun _ _ => P36_G) b2, n3, sk_ge.2 b4, by rw [ey_rI n2 (by unfold P36; omega)]; exact b5, by rw [ey_rI n2 (by unfold P36; omega)]; exact b6, by rw [ey_rI n2 (by unfold P36; omega)]; exact b7, by rw [ey_rI n2 (by unfold P36; omega)]; exact b8, by rw [ey_rI n2 (by unfold P36; omega)]; exact b9, fun k hk => by rw [ey_rI n2 (by unfold P36; omega)]; exact b10 k hk⟩
theorem bs_next (B : BS t a c s q l M) (ha : a < t.1) : ((gI 11 M 65 36).bind fun x => pI 11 M 65 36 (x + nI 1)) = some (wI M 65 36 (nI (a + 1))) ∧ BS t (a + 1) c s q l (wI M 65 36 (nI (a + 1))) ∧ Ey P36 M (wI M 65 36 (nI (a + 1))) := by
  obtain ⟨b1, b2, b3, b4, b5, b6, b7, b8, b9, b10⟩ := B
  have e : Ey P36 M (wI M 65 36 (nI (a + 1))) := ey_wI Ey.rf ⟨rfl, rfl⟩
  refine ⟨by rw [gI_n (t65 b1), Option.bind_some, b3, nI_add, pI_n (t65 b1)], ⟨Sh_ey e b1, MT_g (e.mono fun _ _ => P36_G) b2, by rw [rI_wI, if_pos ⟨rfl, rfl⟩], by omega, by rw [ey_rI e (by unfold P36; omega)]; exact b5, by rw [ey_rI e (by unfold P36; omega)]; exact b6, by rw [ey_rI e (by unfold P36; omega)]; exact b7, by rw [ey_rI e (by unfold P36; omega)]; exact b8, by rw [ey_rI e (by unfold P36; omega)]; exact b9, fun k hk => by rw [ey_rI e (by unfold P36; omega)]; exact b10 k hk⟩, e⟩
/-- wrong at w -/
def BW (w : Nat) (M : jM) : Prop := Sh M ∧ rI M 65 37 = nI w ∧ w ≤ 800
def P37 (c k : Nat) : Prop := c = 65 ∧ k = 37
theorem P37_G {c k : Nat} (h : P37 c k) : PGr c k := by unfold P37 at h; unfold PGr; omega
theorem bs_wrong (ht : VT t) (B : BS t a c s q l M) : ((gI 11 M 65 36).bind fun x => pI 11 M 65 37 x) = some (wI M 65 37 (nI a)) ∧ BW a (wI M 65 37 (nI a)) ∧ Ey P37 M (wI M 65 37 (nI a)) := by
  have h8 := ht.1
  obtain ⟨b1, b2, b3, b4, -⟩ := B
  have e : Ey P37 M (wI M 65 37 (nI a)) := ey_wI Ey.rf ⟨rfl, rfl⟩
  exact ⟨by rw [gI_n (t65 b1), Option.bind_some, b3, pI_n (t65 b1)], ⟨Sh_ey e b1, by rw [rI_wI, if_pos ⟨rfl, rfl⟩], by omega⟩, e⟩
theorem var_l (ht : VT t) (hq8 : q ≤ 8) (hl : lok q l) (B : BS t a c s q l M) : ∀ (F k : Nat), k ≤ q → q - k < F → ∃ N, l_X12_variable_13 F 65 (hv t a) (fi (lwc l (tb t a) k)) (nI k) M = some (fi (lwc l (tb t a) q), N) ∧ N = (if lwc l (tb t a) q = 0 then wI M 65 37 (nI a) else wI M 65 36 (nI (a + 1))) := by
  have h := B.1
  intro F
  induction F with
  | zero => intro k _ z; omega
  | succ F ih =>
    intro k hk hF
    show ∃ N, b_X12_variable_13 (l_X12_variable_13 F) 65 (hv t a) (fi (lwc l (tb t a) k)) (nI k) M = _ ∧ _
    unfold b_X12_variable_13 j_X12_variable_36
    rw [gI_n (t65 h), Option.bind_some, B.2.2.2.2.2.2.1]
    by_cases hkq : q ≤ k
    · have : k = q := by omega
      subst this
      rw [if_pos (nI_le (Nat.le_refl _) (by omega)), gI_n (t65 h), Option.bind_some, B.2.2.1, Option.bind_some]
      have hle := lwc_le (l := l) (c := tb t a) k
      by_cases h0 : lwc l (tb t a) k = 0
      · rw [if_neg (by unfold fi; rw [if_pos h0]; decide), pI_n (t65 h), if_pos h0]
        exact ⟨_, rfl, rfl⟩
      · rw [if_pos (by unfold fi; rw [if_neg h0]; exact nI_pos' (by omega)), nI_add, pI_n (t65 h), if_neg h0]
        exact ⟨_, rfl, rfl⟩
    · obtain ⟨l1, l2⟩ := hl k (by omega)
      have key : lwc l (tb t a) (k + 1) = if tb t a = l k then k + 1 else lwc l (tb t a) k := by
        rw [lwc]
        by_cases z : l k = tb t a
        · rw [if_pos z, if_pos z.symm]
        · rw [if_neg z, if_neg (fun y => z y.symm)]
      rw [if_neg (nI_ge (by omega) (by omega)), q65_35 h, Option.bind_some, ldI_n (t87 h) (by omega) (by decide), Option.bind_some, B.2.2.2.2.2.2.2.2.2 k (by omega), nI_add]
      have z := ih (k + 1) (by omega) (by omega)
      rw [key] at z
      by_cases hx : tb t a = l k
      · rw [if_pos ((hv_eq ht (by omega)).mpr hx).symm]
        rw [if_pos hx] at z
        have : fi (k + 1) = nI k := by unfold fi; rw [if_neg (by omega), Nat.add_sub_cancel]
        rw [this] at z
        exact z
      · rw [if_neg (fun y => hx ((hv_eq ht (by omega)).mp y.symm))]
        rw [if_neg hx] at z
        exact z
theorem m_var (ht : VT t) (hq8 : q ≤ 8) (hl : lok q l) (B : BS t a c s q l M) : match pOwn t (lw l q) a with
    | .inl w => ∃ N, f_X12_variable 65 M = some (-1, N) ∧ Ey PGr M N ∧ BW w N
    | .inr (x, p') => ∃ N, f_X12_variable 65 M = some (nI (x - 1), N) ∧ Ey P36 M N ∧ BS t p' c s q l N ∧ 1 ≤ x ∧ x ≤ 8 := by
  obtain ⟨N, n1, n2, n3⟩ := bs_skip ht B
  obtain ⟨n0, hn0⟩ := jF_is
  obtain ⟨O, o1, o2⟩ := var_l ht hq8 hl n3 jF0 0 (Nat.zero_le _) (by omega)
  have hle := lwc_le (l := l) (c := tb t (sk t a)) q
  have ef : f_X12_variable 65 M = some (fi (lwc l (tb t (sk t a)) q), O) := by
    unfold f_X12_variable
    rw [jiv_n (t65 B.1), n1, jb2_some, jiv_n (t65 n3.1), m_here n3.1 ht n3.2.1 n3.2.2.1 n3.2.2.2.1, jb2_some]
    exact o1
  have hw : 97 ≤ pb t a → lw l q (pb t a - 97) = lwc l (tb t (sk t a)) q := fun h => by unfold lw pb at *; rw [Nat.add_sub_cancel' h]
  unfold pOwn
  by_cases h0 : lwc l (tb t (sk t a)) q = 0
  · rw [if_neg (fun z => z.2.2 (by rw [hw z.1]; exact h0))]
    rw [if_pos h0] at o2
    obtain ⟨w1, w2, w3⟩ := bs_wrong ht n3
    refine ⟨O, by rw [ef]; unfold fi; rw [if_pos h0], ?_, ?_⟩
    · rw [o2]; exact (n2.mono fun _ _ => P36_G).tr (w3.mono fun _ _ => P37_G)
    · rw [o2]; exact w2
  · have hr : 97 ≤ pb t a ∧ pb t a ≤ 104 := by
      by_cases z : 97 ≤ pb t a ∧ pb t a ≤ 104
      · exact z
      · exact absurd (lwc_0 (c := tb t (sk t a)) z q hl) h0
    rw [if_pos ⟨hr.1, hr.2, by rw [hw hr.1]; exact h0⟩]
    rw [if_neg h0] at o2
    obtain ⟨w1, w2, w3⟩ := bs_next n3 (pb_lt (by omega))
    refine ⟨O, by rw [ef, hw hr.1]; unfold fi; rw [if_neg h0], ?_, ?_, by rw [hw hr.1]; omega, by rw [hw hr.1]; omega⟩
    · rw [o2]; exact n2.tr w3
    · rw [o2]; exact w2
end MY
