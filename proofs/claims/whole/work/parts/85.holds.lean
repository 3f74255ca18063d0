/-! ASKING: the reference's holds, its words. -/
def PH (c k : Nat) : Prop := c = 88 ∨ c = 89 ∨ c = 90 ∨ c = 92 ∨ (c = 65 ∧ (k = 38 ∨ k = 44 ∨ k = 45 ∨ k = 47))
def HQ (b : Nat) (M : jM) (p q : Nat) (f : Fm) : Prop := Nr (fun i => rI M 76 (b + i)) (fun i => rI M 77 (b + i)) (fun i => rI M 78 (b + i)) p q f ∧ Ne b (rI M 79) p f
def HW (ws : Nat → Wd) (M : jM) : Prop := Sh M ∧ MA ws M
theorem HQ_ey {P : Nat → Nat → Prop} {b p q : Nat} {f : Fm} {M N : jM} (e : Ey P M N) (hP : ∀ c k, 76 ≤ c → c ≤ 79 → ¬ P c k) (h : HQ b M p q f) : HQ b N p q f :=
  ⟨Nr_congr f p p q (fun i _ => ⟨ey_rI e (hP _ _ (by decide) (by decide)), ey_rI e (hP _ _ (by decide) (by decide)), ey_rI e (hP _ _ (by decide) (by decide))⟩) h.1, Ne_congr f p (fun i _ => ey_rI e (hP _ _ (by decide) (by decide))) h.2⟩
theorem HW_ey {ws : Nat → Wd} {M N : jM} (e : Ey PH M N) (h : HW ws M) : HW ws N := ⟨Sh_ey e h.1, MA_ey e h.2 (fun c k hc => by unfold PH; omega)⟩
theorem PH_no {c k : Nat} (h1 : 76 ≤ c) (h2 : c ≤ 79) : ¬ PH c k := by unfold PH; omega
/-- the size of the first part -/
def fs : Fm → Nat
  | .leaf _ => 1
  | .branch k l r => if k = 0 then sz l else sz l + 1
section NE
variable {b : Nat} {en : Nat → Int32} {q k p : Nat} {l r f : Fm} {kd on tw : Nat → Int32}
theorem fs_0 (h : wf 0 q f) : fs f = sz f := by
  cases f with
  | leaf c => rfl
  | branch k l r =>
    have := wf0_nb h l r
    by_cases hk : k = 0
    · subst hk; exact absurd rfl this
    · rw [fs, sz, if_neg hk, if_neg hk]
theorem fs_c : fs (.branch 0 l r) = sz l := by rw [fs, if_pos rfl]
theorem Ne_c : Ne b en p (.branch 0 l r) = (Ne b en p l ∧ Ne b en (p + sz l) r) := by rw [Ne, if_pos rfl]
theorem Ne_u (hk : k ≠ 0) : Ne b en p (.branch k l r) = (en (b + p) = nI (p + (sz l + 1)) ∧ Ne b en (p + 1) l) := by rw [Ne, if_neg hk]
theorem Ne_0 (h : wf 0 q f) (n : Ne b en p f) : en (b + p) = nI (p + sz f) := by
  cases f with
  | leaf c => exact n
  | branch k l r =>
    have := wf0_nb h l r
    by_cases hk : k = 0
    · subst hk; exact absurd rfl this
    · rw [Ne_u hk] at n; rw [sz_u hk]; exact n.1
theorem Ne_h (h : wf 1 q f) (n : Ne b en p f) : en (b + p) = nI (p + fs f) := by
  by_cases hc : ∃ l r, f = .branch 0 l r
  · obtain ⟨l, r, rfl⟩ := hc
    rw [Ne_c] at n
    rw [fs_c]
    simp only [wf] at h
    exact Ne_0 h.2.1 n.1
  · have h0 : wf 0 q f := by
      cases f with
      | leaf c => exact ⟨by decide, h.2⟩
      | branch k l r =>
        have hk : k ≠ 0 := fun e => hc ⟨l, r, by rw [e]⟩
        simp only [wf] at h ⊢
        rw [if_neg hk] at h ⊢
        exact ⟨by decide, h.2⟩
    rw [fs_0 h0]
    exact Ne_0 h0 n
theorem Nr_c : Nr kd on tw p q (.branch 0 l r) = (Nr kd on tw p q l ∧ Nr kd on tw (p + sz l) q r) := by rw [Nr, if_pos rfl]
theorem Nr_n : Nr kd on tw p q (.branch 45 l r) = ((kd p = nI 1 ∧ on p = nI 0 ∧ tw p = nI 0) ∧ Nr kd on tw (p + 1) q l) := by
  rw [Nr, if_neg (by decide)]; rfl
theorem Nr_q (hk : k = 64 ∨ k = 63) : Nr kd on tw p q (.branch k l r) = ((kd p = nI (if k = 64 then 2 else 3) ∧ on p = nI q ∧ tw p = nI 0) ∧ Nr kd on tw (p + 1) (q + 1) l) := by
  rcases hk with rfl | rfl <;> (rw [Nr, if_neg (by decide)]; rfl)
theorem Nr_l (hk : k = 38 ∨ k = 124) : Nr kd on tw p q (.branch k l r) = ((kd p = nI (if k = 38 then 4 else 5) ∧ on p = nI (np l) ∧ tw p = nI 0) ∧ Nr kd on tw (p + 1) q l) := by
  rcases hk with rfl | rfl <;> (rw [Nr, if_neg (by decide)]; rfl)
end NE
section HD
variable {ws : Nat → Wd} {wi b : Nat} {M : jM}
theorem h_atom (hf : WF ws) (hw : wi < 6) (hb : b + 600 ≤ 12000) (h : HW ws M) {q c p : Nat} (hq : q ≤ 8) (hp : p < 600) (ok : aok q c) (n : HQ b M p q (.leaf c)) {env : Nat → Nat} (he : ∀ j, j < q → rI M 92 j = nI (env (j + 1))) (he6 : ∀ j, env j < 6) :
    f_X12_isAtom 65 (nI wi) (nI (b + p)) M = some (bI (atv (ws wi) env c), M) := by
  obtain ⟨sh, ma⟩ := h
  obtain ⟨⟨n1, n2, n3⟩, -⟩ := n
  have n1 : rI M 76 (b + p) = nI (rk (aS c)) := n1
  have n2 : rI M 77 (b + p) = nI (aA c - 1) := n2
  have n3 : rI M 78 (b + p) = nI (aB c - 1) := n3
  have m4 := fun a => (hf wi).2.1 a
  unfold f_X12_isAtom j_X12_isAtom_26 atv
  rw [q65_19 sh, Option.bind_some, ldB_n (t76 sh) (by omega) (by decide), Option.bind_some, n1]
  rcases ok with ⟨s, a, hs, ha, hbq, hcc⟩ | ⟨s, a, b', hs, ha, hbq, hb1, hb2, hcc⟩ | hcc | hcc
  · have z1 : aS c = s := by unfold aS; omega
    have z2 : aA c = a := by unfold aA; omega
    have e1 : rI M 92 (a - 1) = nI (env a) := by rw [he (a - 1) (by omega), show a - 1 + 1 = a by omega]
    rw [z1, z2]
    rw [z2] at n2
    have hm := m_marks sh ma (show wi < 8 by omega) (he6 a)
    have m4a := m4 (env a)
    rcases hs with rfl | rfl
    · show (if nI 10 ≤ nI 6 then _ else _) = _
      rw [if_neg (by decide), q65_46 sh, Option.bind_some, q65_20 sh, Option.bind_some, ldI_n (t77 sh) (by omega) (by decide), Option.bind_some, n2, ldI_n (t92 sh) (by omega) (by decide), Option.bind_some, e1, Option.bind_some, ldB_n (t76 sh) (by omega) (by decide), Option.bind_some, n1, z1]
      show (if nI 6 = nI 6 then _ else _) = _
      rw [if_pos rfl, q65_1 sh, Option.bind_some, hm, Option.bind_some, nI_and]
      revert m4a
      generalize (ws wi).2.1 (env a) = x
      intro m4a
      rcases (show x = 0 ∨ x = 1 ∨ x = 2 ∨ x = 3 by omega) with rfl | rfl | rfl | rfl <;> rfl
    · show (if nI 10 ≤ nI 7 then _ else _) = _
      rw [if_neg (by decide), q65_46 sh, Option.bind_some, q65_20 sh, Option.bind_some, ldI_n (t77 sh) (by omega) (by decide), Option.bind_some, n2, ldI_n (t92 sh) (by omega) (by decide), Option.bind_some, e1, Option.bind_some, ldB_n (t76 sh) (by omega) (by decide), Option.bind_some, n1, z1]
      show (if nI 7 = nI 6 then _ else if nI 7 = nI 7 then _ else _) = _
      rw [if_neg (by decide), if_pos rfl, q65_1 sh, Option.bind_some, hm, Option.bind_some, nI_and]
      revert m4a
      generalize (ws wi).2.1 (env a) = x
      intro m4a
      rcases (show x = 0 ∨ x = 1 ∨ x = 2 ∨ x = 3 by omega) with rfl | rfl | rfl | rfl <;> rfl
  · have z1 : aS c = s := by unfold aS; omega
    have z2 : aA c = a := by unfold aA; omega
    have z3 : aB c = b' := by unfold aB; omega
    have e1 : rI M 92 (a - 1) = nI (env a) := by rw [he (a - 1) (by omega), show a - 1 + 1 = a by omega]
    have e2 : rI M 92 (b' - 1) = nI (env b') := by rw [he (b' - 1) (by omega), show b' - 1 + 1 = b' by omega]
    rw [z1, z2, z3]
    rw [z2] at n2
    rw [z3] at n3
    have ha6 := he6 a
    have hb6 := he6 b'
    rcases hs with rfl | rfl
    · show (if nI 10 ≤ nI 8 then _ else _) = _
      rw [if_neg (by decide), q65_46 sh, Option.bind_some, q65_20 sh, Option.bind_some, ldI_n (t77 sh) (by omega) (by decide), Option.bind_some, n2, ldI_n (t92 sh) (by omega) (by decide), Option.bind_some, e1, Option.bind_some, ldB_n (t76 sh) (by omega) (by decide), Option.bind_some, n1, z1]
      show (if nI 8 = nI 6 then _ else if nI 8 = nI 7 then _ else if nI 8 = nI 8 then _ else _) = _
      rw [if_neg (by decide), if_neg (by decide), if_pos rfl, Option.bind_some, q65_21 sh, Option.bind_some, ldB_n (t78 sh) (by omega) (by decide), Option.bind_some, n3, ldI_n (t92 sh) (by omega) (by decide), Option.bind_some, e2, jiv_n (t65 sh), m_isTied sh ma hf (show wi < 8 by omega) ha6 hb6, jb2_some]
      exact rZ_n
    · show (if nI 10 ≤ nI 9 then _ else _) = _
      rw [if_neg (by decide), q65_46 sh, Option.bind_some, q65_20 sh, Option.bind_some, ldI_n (t77 sh) (by omega) (by decide), Option.bind_some, n2, ldI_n (t92 sh) (by omega) (by decide), Option.bind_some, e1, Option.bind_some, ldB_n (t76 sh) (by omega) (by decide), Option.bind_some, n1, z1]
      show (if nI 9 = nI 6 then _ else if nI 9 = nI 7 then _ else if nI 9 = nI 8 then _ else if nI 9 = nI 9 then _ else _) = _
      rw [if_neg (by decide), if_neg (by decide), if_neg (by decide), if_pos rfl, Option.bind_some, q65_21 sh, Option.bind_some, ldB_n (t78 sh) (by omega) (by decide), Option.bind_some, n3, ldI_n (t92 sh) (by omega) (by decide), Option.bind_some, e2, if_pos (show (61 : Nat) = 61 from rfl)]
      by_cases hab : env a = env b'
      · rw [if_pos (by rw [hab]), decide_eq_true hab]; rfl
      · rw [if_neg (fun z => hab ((nI_eq (by omega) (by omega)).mp z)), decide_eq_false hab]; rfl
  · have z1 : aS c = 84 := by unfold aS; omega
    rw [z1]
    show (if nI 10 ≤ nI 10 then _ else _) = _
    rw [if_pos (by decide), Option.bind_some, ldB_n (t76 sh) (by omega) (by decide), Option.bind_some, n1, z1]
    show (if nI 10 = nI 6 then _ else if nI 10 = nI 7 then _ else if nI 10 = nI 8 then _ else if nI 10 = nI 9 then _ else _) = _
    rw [if_neg (by decide), if_neg (by decide), if_neg (by decide), if_neg (by decide), Option.bind_some, ldB_n (t76 sh) (by omega) (by decide), Option.bind_some, n1, z1]
    rfl
  · have z1 : aS c = 70 := by unfold aS; omega
    rw [z1]
    show (if nI 10 ≤ nI 11 then _ else _) = _
    rw [if_pos (by decide), Option.bind_some, ldB_n (t76 sh) (by omega) (by decide), Option.bind_some, n1, z1]
    show (if nI 11 = nI 6 then _ else if nI 11 = nI 7 then _ else if nI 11 = nI 8 then _ else if nI 11 = nI 9 then _ else _) = _
    rw [if_neg (by decide), if_neg (by decide), if_neg (by decide), if_neg (by decide), Option.bind_some, ldB_n (t76 sh) (by omega) (by decide), Option.bind_some, n1, z1]
    rfl
end HD
