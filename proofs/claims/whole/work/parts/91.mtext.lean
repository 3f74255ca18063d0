/-! WRITING: the reference. -/
def PW (c k : Nat) : Prop := c = 91 ∨ c = 88 ∨ c = 90 ∨ (c = 65 ∧ (k = 38 ∨ k = 42))
theorem PW_no {c k : Nat} (h1 : 66 ≤ c) (h2 : c ≤ 79) : ¬ PW c k := by unfold PW; omega
def VR (D L : Nat) (xs : List Nat) (M N : jM) : Prop := Ey PW M N ∧ (∀ j, j < D → rI N 88 j = rI M 88 j ∧ rI N 90 j = rI M 90 j) ∧ rI N 65 42 = nI (L + xs.length) ∧ WT 91 L xs M N
theorem VR.nil {D L : Nat} {M : jM} (h : rI M 65 42 = nI L) : VR D L [] M M := ⟨Ey.rf, fun _ _ => ⟨rfl, rfl⟩, h, WT.nil⟩
theorem VR.app {D L : Nat} {xs ys : List Nat} {M N O : jM} (h : VR D L xs M N) (k : VR D (L + xs.length) ys N O) : VR D L (xs ++ ys) M O := ⟨h.1.tr k.1, fun j hj => by
  obtain ⟨a1, a2⟩ := h.2.1 j hj
  obtain ⟨b1, b2⟩ := k.2.1 j hj
  exact ⟨b1.trans a1, b2.trans a2⟩, by rw [k.2.2.1, List.length_append, Nat.add_assoc], h.2.2.2.app k.2.2.2⟩
theorem VR.le {D D' L : Nat} {xs : List Nat} {M N : jM} (h : VR D L xs M N) (hd : D' ≤ D) : VR D' L xs M N := ⟨h.1, fun j hj => h.2.1 j (by omega), h.2.2⟩
/-- a change that is no writing -/
theorem VR.no {D L : Nat} {M N : jM} (e : Ey PW M N) (h1 : ∀ j, j < D → rI N 88 j = rI M 88 j ∧ rI N 90 j = rI M 90 j) (h2 : rI N 65 42 = nI L) (h3 : ∀ i, rI N 91 i = rI M 91 i) : VR D L [] M N := ⟨e, h1, h2, fun i _ => h3 i, fun i hi => absurd hi (Nat.not_lt_zero i)⟩
def wC (s b F g x : Nat) (M : jM) : jO Unit := jb2 (l_X12_writeBehind_6 g 65 (nI x) (nI b) M) fun _ M' => l_X12_writeAll_18 F 65 (nI s) (nI b) (nI x) M'
section VW
variable {M : jM} {s b : Nat}
theorem v_write (h : Sh M) {D L v : Nat} (hl : rI M 65 42 = nI L) (hL : L + 1 ≤ 8000) (hv : v < 128) : ∃ N, f_X12_write 65 (nI v) M = some ((), N) ∧ VR D L [v] M N ∧ rI N 65 38 = rI M 65 38 := by
  unfold f_X12_write
  have e1 : Ey PW M (wI M 91 L (nI v)) := ey_wI Ey.rf (by unfold PW; omega)
  rw [q65_43 h, Option.bind_some, gI_n (t65 h), Option.bind_some, hl, stB_n (t91 h) (by omega) (by decide), by8 v hv, Option.bind_some, gI_n (t65 (Sh_ey e1 h)), Option.bind_some, show rI (wI M 91 L (nI v)) 65 42 = nI L by rw [rI_wI, if_neg (by omega)]; exact hl, nI_add, pI_n (t65 (Sh_ey e1 h)), Option.bind_some]
  refine ⟨_, rfl, ⟨ey_wI e1 (by unfold PW; omega), fun j hj => ⟨by rw [rI_wI, if_neg (by omega), rI_wI, if_neg (by omega)], by rw [rI_wI, if_neg (by omega), rI_wI, if_neg (by omega)]⟩, by rw [rI_wI, if_pos ⟨rfl, rfl⟩]; rfl, fun i hi => ?_, fun i hi => ?_⟩, by rw [rI_wI, if_neg (by omega), rI_wI, if_neg (by omega)]⟩
  · rw [rI_wI, if_neg (by omega), rI_wI, if_neg (by omega)]
  · have : i = 0 := by have : i < 1 := hi; omega
    subst this
    rw [rI_wI, if_neg (by omega), rI_wI, if_pos ⟨rfl, by omega⟩]
    rfl
theorem v_atom (hb : b + 600 ≤ 12000) (h : Sh M) {q c p D L : Nat} (hq : q ≤ 8) (hp : p < 600) (ok : aok q c) (n : HQ b M p q (.leaf c)) (hl : rI M 65 42 = nI L) (hL : L + (wa c).length ≤ 8000) :
    ∃ N, f_X12_writeAtom 65 (nI (b + p)) M = some ((), N) ∧ VR D L (wa c) M N ∧ rI N 65 38 = rI M 65 38 := by
  obtain ⟨⟨n1, n2, n3⟩, -⟩ := n
  have n1 : rI M 76 (b + p) = nI (rk (aS c)) := n1
  have n2 : rI M 77 (b + p) = nI (aA c - 1) := n2
  have n3 : rI M 78 (b + p) = nI (aB c - 1) := n3
  unfold f_X12_writeAtom
  rw [q65_19 h, Option.bind_some, ldB_n (t76 h) (by omega) (by decide), Option.bind_some, n1]
  -- sign, first variable, second variable
  have one : ∀ (K v a : Nat), K < 10 → K ≠ 8 → K ≠ 9 → v < 128 → aA c = a → 1 ≤ a → a ≤ 8 → wa c = [v, 96 + a] → ∃ N, j_X12_writeAtom_65 65 (nI (b + p)) (nI K) 65 (nI v) M = some ((), N) ∧ VR D L (wa c) M N ∧ rI N 65 38 = rI M 65 38 := by
    intro K v a hK h8 h9 hv ha ha1 ha8 hw
    rw [hw] at hL ⊢
    have hL : L + 2 ≤ 8000 := hL
    unfold j_X12_writeAtom_65 j_X12_writeAtom_87
    obtain ⟨N1, p1, p2, p3⟩ := v_write (D := D) h hl (by omega) hv
    have h1 := Sh_ey p2.1 h
    rw [jiv_n (t65 h), p1, jb2_some, if_neg (nI_ge hK (by decide)), q65_20 h1, Option.bind_some, ldI_n (t77 h1) (by omega) (by decide), Option.bind_some, ey_rI p2.1 (PW_no (by omega) (by omega)), n2, ha, nI_add, show 97 + (a - 1) = 96 + a by omega, jiv_n (t65 h1)]
    obtain ⟨N2, r1, r2, r3⟩ := v_write (D := D) (v := 96 + a) h1 p2.2.2.1 (by show L + 1 + 1 ≤ 8000; omega) (by omega)
    rw [r1, jb2_some, if_neg (fun z => h8 ((nI_eq (by omega) (by decide)).mp z)), if_neg (fun z => h9 ((nI_eq (by omega) (by decide)).mp z))]
    exact ⟨N2, rfl, p2.app r2, r3.trans p3⟩
  have two : ∀ (K v a a2 : Nat), (K = 8 ∨ K = 9) → v < 128 → aA c = a → 1 ≤ a → a ≤ 8 → aB c = a2 → 1 ≤ a2 → a2 ≤ 8 → wa c = [v, 96 + a, 96 + a2] → ∃ N, j_X12_writeAtom_65 65 (nI (b + p)) (nI K) 65 (nI v) M = some ((), N) ∧ VR D L (wa c) M N ∧ rI N 65 38 = rI M 65 38 := by
    intro K v a a2 hK hv ha ha1 ha8 hb2 hb1 hb8 hw
    rw [hw] at hL ⊢
    have hL : L + 3 ≤ 8000 := hL
    unfold j_X12_writeAtom_65 j_X12_writeAtom_87 j_X12_writeAtom_99
    obtain ⟨N1, p1, p2, p3⟩ := v_write (D := D) h hl (by omega) hv
    have h1 := Sh_ey p2.1 h
    rw [jiv_n (t65 h), p1, jb2_some, if_neg (nI_ge (by omega) (by decide)), q65_20 h1, Option.bind_some, ldI_n (t77 h1) (by omega) (by decide), Option.bind_some, ey_rI p2.1 (PW_no (by omega) (by omega)), n2, ha, nI_add, show 97 + (a - 1) = 96 + a by omega, jiv_n (t65 h1)]
    obtain ⟨N2, r1, r2, r3⟩ := v_write (D := D) (v := 96 + a) h1 p2.2.2.1 (by show L + 1 + 1 ≤ 8000; omega) (by omega)
    have h2 := Sh_ey r2.1 h1
    obtain ⟨N3, s1, s2, s3⟩ := v_write (D := D) (v := 96 + a2) h2 r2.2.2.1 (by show L + 1 + 1 + 1 ≤ 8000; omega) (by omega)
    have fin : (gR 11 N2 65 21).bind (fun r1 => (ldB N2 r1 (nI (b + p))).bind fun x2 => jb2 (jiv 11 N2 65 (f_X12_write 65 (nI 97 + x2) N2)) fun _ M3 => rt () M3) = some ((), N3) := by
      rw [q65_21 h2, Option.bind_some, ldB_n (t78 h2) (by omega) (by decide), Option.bind_some, ey_rI r2.1 (PW_no (by omega) (by omega)), ey_rI p2.1 (PW_no (by omega) (by omega)), n3, hb2, nI_add, show 97 + (a2 - 1) = 96 + a2 by omega, jiv_n (t65 h2), s1, jb2_some]
      rfl
    rw [r1, jb2_some]
    refine ⟨N3, ?_, (p2.app r2).app s2, s3.trans (r3.trans p3)⟩
    rcases hK with rfl | rfl
    · rw [if_pos rfl]; exact fin
    · rw [if_neg (by decide), if_pos rfl]; exact fin
  have zero : ∀ (K v : Nat), 10 ≤ K → K < 12 → v < 128 → wa c = [v] → ∃ N, j_X12_writeAtom_65 65 (nI (b + p)) (nI K) 65 (nI v) M = some ((), N) ∧ VR D L (wa c) M N ∧ rI N 65 38 = rI M 65 38 := by
    intro K v hK hK2 hv hw
    rw [hw] at hL ⊢
    have hL : L + 1 ≤ 8000 := hL
    unfold j_X12_writeAtom_65 j_X12_writeAtom_87
    obtain ⟨N1, p1, p2, p3⟩ := v_write (D := D) h hl (by omega) hv
    rw [jiv_n (t65 h), p1, jb2_some, if_pos (nI_le hK (by omega)), if_neg (fun z => by have := (nI_eq (by omega) (by decide)).mp z; omega), if_neg (fun z => by have := (nI_eq (by omega) (by decide)).mp z; omega)]
    exact ⟨N1, rfl, p2, p3⟩
  rcases ok with ⟨s', a, hs, ha, hbq, hcc⟩ | ⟨s', a, a2, hs, ha, hbq, hb1, hb2, hcc⟩ | hcc | hcc
  · have z1 : aS c = s' := by unfold aS; omega
    have z2 : aA c = a := by unfold aA; omega
    have z3 : aB c = 0 := by unfold aB; omega
    have hw : wa c = [s', 96 + a] := by unfold wa; rw [z1, z2, z3, if_neg (by omega), if_pos rfl]; rfl
    rw [z1]
    rcases hs with rfl | rfl
    · exact one 6 65 a (by decide) (by decide) (by decide) (by decide) z2 ha (by omega) hw
    · exact one 7 66 a (by decide) (by decide) (by decide) (by decide) z2 ha (by omega) hw
  · have z1 : aS c = s' := by unfold aS; omega
    have z2 : aA c = a := by unfold aA; omega
    have z3 : aB c = a2 := by unfold aB; omega
    have hw : wa c = [s', 96 + a, 96 + a2] := by unfold wa; rw [z1, z2, z3, if_neg (by omega), if_neg (by omega)]; rfl
    rw [z1]
    rcases hs with rfl | rfl
    · exact two 8 69 a a2 (Or.inl rfl) (by decide) z2 ha (by omega) z3 hb1 (by omega) hw
    · exact two 9 61 a a2 (Or.inr rfl) (by decide) z2 ha (by omega) z3 hb1 (by omega) hw
  · have z1 : aS c = 84 := by unfold aS; omega
    have hw : wa c = [84] := by rw [hcc]; rfl
    rw [z1]
    exact zero 10 84 (by decide) (by decide) (by decide) hw
  · have z1 : aS c = 70 := by unfold aS; omega
    have hw : wa c = [70] := by rw [hcc]; rfl
    rw [z1]
    exact zero 11 70 (by decide) (by decide) (by decide) hw
/-- the loop at a node -/
theorem v_head (h : Sh M) (hb : b + 600 ≤ 12000) (hs : s < 20) {F p m K : Nat} (hp : p < 600) (hm : rI M 75 s = nI m) (hpm : p < m) (hm6 : m ≤ 600) (hK : rI M 76 (b + p) = nI K) (hK12 : K < 12) :
    l_X12_writeAll_18 (F + 1) 65 (nI s) (nI b) (nI p) M = if K = 4 ∨ K = 5 then j_X12_writeAll_55 (l_X12_writeAll_18 F) 65 (nI s) (nI b) (nI p) M else if K = 1 then jb2 (f_X12_write 65 (nI 45) M) (fun _ M10 => l_X12_writeAll_18 F 65 (nI s) (nI b) (nI (p + 1)) M10) else if 4 ≤ K then jb2 (f_X12_writeAtom 65 (nI (b + p)) M) (fun _ M13 => jb2 (jiv 11 M13 65 (f_X12_writeBehind 65 (nI s) (nI (p + 1)) M13)) fun _ M14 => l_X12_writeAll_18 F 65 (nI s) (nI b) (nI (p + 1)) M14) else j_X12_writeAll_157 (l_X12_writeAll_18 F) 65 (nI s) (nI b) (nI p) (nI (b + p)) 65 (nI (if K = 2 then 64 else 63)) M := by
  show b_X12_writeAll_18 (l_X12_writeAll_18 F) 65 (nI s) (nI b) (nI p) M = _
  unfold b_X12_writeAll_18 j_X12_writeAll_191
  have ne : ∀ j : Nat, j < 12 → K ≠ j → ¬ nI K = nI j := fun j hj e z => e ((nI_eq (by omega) (by omega)).mp z)
  rw [q65_18 h, Option.bind_some, ldI_n (t75 h) hs (by decide), Option.bind_some, hm, if_neg (nI_ge hpm (by omega)), nI_add]
  show ((gR 11 M 65 19).bind fun r4 => _) = _
  rw [q65_19 h]
  simp only [Option.bind_some]
  rw [ldB_n (t76 h) (show b + p < 12000 by omega) (by decide), hK]
  simp only [Option.bind_some]
  rw [jiv_n (t65 h), jiv_n (t65 h)]
  by_cases h4 : K = 4
  · rw [if_pos (by rw [h4]), if_pos (Or.inl h4)]
  · rw [if_neg (ne 4 (by decide) h4)]
    by_cases h5 : K = 5
    · rw [if_pos (by rw [h5]), if_pos (Or.inr h5)]
    · rw [if_neg (ne 5 (by decide) h5), if_neg (show ¬ (K = 4 ∨ K = 5) by omega)]
      by_cases h1 : K = 1
      · rw [if_pos (by rw [h1]), if_pos h1, nI_add]
      · rw [if_neg (ne 1 (by decide) h1), if_neg h1]
        by_cases h44 : 4 ≤ K
        · rw [if_pos (nI_le h44 (by omega)), if_pos h44, nI_add]
        · rw [if_neg (nI_ge (by omega) (by decide)), if_neg h44]
          by_cases h2 : K = 2
          · rw [if_pos (by rw [h2]), if_pos h2]
          · rw [if_neg (ne 2 (by decide) h2), if_neg h2]
end VW
