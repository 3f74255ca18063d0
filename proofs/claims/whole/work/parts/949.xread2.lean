/-! READING: the class's read. -/
def sp_read (t : Tp) (S : List Fm) : Int32 × Tp × List Fm := match pText t with
  | .inl w => ((-20 : Int32) - nI w, (0, t.2), S)
  | .inr f => if sz f ≤ 600 ∧ S.length < 20 then (nI S.length, (0, t.2), S ++ [f]) else (-4, (0, t.2), S)
theorem sp_read_vt {t : Tp} {S : List Fm} : VT (sp_read t S).2.1 := by
  have h0 : (sp_read t S).2.1.1 = 0 := by
    unfold sp_read
    split
    · rfl
    · split <;> rfl
  exact ⟨by omega, fun k hk => by omega⟩
theorem sp_read_sv {t : Tp} {S : List Fm} (ht : VT t) (h : SV S) : SV (sp_read t S).2.2 := by
  have h800 := ht.1
  unfold sp_read
  cases hx : pText t with
  | inl w => exact h
  | inr f =>
    obtain ⟨a1, a2, a3, a4⟩ := pText_ok hx
    show SV (if sz f ≤ 600 ∧ S.length < 20 then _ else _ : Int32 × Tp × List Fm).2.2
    split
    · rename_i hc
      exact SV_app h hc.2 a1 hc.1 (by omega) (by omega)
    · exact h
section XH
variable {M : jM} {t : Tp} {S : List Fm}
theorem x_parse (ht : VT t) (h : Sh M) (x : XT t M) (hc : rI M 32 1 = nI 0) : ∃ N, f_X8_parse 29 32 M = some (match pText t with
    | .inl w => nI w
    | .inr _ => -1, N) ∧ Ey PQ M N ∧ match pText t with
    | .inl w => w < 2 ^ 31
    | .inr f => rI N 32 1 = nI (sz f) ∧ Nx (rI N 33) 0 0 f := by
  have h800 := ht.1
  unfold f_X8_parse
  have e1 : Ey PQ M (wI (wI M 29 2 (nI 0)) 29 3 (-1)) := ey_wI (ey_wI Ey.rf (Or.inl ⟨rfl, Or.inl rfl⟩)) (Or.inl ⟨rfl, Or.inr rfl⟩)
  have h1 := Sh_ey e1 h
  have e0 : Ey PQ M (wI M 29 2 (nI 0)) := ey_wI Ey.rf (Or.inl ⟨rfl, Or.inl rfl⟩)
  obtain ⟨N, n1, n2, n3⟩ := fill_n (x := nI 0) (by decide) (t31 h1)
  have n2' : Ey PQ (wI (wI M 29 2 (nI 0)) 29 3 (-1)) N := n2.y.mono fun c k hh => Or.inr (Or.inl hh)
  rw [pI_n (t29 h), Option.bind_some, pI_n (t29 (Sh_ey e0 h)), Option.bind_some, q29_4 h1, Option.bind_some, n1, jb2_some]
  have e2 := e1.tr n2'
  have hN := Sh_ey e2 h
  have aN : AL t 0 0 (fun _ => 0) N := ⟨hN, XT_q e2 x, by rw [ex_rI n2 (by decide), rI_wI, if_neg (by omega), rI_wI, if_pos ⟨rfl, rfl⟩], Nat.zero_le _, by rw [ex_rI n2 (by decide), rI_wI, if_neg (by omega), rI_wI, if_neg (by omega)]; exact hc, by rw [ex_rI n2 (by decide), rI_wI, if_pos ⟨rfl, rfl⟩], fun j hj => n3 j hj⟩
  have hro : ∀ p f p', pPart t 13 0 0 (fun _ => 0) p = .inr (f, p') → RO t 0 0 p f p' := fun p f p' hh => pPart_ok 13 0 0 _ p f p' (by decide) (fun _ => Nat.le_refl _) (by decide) hh
  obtain ⟨U, u1, u2⟩ := x_form ht (by decide) (x_part ht 13 jR0 0 0 (fun _ => 0) rfl (by decide) (by rw [jR0_eq]; decide) (by decide) (fun _ => Nat.le_refl _)) hro aN (Nat.le_refl _)
  rw [jiv_n (t29 hN), u1, jb2_some]
  unfold pText
  cases hx : pForm t (pPart t 13 0 0 (fun _ => 0)) 0 with
  | inl w =>
    rw [hx] at u2
    obtain ⟨u3, u4⟩ := u2
    obtain ⟨V, v1, v2, v3⟩ := x_expectD ht (-1) u4
    rw [jiv_n (t29 u4.1), v1, jb2_some, gI_n (t29 v3.1), Option.bind_some, v3.2.2.1]
    exact ⟨V, rfl, (e2.tr u3).tr (v2.mono fun _ _ => P23_Q), v3.2.2.2.1⟩
  | inr y =>
    obtain ⟨f, p1⟩ := y
    obtain ⟨r1, r2, r3, r4, r5⟩ := pForm_ok hro hx
    rw [hx] at u2
    obtain ⟨u3, p2, u4, u5, u6, u7, u8⟩ := u2
    rw [Nat.zero_add] at u4
    obtain ⟨V, v1, v2, v3⟩ := al_peek ht u4
    unfold f_X8_expect
    have hpb : pb t p2 = pb t p1 := by unfold pb; rw [u5]
    rw [jiv_n (t29 u4.1), jiv_n (t29 u4.1), v1, jb2_some]
    have e3 := (e2.tr u3).tr (v2.mono fun _ _ => P2_Q)
    show ∃ N, _ = some (match (if pb t p1 = 256 then Sum.inr f else Sum.inl (sk t p1) : Sum Nat Fm) with
      | .inl w => nI w
      | .inr _ => -1, N) ∧ Ey PQ M N ∧ match (if pb t p1 = 256 then Sum.inr f else Sum.inl (sk t p1) : Sum Nat Fm) with
      | .inl w => w < 2 ^ 31
      | .inr f => rI N 32 1 = nI (sz f) ∧ Nx (rI N 33) 0 0 f
    by_cases h256 : pb t p1 = 256
    · rw [if_pos ((pbI_m1 ht).mpr (hpb.trans h256)), if_pos rfl, if_pos h256]
      show ∃ N, ((gI 7 V 29 3).bind fun x7 => rt x7 V) = _ ∧ _
      rw [gI_n (t29 v3.1), Option.bind_some, v3.2.2.2.2.2.1]
      exact ⟨V, rfl, e3, v3.2.2.2.2.1, Nx_congr f 0 0 0 (fun i hi => ey_rI v2 (by unfold P2; omega)) u7⟩
    · obtain ⟨O, o1, o2, o3⟩ := al_fail ht (by omega) v3
      rw [if_neg (fun z => h256 (hpb.symm.trans ((pbI_m1 ht).mp z))), jiv_n (t29 v3.1), o1, jb2_some, if_neg h256]
      show ∃ N, ((gI 7 O 29 3).bind fun x7 => rt x7 O) = _ ∧ _
      rw [gI_n (t29 o3.1), Option.bind_some, o3.2.2.1, u5]
      exact ⟨O, rfl, e3.tr (o2.mono fun _ _ h => P23_Q (P3_23 h)), by rw [← u5]; exact o3.2.2.2.1⟩
/-- what the class's read changes -/
def CRd (c k : Nat) : Prop := CK c k ∨ PQ c k ∨ (c = 29 ∧ k = 1)
/-- how the room grows -/
def Rm (S S' : List Fm) (M N : jM) : Prop := jsl N + 2000 * S.length ≤ jsl M + 2000 * S'.length
theorem Lo_ey {P C : Nat → Nat → Prop} {M N : jM} (e : Ey P M N) (h : ∀ c k, P c k → C c k) : Lo C M N := ⟨fun c _ => ey_tg e c, fun c k _ _ => ey_rR e c k, fun c k _ hc => ey_rI e (fun z => hc (h c k z))⟩
theorem Lo.tr {C : Nat → Nat → Prop} {M N O : jM} (h : Lo C M N) (k : Lo C N O) : Lo C M O := ⟨fun c hc => (k.1 c hc).trans (h.1 c hc), fun c i hc h38 => (k.2.1 c i hc h38).trans (h.2.1 c i hc h38), fun c i hc hx => (k.2.2 c i hc hx).trans (h.2.2 c i hc hx)⟩
theorem Lo.mono {C D : Nat → Nat → Prop} {M N : jM} (h : Lo C M N) (hd : ∀ c k, C c k → D c k) : Lo D M N := ⟨h.1, h.2.1, fun c k hc hx => h.2.2 c k hc (fun z => hx (hd c k z))⟩
theorem Rm_ey {P : Nat → Nat → Prop} {N : jM} (e : Ey P M N) : Rm S S M N := by
  unfold Rm jsl
  rw [e.1]
  exact Nat.le_refl _
theorem Rm_keep {f : Fm} {N : jM} (h : N.1 = M.1 ++ [(100, sz f), (6, 0), (101, (tx f).length)]) (h1 : sz f ≤ 600) (h2 : (tx f).length ≤ 1299) : Rm S (S ++ [f]) M N := by
  unfold Rm jsl
  have j1 : jsz (100, sz f) = sz f := rfl
  have j2 : jsz (6, 0) ≤ 4 := by decide
  have j3 : jsz (101, (tx f).length) = (tx f).length := rfl
  rw [h]
  simp only [List.map_append, List.sum_append, List.map_cons, List.map_nil, List.sum_cons, List.sum_nil, List.length_append, List.length_cons, List.length_nil, j1, j3]
  omega
theorem jsl_ey {P : Nat → Nat → Prop} {M N : jM} (e : Ey P M N) : jsl N = jsl M := by unfold jsl; rw [e.1]
theorem x_read (ht : VT t) (hS : SV S) (h : Sh M) (x : XT t M) (xs : XS S M) : ∃ N, f_X11_read 1 M = some ((sp_read t S).1, N) ∧ Sh N ∧ XT (sp_read t S).2.1 N ∧ XS (sp_read t S).2.2 N ∧ Lo CRd M N ∧ Rm S (sp_read t S).2.2 M N := by
  have h800 := ht.1
  have hS20 := hS.1
  unfold f_X11_read sp_read
  have e0 : Ey PQ M (wI M 32 1 (nI 0)) := ey_wI Ey.rf (Or.inr (Or.inr (Or.inl ⟨rfl, rfl⟩)))
  have h0 := Sh_ey e0 h
  obtain ⟨N, n1, n2, n3⟩ := x_parse ht h0 (XT_q e0 x) (by rw [rI_wI, if_pos ⟨rfl, rfl⟩])
  have e1 := e0.tr n2
  have hN := Sh_ey e1 h
  have xN := XT_q e1 x
  rw [q1_5 h, Option.bind_some, jiv_n (t32 h), x_nclear h, jb2_some, q1_4 h0, Option.bind_some, q1_5 h0, Option.bind_some, jiv_n (t29 h0), n1, jb2_some, q1_4 hN, Option.bind_some, jiv_n (t29 hN)]
  have ecut : f_X8_cutTo 29 (nI 0) N = some ((), wI N 29 1 (nI 0)) := by
    unfold f_X8_cutTo
    rw [gI_n (t29 hN), Option.bind_some, xN.1, jmn_n (by omega) (by omega), Nat.zero_min, pI_n (t29 hN), Option.bind_some]
    rfl
  rw [ecut, jb2_some]
  have e2 : Ey (fun c k => PQ c k ∨ (c = 29 ∧ k = 1)) M (wI N 29 1 (nI 0)) := ey_wI (e1.mono fun _ _ => Or.inl) (Or.inr ⟨rfl, rfl⟩)
  have hO := Sh_ey e2 h
  have xO : XT (0, t.2) (wI N 29 1 (nI 0)) := ⟨by rw [rI_wI, if_pos ⟨rfl, rfl⟩], fun k hk => absurd hk (Nat.not_lt_zero _)⟩
  have xsO : XS S (wI N 29 1 (nI 0)) := XS_same e2.1 (fun c k => ey_rR e2 c k) (ey_rI e2 (by unfold PQ; omega)) (fun c k hc => ey_rI e2 (by unfold PQ; omega)) xs
  have lO : Lo CRd M (wI N 29 1 (nI 0)) := Lo_ey e2 (fun c k => Or.inr)
  cases hx : pText t with
  | inl w =>
    rw [hx] at n3
    show ∃ N', (if nI w < 0 then _ else rt ((-20 : Int32) - nI w) (wI N 29 1 (nI 0))) = _ ∧ _
    rw [if_neg (nI_pos n3)]
    exact ⟨_, rfl, hO, xO, xsO, lO, Rm_ey e2⟩
  | inr f =>
    obtain ⟨a1, a2, a3, a4⟩ := pText_ok hx
    rw [hx] at n3
    obtain ⟨n3, n4⟩ := n3
    dsimp only
    have hc : rI (wI N 29 1 (nI 0)) 32 1 = nI (sz f) := by rw [rI_wI, if_neg (by omega)]; exact n3
    have hNx : Nx (rI (wI N 29 1 (nI 0)) 33) 0 0 f := Nx_congr f 0 0 0 (fun i hi => by rw [rI_wI, if_neg (by omega)]) n4
    rw [if_pos (show (-1 : Int32) < 0 by decide), q1_5 hO, Option.bind_some, jiv_n (t32 hO), x_ncount hO hc, jb2_some]
    by_cases h6 : sz f ≤ 600
    · rw [if_pos (nI_le h6 (by decide)), jiv_n (t1 hO)]
      by_cases hl : S.length < 20
      · rw [if_pos ⟨h6, hl⟩]
        obtain ⟨U, u1, u2, u3, u4, u5⟩ := x_keep hO xsO hl a1 h6 (by omega) (by omega) hc hNx
        rw [u1, jb2_some]
        have r1 : Rm S (S ++ [f]) (wI N 29 1 (nI 0)) U := Rm_keep u5 h6 (by omega)
        exact ⟨U, rfl, u2, ⟨by rw [u4.2.2 29 1 (by decide) (by unfold CK; omega)]; exact xO.1, fun k hk => absurd hk (Nat.not_lt_zero _)⟩, u3, lO.tr (u4.mono fun _ _ => Or.inl), by unfold Rm at r1 ⊢; rw [jsl_ey e2] at r1; exact r1⟩
      · rw [if_neg (by omega)]
        unfold f_X11_keepSentence
        rw [gI_n (t1 hO), Option.bind_some, xsO.1, if_neg (nI_pos (by omega)), q1_8 hO, Option.bind_some, ln_n (t38 hO) (by decide) (by decide), Option.bind_some, if_neg (nI_nlt (by omega) (by omega))]
        exact ⟨_, rfl, hO, xO, xsO, lO, Rm_ey e2⟩
    · rw [if_neg (nI_ge (by omega) (by omega)), if_neg (by omega)]
      exact ⟨_, rfl, hO, xO, xsO, lO, Rm_ey e2⟩
end XH
