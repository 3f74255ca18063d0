/-! PARTINGS: the class's call. -/
noncomputable def sp_part (ws : Nat → Wd) (S : List Fm) (x y : Int32) : Int32 × List Fm := match wok ws x with
  | none => (-1, S)
  | some i => match wok ws y with
    | none => (-1, S)
    | some j => if kw (ws i) (ws j) 3 [] = true then (-9, S) else if S.length < 20 then (nI S.length, S ++ [ptA 3 (ws i) (ws j) []]) else (-4, S)
theorem sp_part_sv {ws : Nat → Wd} {S : List Fm} (hf : WF ws) (hS : SV S) (x y : Int32) : SV (sp_part ws S x y).2 := by
  unfold sp_part
  cases hc : wok ws x with
  | none => exact hS
  | some i =>
    cases hd : wok ws y with
    | none => exact hS
    | some j =>
      obtain ⟨hi, -, h0⟩ := wok_some hc
      obtain ⟨hj, -, h02⟩ := wok_some hd
      dsimp only
      split
      · exact hS
      · split
        · rename_i hl
          obtain ⟨a1, a2, a3, a4⟩ := ptA_ok 3 (ws i) (ws j) [] (hf i) (hf j) h0 h02 (by decide)
          exact SV_app hS hl a1 (Nat.le_trans a2 (by decide)) (Nat.le_trans a4 (by decide)) (Nat.le_trans (a3 false 0) (by decide))
        · exact hS
/-- what the class's part changes -/
def CPt (c k : Nat) : Prop := CK c k ∨ (6 ≤ c ∧ c ≤ 16) ∨ c = 32 ∨ c = 33
theorem Lo_ex {C : Nat → Prop} {D : Nat → Nat → Prop} {M N : jM} (e : Ex C M N) (h : ∀ c k, C c → D c k) : Lo D M N := Lo_ey e.y h
theorem jsl_ex {C : Nat → Prop} {M N : jM} (e : Ex C M N) : jsl N = jsl M := by unfold jsl; rw [e.1]
section XQ6
variable {M : jM} {ws : Nat → Wd} {S : List Fm}
theorem x_part_ (h : Sh M) (a : XA ws M) (hf : WF ws) (hS : SV S) (xs : XS S M) (x y : Int32) : ∃ N, f_X11_part 1 x y M = some ((sp_part ws S x y).1, N) ∧ Sh N ∧ XS (sp_part ws S x y).2 N ∧ Lo CPt M N ∧ Rm S (sp_part ws S x y).2 M N := by
  have hS20 := hS.1
  have same : ∃ N, (some ((-1 : Int32), M) : jO Int32) = some (-1, N) ∧ Sh N ∧ XS S N ∧ Lo CPt M N ∧ Rm S S M N := ⟨M, rfl, h, xs, Lo_ey Ey.rf (P := fun _ _ => False) (fun _ _ z => absurd z id), Nat.le_refl _⟩
  unfold f_X11_part sp_part
  rw [jiv_n (t1 h), x_worldOf h a hf]
  simp only [jb2_some]
  rw [jiv_n (t1 h), x_worldOf h a hf]
  simp only [jb2_some]
  cases hc : wok ws x with
  | none => exact same
  | some i =>
    obtain ⟨hi, rfl, h0⟩ := wok_some hc
    cases hd : wok ws y with
    | none => exact same
    | some j =>
      obtain ⟨hj, rfl, h02⟩ := wok_some hd
      simp only [Option.map_some, jnl]
      obtain ⟨N, p1, p2, p3, p4⟩ := x_mbegin (a := 6) (b := 47 + 3 * i) (c := 47 + 3 * j) (hf i) (hf j) (isM6 h) (a i hi) (a j hj) (by omega) (by omega)
      have hN := Sh_ex p4 h
      obtain ⟨N2, s1, s2⟩ := x_keeperWins (a := 6) (hf i) (hf j) jR0 3 (by have := jR0_eq; omega) [] N (by simp) rfl rv_nil p2 p3
      have e2 : Ex (fun c => 6 ≤ c ∧ c ≤ 16) M N2 := (p4.mono (fun c hc => by unfold cM at hc; omega)).tr (s2.2.2.1.mono (fun c hc => by unfold cK at hc; omega))
      have h2 := Sh_ex e2 h
      have xs2 : XS S N2 := XS_same e2.1 (fun c k => ex_rR e2 c k) (ex_rI e2 (by omega) 9) (fun c k hc => ex_rI e2 (by omega) k) xs
      rw [q1_2 h, Option.bind_some, jiv_n (t6 h), p1, jb2_some, q1_2 hN, Option.bind_some, jiv_n (t6 hN), s1, jb2_some]
      cases hk : kw (ws i) (ws j) 3 [] with
      | true =>
        rw [if_neg (show ¬ bI true = 0 by decide), if_pos rfl]
        exact ⟨N2, rfl, h2, xs2, Lo_ex e2 (fun c k hc => Or.inr (Or.inl hc)), Rm_ey e2.y⟩
      | false =>
        rw [if_pos (show bI false = 0 from rfl), if_neg (show ¬ (false = true) by decide), gI_n (t1 h2), Option.bind_some, xs2.1]
        by_cases hl : S.length < 20
        · have e3 : Ey PNo N2 (wI N2 32 1 (nI 0)) := ey_wI Ey.rf (Or.inl ⟨rfl, rfl⟩)
          have h3 := Sh_ey e3 h2
          obtain ⟨Q, q1, q3, q4, q5, q6, q7, q8⟩ := x_alikeP (hf i) (hf j) h0 h02 3 jR0 (by rw [jR0_eq]; decide) (by decide) 0 [] 0 (wI N2 32 1 (nI 0)) (by decide) rfl h3 rv_nil rfl hk (MS_3x (PNo_x e3) s2.1) (MR_3x (PNo_x e3) s2.2.1) (by rw [rI_wI, if_pos ⟨rfl, rfl⟩]) (by decide)
          have e4 : Ex (fun c => (6 ≤ c ∧ c ≤ 16) ∨ c = 32 ∨ c = 33) M Q := ((e2.mono fun c hc => Or.inl hc).tr ((PNo_x e3).mono fun c hc => Or.inr hc)).tr (q3.mono fun c hc => by
            have hc : c = 6 ∨ c = 15 ∨ c = 16 ∨ c = 32 ∨ c = 33 := hc
            show (6 ≤ c ∧ c ≤ 16) ∨ c = 32 ∨ c = 33
            omega)
          have h4 := Sh_ex e4 h
          have xs4 : XS S Q := XS_same e4.1 (fun c k => ex_rR e4 c k) (ex_rI e4 (by omega) 9) (fun c k hc => ex_rI e4 (by omega) k) xs
          have q7' : Nx (rI Q 33) 0 0 (ptA 3 (ws i) (ws j) []) := q7
          have q6' : rI Q 32 1 = nI (sz (ptA 3 (ws i) (ws j) [])) := by
            have z : rI Q 32 1 = nI (0 + sz (ptA 3 (ws i) (ws j) [])) := q6
            rw [Nat.zero_add] at z
            exact z
          obtain ⟨a1, a2, a3, a4⟩ := ptA_ok 3 (ws i) (ws j) [] (hf i) (hf j) h0 h02 (by decide)
          have l6 : sz (ptA 3 (ws i) (ws j) []) ≤ 600 := Nat.le_trans a2 (by decide)
          have l13 : (tx (ptA 3 (ws i) (ws j) [])).length ≤ 1299 := Nat.le_trans (a3 false 0) (by decide)
          obtain ⟨U, u1, u2, u3, u4, u5⟩ := x_keep h4 xs4 hl a1 l6 (Nat.le_trans a4 (by decide)) l13 q6' q7'
          rw [if_pos (nI_lt hl (by decide)), q1_5 h2, Option.bind_some, jiv_n (t32 h2), x_nclear h2, jb2_some, q1_2 h3, Option.bind_some, q1_5 h3, Option.bind_some]
          have q1' : f_X5_partAlike jR0 6 32 (nI 0) (wI N2 32 1 (nI 0)) = some ((), Q) := q1
          rw [q1', jb2_some, jiv_n (t1 h4), u1, jb2_some, if_pos hl]
          have r1 : Rm S (S ++ [ptA 3 (ws i) (ws j) []]) Q U := Rm_keep u5 l6 l13
          refine ⟨U, rfl, u2, u3, (Lo_ex e4 (fun c k hc => Or.inr hc)).tr (u4.mono fun _ _ => Or.inl), ?_⟩
          unfold Rm at r1 ⊢
          rw [jsl_ex e4] at r1
          exact r1
        · rw [if_neg (nI_nlt (by omega) (by omega)), if_neg hl]
          exact ⟨N2, rfl, h2, xs2, Lo_ex e2 (fun c k hc => Or.inr (Or.inl hc)), Rm_ey e2.y⟩
end XQ6
