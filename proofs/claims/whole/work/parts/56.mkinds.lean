section F2
variable {M : jM} {ws : Nat → Wd}
theorem m1neg : ¬ (0 : Int32) ≤ (-1 : Int32) := by decide
theorem nkind_68 (hf : WF ws) {i j k : Nat} (hi : i < 6) (hj : j < 6) (hk : k ≤ 2) {k53 : Nat → Int32 → Int32 → Int32 → Int32 → Int32 → jM → jO Int32} {q c : Nat} {ex : Nat → Nat} (hq : q < (ws i).1 + (ws j).1) (hc : c ≤ q) (hex : ∀ e, e < c → ex e < (ws i).1 + (ws j).1) : ∀ (n t : Nat) (M : jM), Sh M → MA ws M → (∀ e, e < c → rI M 94 e = nI (ex e)) → t ≤ c → c - t + 1 < n →
    ∃ N, l_X12_kinds_68 k53 n 65 (nI i) (nI j) (nI k) (nI c) (nI q) (-1) (nI t) M = j_X12_kinds_201 k53 65 (nI i) (nI j) (nI k) (nI c) (nI q) (oI (ff (fun e => Lk (ws i) (ws j) k (ex e) q) t (c - t)) (-1)) N ∧ Ey PG M N := by
  have h6 := (hf i).1
  have h62 := (hf j).1
  intro n
  induction n with
  | zero => intro t M _ _ _ _ h; omega
  | succ n ih =>
    intro t M h a hm ht hn
    show ∃ N, b_X12_kinds_68 k53 (l_X12_kinds_68 k53 n) 65 (nI i) (nI j) (nI k) (nI c) (nI q) (-1) (nI t) M = _ ∧ _
    unfold b_X12_kinds_68
    by_cases htc : c ≤ t
    · rw [if_pos (nI_le htc (by omega)), show c - t = 0 by omega]
      exact ⟨M, rfl, Ey.rf⟩
    · have he := hex t (by omega)
      rw [if_neg (nI_ge (by omega) (by omega)), if_neg m1neg, q65_50 h, Option.bind_some, ldI_n (t94 h) (by omega) (by decide), Option.bind_some, hm t (by omega), q65_0 h, Option.bind_some, m_things h a (show i < 8 by omega), Option.bind_some]
      -- what the call of keeps says goes on
      have tail : ∀ (b : Bool) (N : jM), Sh N → MA ws N → Ey PG M N → Lk (ws i) (ws j) k (ex t) q = b → ∃ N2, (if bI b = 0 then j_X12_kinds_193 k53 (l_X12_kinds_68 k53 n) 65 (nI i) (nI j) (nI k) (nI c) (nI q) (nI t) (-1) N else j_X12_kinds_193 k53 (l_X12_kinds_68 k53 n) 65 (nI i) (nI j) (nI k) (nI c) (nI q) (nI t) (nI t) N) = j_X12_kinds_201 k53 65 (nI i) (nI j) (nI k) (nI c) (nI q) (oI (ff (fun e => Lk (ws i) (ws j) k (ex e) q) t (c - t)) (-1)) N2 ∧ Ey PG M N2 := by
        intro b N hN aN eN hb
        rw [show c - t = (c - (t + 1)) + 1 by omega]
        unfold ff j_X12_kinds_193
        rw [hb]
        cases b with
        | false =>
          rw [if_pos (show bI false = 0 from rfl), nI_add]
          obtain ⟨N2, s1, s2⟩ := ih (t + 1) N hN aN (fun e he => by rw [ey_rI eN (by unfold PG; omega)]; exact hm e he) (by omega) (by omega)
          exact ⟨N2, s1, eN.tr s2⟩
        | true =>
          rw [if_neg (show ¬ bI true = 0 by decide), nI_add]
          obtain ⟨m, rfl⟩ : ∃ m, n = m + 1 := ⟨n - 1, by omega⟩
          refine ⟨N, ?_, eN⟩
          show b_X12_kinds_68 k53 (l_X12_kinds_68 k53 m) 65 (nI i) (nI j) (nI k) (nI c) (nI q) (nI t) (nI (t + 1)) N = _
          unfold b_X12_kinds_68
          by_cases h9 : c ≤ t + 1
          · rw [if_pos (nI_le h9 (by omega))]; rfl
          · rw [if_neg (nI_ge (by omega) (by omega)), if_pos (nI_pos' (by omega))]; rfl
      -- begin, add, keeps
      have core : ∀ (c1 d1 x y : Nat), c1 < 6 → d1 < 6 → ws c1 = itW (ws i) (ws j) (ex t) → ws d1 = itW (ws i) (ws j) q → x = itT (ws i) (ex t) → y = itT (ws i) q → ∀ N1, GG ws c1 d1 [] N1 → Ey PG M N1 → ∃ N2, j_X12_kinds_176 k53 (l_X12_kinds_68 k53 n) 65 (nI i) (nI j) (nI k) (nI c) (nI q) (nI t) 65 (nI x) (nI y) N1 = j_X12_kinds_201 k53 65 (nI i) (nI j) (nI k) (nI c) (nI q) (oI (ff (fun e => Lk (ws i) (ws j) k (ex e) q) t (c - t)) (-1)) N2 ∧ Ey PG M N2 := by
        intro c1 d1 x y hc1 hd1 ec ed hx hy N1 g1 e1
        have t1 : x < (ws c1).1 := by rw [ec, hx]; exact itT_lt he
        have t2 : y < (ws d1).1 := by rw [ed, hy]; exact itT_lt hq
        unfold j_X12_kinds_176
        obtain ⟨N2, p1, p2, p3⟩ := n_add g1 (by decide) x y
        rw [jiv_n (t65 g1.1), p1, jb2_some, jiv_n (t65 p2.1)]
        obtain ⟨N3, s1, s2, s3⟩ := n_keeps hf (show c1 < 8 by omega) (show d1 < 8 by omega) (rv_cons rv_nil t1 t2) (show k + [(x, y)].length ≤ 5 by simp; omega) (by omega) p2
        rw [s1, jb2_some]
        refine tail _ N3 s2.1 s2.2.1 (e1.tr (p3.tr s3)) ?_
        unfold Lk
        rw [← ec, ← ed, ← hx, ← hy]
      have mid : ∀ (c1 d1 x : Nat), c1 < 6 → d1 < 6 → ws c1 = itW (ws i) (ws j) (ex t) → ws d1 = itW (ws i) (ws j) q → x = itT (ws i) (ex t) → ∀ N1, GG ws c1 d1 [] N1 → Ey PG M N1 → ∃ N2, j_X12_kinds_151 k53 (l_X12_kinds_68 k53 n) 65 (nI i) (nI j) (nI k) (nI c) (nI q) (nI t) 65 (nI x) N1 = j_X12_kinds_201 k53 65 (nI i) (nI j) (nI k) (nI c) (nI q) (oI (ff (fun e => Lk (ws i) (ws j) k (ex e) q) t (c - t)) (-1)) N2 ∧ Ey PG M N2 := by
        intro c1 d1 x hc1 hd1 ec ed hx N1 g1 e1
        unfold j_X12_kinds_151
        rw [q65_0 g1.1, Option.bind_some, m_things g1.1 g1.2.1 (show i < 8 by omega), Option.bind_some]
        by_cases q1 : (ws i).1 ≤ q
        · rw [if_pos (nI_le q1 (by omega)), Option.bind_some, m_things g1.1 g1.2.1 (show i < 8 by omega), Option.bind_some, pk_sub q1]
          exact core c1 d1 x _ hc1 hd1 ec ed hx (by unfold itT; rw [if_neg (by omega)]) N1 g1 e1
        · rw [if_neg (nI_ge (by omega) (by omega))]
          exact core c1 d1 x _ hc1 hd1 ec ed hx (by unfold itT; rw [if_pos (by omega)]) N1 g1 e1
      have top : ∀ (c1 d1 : Nat), c1 < 6 → d1 < 6 → ws c1 = itW (ws i) (ws j) (ex t) → ws d1 = itW (ws i) (ws j) q → ∃ N2, j_X12_kinds_122 k53 (l_X12_kinds_68 k53 n) 65 (nI i) (nI j) (nI k) (nI c) (nI q) (nI t) (nI (ex t)) 65 (nI c1) (nI d1) M = j_X12_kinds_201 k53 65 (nI i) (nI j) (nI k) (nI c) (nI q) (oI (ff (fun e => Lk (ws i) (ws j) k (ex e) q) t (c - t)) (-1)) N2 ∧ Ey PG M N2 := by
        intro c1 d1 hc1 hd1 ec ed
        unfold j_X12_kinds_122
        obtain ⟨N1, p1, p2, p3⟩ := n_begin (w1 := c1) (w2 := d1) h a
        rw [jiv_n (t65 h), p1, jb2_some, q65_0 p2.1, Option.bind_some, m_things p2.1 p2.2.1 (show i < 8 by omega), Option.bind_some]
        by_cases e1 : (ws i).1 ≤ ex t
        · rw [if_pos (nI_le e1 (by omega)), Option.bind_some, m_things p2.1 p2.2.1 (show i < 8 by omega), Option.bind_some, pk_sub e1]
          exact mid c1 d1 _ hc1 hd1 ec ed (by unfold itT; rw [if_neg (by omega)]) N1 p2 p3
        · rw [if_neg (nI_ge (by omega) (by omega))]
          exact mid c1 d1 _ hc1 hd1 ec ed (by unfold itT; rw [if_pos (by omega)]) N1 p2 p3
      have sel : ∀ c1, c1 < 6 → ws c1 = itW (ws i) (ws j) (ex t) → ∃ N2, j_X12_kinds_106 k53 (l_X12_kinds_68 k53 n) 65 (nI i) (nI j) (nI k) (nI c) (nI q) (nI t) (nI (ex t)) 65 (nI c1) M = j_X12_kinds_201 k53 65 (nI i) (nI j) (nI k) (nI c) (nI q) (oI (ff (fun e => Lk (ws i) (ws j) k (ex e) q) t (c - t)) (-1)) N2 ∧ Ey PG M N2 := by
        intro c1 hc1 ec
        unfold j_X12_kinds_106
        rw [q65_0 h, Option.bind_some, m_things h a (show i < 8 by omega), Option.bind_some]
        by_cases q1 : (ws i).1 ≤ q
        · rw [if_pos (nI_le q1 (by omega))]
          exact top c1 j hc1 hj ec (by unfold itW; rw [if_neg (by omega)])
        · rw [if_neg (nI_ge (by omega) (by omega))]
          exact top c1 i hc1 hi ec (by unfold itW; rw [if_pos (by omega)])
      by_cases e1 : (ws i).1 ≤ ex t
      · rw [if_pos (nI_le e1 (by omega))]
        exact sel j hj (by unfold itW; rw [if_neg (by omega)])
      · rw [if_neg (nI_ge (by omega) (by omega))]
        exact sel i hi (by unfold itW; rw [if_pos (by omega)])
theorem nkind_53 (hf : WF ws) {i j k : Nat} (hi : i < 6) (hj : j < 6) (hk : k ≤ 2) : ∀ (n q : Nat) (M : jM), Sh M → MA ws M → rI M 65 48 = nI ((ws i).1 + (ws j).1) → (∀ e, e < (cl (Lk (ws i) (ws j) k) q).1 → rI M 94 e = nI ((cl (Lk (ws i) (ws j) k) q).2.1 e)) → (∀ e, e < q → rI M 93 e = nI ((cl (Lk (ws i) (ws j) k) q).2.2 e)) → q ≤ (ws i).1 + (ws j).1 → (ws i).1 + (ws j).1 - q < n →
    ∃ N, l_X12_kinds_53 n 65 (nI i) (nI j) (nI k) (nI (cl (Lk (ws i) (ws j) k) q).1) (nI q) M = some (nI (cl (Lk (ws i) (ws j) k) ((ws i).1 + (ws j).1)).1, N) ∧ MF ((ws i).1 + (ws j).1, (cl (Lk (ws i) (ws j) k) ((ws i).1 + (ws j).1)).2.2) N ∧ Ey PF M N := by
  have h6 := (hf i).1
  have h62 := (hf j).1
  obtain ⟨n0, hn0⟩ := jF_is
  intro n
  induction n with
  | zero => intro t M _ _ _ _ _ _ h; omega
  | succ n ih =>
    intro q M h a hz hm hm2 hq hn
    have hcl := cl_le (Lk (ws i) (ws j) k) q
    show ∃ N, b_X12_kinds_53 (l_X12_kinds_53 n) 65 (nI i) (nI j) (nI k) (nI (cl (Lk (ws i) (ws j) k) q).1) (nI q) M = _ ∧ _
    unfold b_X12_kinds_53
    rw [gI_n (t65 h), Option.bind_some, hz]
    by_cases hqn : (ws i).1 + (ws j).1 ≤ q
    · have e : q = (ws i).1 + (ws j).1 := by omega
      rw [if_pos (nI_le hqn (by omega))]
      subst e
      exact ⟨M, rfl, ⟨hz, hm2⟩, Ey.rf⟩
    · rw [if_neg (nI_ge (by omega) (by omega))]
      obtain ⟨N, s1, s2⟩ := nkind_68 hf hi hj hk (k53 := l_X12_kinds_53 n) (q := q) (c := (cl (Lk (ws i) (ws j) k) q).1) (ex := (cl (Lk (ws i) (ws j) k) q).2.1) (by omega) hcl.1 (fun e he => by have := hcl.2.1 e he; omega) jF0 0 M h a hm (Nat.zero_le _) (by omega)
      rw [s1, Nat.sub_zero]
      have hN := Sh_ey s2 h
      have aN := MA_ey s2 a (fun c i hc => by unfold PG; omega)
      have zN : rI N 65 48 = nI ((ws i).1 + (ws j).1) := by rw [ey_rI s2 (by unfold PG; omega)]; exact hz
      have mN : ∀ e, e < (cl (Lk (ws i) (ws j) k) q).1 → rI N 94 e = nI ((cl (Lk (ws i) (ws j) k) q).2.1 e) := fun e he => by rw [ey_rI s2 (by unfold PG; omega)]; exact hm e he
      have m2N : ∀ e, e < q → rI N 93 e = nI ((cl (Lk (ws i) (ws j) k) q).2.2 e) := fun e he => by rw [ey_rI s2 (by unfold PG; omega)]; exact hm2 e he
      have eN : Ey PF M N := s2.mono (fun c i hc => by unfold PF; exact Or.inr (Or.inr (Or.inr hc)))
      have ih' := ih (q + 1)
      unfold j_X12_kinds_201 j_X12_kinds_222
      simp only [cl] at ih'
      cases hff : ff (fun e => Lk (ws i) (ws j) k ((cl (Lk (ws i) (ws j) k) q).2.1 e) q) 0 (cl (Lk (ws i) (ws j) k) q).1 with
      | none =>
        rw [hff] at ih'
        simp only [Option.isNone_none, if_true, Option.getD_none] at ih'
        rw [if_neg (show ¬ (0 : Int32) ≤ oI none (-1) by decide), q65_50 hN, Option.bind_some, stI_n (t94 hN) (by omega) (by decide), Option.bind_some]
        have e1 : Ey (fun c _ => c = 94 ∨ c = 93) N (wI N 94 (cl (Lk (ws i) (ws j) k) q).1 (nI q)) := ey_wI Ey.rf (Or.inl rfl)
        rw [q65_49 (Sh_ey e1 hN), Option.bind_some, stI_n (t93 (Sh_ey e1 hN)) (by omega) (by decide), Option.bind_some, nI_add, nI_add]
        have e2 := ey_wI (a := 93) (k := q) (v := nI (cl (Lk (ws i) (ws j) k) q).1) e1 (Or.inr rfl)
        obtain ⟨N2, v1, v2, v3⟩ := ih' _ (Sh_ey e2 hN) (MA_ey e2 aN (fun c i hc => by omega)) (by rw [ey_rI e2 (by omega)]; exact zN) (fun e he => by
          simp only [rI_wI, up1]
          rw [if_neg (by omega)]
          by_cases hee : e = (cl (Lk (ws i) (ws j) k) q).1
          · rw [if_pos ⟨trivial, hee⟩, if_pos hee]
          · rw [if_neg (by omega), if_neg hee]; exact mN e (by omega)) (fun e he => by
          simp only [rI_wI, up1]
          by_cases hee : e = q
          · rw [if_pos ⟨trivial, hee⟩, if_pos hee]
          · rw [if_neg (by omega), if_neg (by omega), if_neg hee]; exact m2N e (by omega)) (by omega) (by omega)
        exact ⟨N2, v1, v2, eN.tr ((e2.mono (fun c i hc => by unfold PF; omega)).tr v3)⟩
      | some t =>
        have htc := ff_some hff
        rw [hff] at ih'
        simp only [Option.isNone_some, Bool.false_eq_true, if_false, Option.getD_some] at ih'
        rw [if_pos (show (0 : Int32) ≤ oI (some t) (-1) from (n9 t (by omega)).2.2), q65_49 hN, Option.bind_some, stI_n (t93 hN) (by omega) (by decide), Option.bind_some, nI_add]
        have e2 : Ey (fun c _ => c = 94 ∨ c = 93) N (wI N 93 q (oI (some t) (-1))) := ey_wI Ey.rf (Or.inr rfl)
        obtain ⟨N2, v1, v2, v3⟩ := ih' _ (Sh_ey e2 hN) (MA_ey e2 aN (fun c i hc => by omega)) (by rw [ey_rI e2 (by omega)]; exact zN) (fun e he => by rw [rI_wI, if_neg (by omega)]; exact mN e he) (fun e he => by
          simp only [rI_wI, up1]
          by_cases hee : e = q
          · rw [if_pos ⟨trivial, hee⟩, if_pos hee]; rfl
          · rw [if_neg (by omega), if_neg hee]; exact m2N e (by omega)) (by omega) (by omega)
        exact ⟨N2, v1, v2, eN.tr ((e2.mono (fun c i hc => by unfold PF; omega)).tr v3)⟩
theorem m_kinds (h : Sh M) (a : MA ws M) (hf : WF ws) {d : Kd} (f : MF d M) (x y k : Int32) : ∃ N, f_X12_kinds 65 x y k M = some ((sp_kinds ws d x y k).1, N) ∧ MF (sp_kinds ws d x y k).2 N ∧ Ey PF M N := by
  unfold f_X12_kinds sp_kinds
  rw [jiv_n (t65 h), m_noWorld h a hf, jb2_some]
  cases hc : wok ws x with
  | none => exact ⟨M, rfl, f, Ey.rf⟩
  | some i =>
    obtain ⟨hi, rfl, h0⟩ := wok_some hc
    simp only [Option.isNone_some, bI_z, if_true]
    rw [jiv_n (t65 h), m_noWorld h a hf, jb2_some]
    cases hd : wok ws y with
    | none => exact ⟨M, rfl, f, Ey.rf⟩
    | some j =>
      obtain ⟨hj, rfl, h02⟩ := wok_some hd
      simp only [Option.isNone_some, bI_z, if_true]
      rw [show nI 2 = nI (3 - 1) from rfl, m_in0 (by decide) (by decide), jb2_some]
      cases hk : ixo k 3 with
      | none => exact ⟨M, rfl, f, Ey.rf⟩
      | some q =>
        obtain ⟨hq, rfl⟩ := (ixo_some (by decide)).mp hk
        have h6 := (hf i).1
        have h62 := (hf j).1
        obtain ⟨n0, hn0⟩ := jF_is
        rw [if_neg (show ¬ bI (some q).isSome = 0 by show ¬ bI true = 0; decide), q65_0 h, Option.bind_some, m_things h a (show i < 8 by omega), Option.bind_some, Option.bind_some, m_things h a (show j < 8 by omega), Option.bind_some, nI_add, pI_n (t65 h), Option.bind_some]
        have e1 : Ey (fun c i => c = 65 ∧ i = 48) M (wI M 65 48 (nI ((ws i).1 + (ws j).1))) := ey_wI Ey.rf ⟨rfl, rfl⟩
        obtain ⟨N, s1, s2, s3⟩ := nkind_53 hf hi hj (show q ≤ 2 by omega) jF0 0 _ (Sh_ey e1 h) (MA_ey e1 a (fun c i hc => by omega)) (by rw [rI_wI]; simp) (fun e he => absurd he (Nat.not_lt_zero e)) (fun e he => absurd he (Nat.not_lt_zero e)) (Nat.zero_le _) (by omega)
        exact ⟨N, s1, s2, (e1.mono (fun c i hc => by unfold PF; omega)).tr s3⟩
theorem m_kind (h : Sh M) {d : Kd} (hd : d.1 ≤ 12) (f : MF d M) (i : Int32) : f_X12_kind 65 i M = some (sp_kind d i, M) := by
  unfold f_X12_kind sp_kind
  rw [gI_n (t65 h), Option.bind_some, f.1]
  by_cases h0 : d.1 = 0
  · rw [h0, show nI 0 - nI 1 = (-1 : Int32) from rfl, m_in, jb2_some]
    have hn : ixo i 0 = none := by
      cases hx : ixo i 0 with
      | none => rfl
      | some j => obtain ⟨hj, -⟩ := (ixo_some (by decide)).mp hx; omega
    rw [hn]
    have hd2 : decide (¬ i < nI 0 ∧ ¬ (-1 : Int32) < i) = false := by
      apply decide_eq_false
      rintro ⟨p1, p2⟩
      obtain ⟨j, hj, rfl⟩ := nI_of (x := i) p1
      exact p2 (Int32.lt_of_lt_of_le (by decide) (nI_pos' hj))
    rw [hd2]; rfl
  · rw [pk_sub (by omega), m_in0 (by omega) (by omega), jb2_some]
    cases hi : ixo i d.1 with
    | none => rfl
    | some q =>
      obtain ⟨hq, rfl⟩ := (ixo_some (by omega)).mp hi
      rw [if_neg (show ¬ bI (some q).isSome = 0 by show ¬ bI true = 0; decide), q65_49 h, Option.bind_some, ldI_n (t93 h) (by omega) (by decide), Option.bind_some, f.2 q hq]; rfl
end F2
