/-! COLOURS: the reference's step. -/
def Ez (P : Nat → Nat → Prop) (M N : jM) : Prop := ∃ l, Ey P (lz M l) N
def PS (c k : Nat) : Prop := c = 94 ∨ c = 96 ∨ PG c k
def PT (c k : Nat) : Prop := c = 95 ∨ PS c k
section Z1
variable {P Q : Nat → Nat → Prop} {M N O : jM}
theorem Ez.of (h : Ey P M N) : Ez P M N := ⟨M.2.2.1, h⟩
theorem Ez.rf : Ez P M M := Ez.of Ey.rf
theorem Ez.tr (h : Ez P M N) (k : Ez P N O) : Ez P M O := by
  obtain ⟨l1, a1, a2, a3⟩ := h
  obtain ⟨l2, b1, b2, b3⟩ := k
  refine ⟨l2, b1.trans a1, ?_, fun c k hc => (b3 c k hc).trans (a3 c k hc)⟩
  rw [b2]
  show (l2, N.2.2.2) = (l2, M.2.2.2)
  rw [a2]
  rfl
theorem Ez.mono (h : Ez P M N) (hd : ∀ c k, P c k → Q c k) : Ez Q M N := by
  obtain ⟨l, q⟩ := h
  exact ⟨l, q.mono hd⟩
theorem ez_wI {a k : Nat} {v : Int32} (h : Ez P M N) (ha : P a k) : Ez P M (wI N a k v) := by
  obtain ⟨l, q⟩ := h
  exact ⟨l, ey_wI q ha⟩
theorem ez_rI (h : Ez P M N) {c k : Nat} (hc : ¬ P c k) : rI N c k = rI M c k := by
  obtain ⟨l, q⟩ := h
  exact ey_rI q hc
theorem Sh_ez (h : Ez P M N) (k : Sh M) : Sh N := by
  obtain ⟨l, q⟩ := h
  exact Sh_ey q (show Sh (lz M l) from k)
theorem MA_ez {ws : Nat → Wd} (h : Ez P M N) (k : MA ws M) (hc : ∀ c i, c = 66 ∨ c = 67 ∨ c = 68 → ¬ P c i) : MA ws N := by
  obtain ⟨l, q⟩ := h
  exact MA_ey q (show MA ws (lz M l) from k) hc
theorem LT_ez {b : Bool} {u v : Wd} {m : Nat} (h : Ez P M N) (l : LT b u v m M) (h0 : ¬ P 65 52) (h1 : ∀ c k, c = 97 ∨ c = 98 ∨ c = 99 → ¬ P c k) : LT b u v m N := by
  obtain ⟨z, q⟩ := h
  exact LT_ey q (show LT b u v m (lz M z) from l) h0 h1
theorem ez_el (h : El N0 M N) : Ez P M N := by
  obtain ⟨l, a1, a2, a3⟩ := h
  exact ⟨l, a1, a2, fun c k _ => by unfold rI; rw [a3 c id]⟩
end Z1
section Z2
variable {M0 : jM} {x y by' v4 : Int32} {St : Nat → Nat → Bool} {n : Nat}
theorem step_55 {k40 : Nat → Int32 → Int32 → Int32 → Int32 → Int32 → Int32 → jM → jO Int32} (hn : n ≤ 72) (hT : ∀ N, Ey PS M0 N → ∀ e q, e < n → q < n → ∃ N', (if v4 = 0 then f_X12_staysWith 65 x y by' (nI e) (nI q) N else f_X12_startsAlike 65 x y (nI e) (nI q) N) = some (bI (St e q), N') ∧ Ey PG N N')
    {q c : Nat} {ex : Nat → Nat} (hq : q < n) (hc : c ≤ q) (hex : ∀ e, e < c → ex e < n) : ∀ (f t : Nat) (M : jM), Sh M → Ey PS M0 M → (∀ e, e < c → rI M 94 e = nI (ex e)) → t ≤ c → c - t + 1 < f →
    ∃ N, l_X12_step_55 k40 f 65 x y by' v4 (nI c) (nI q) (-1) (nI t) M = j_X12_step_126 k40 65 x y by' v4 (nI c) (nI q) (oI (ff (fun e => St (ex e) q) t (c - t)) (-1)) N ∧ Ey PG M N := by
  intro f
  induction f with
  | zero => intro t M _ _ _ _ h; omega
  | succ f ih =>
    intro t M h z hm ht hf
    show ∃ N, b_X12_step_55 k40 (l_X12_step_55 k40 f) 65 x y by' v4 (nI c) (nI q) (-1) (nI t) M = _ ∧ _
    unfold b_X12_step_55
    by_cases htc : c ≤ t
    · rw [if_pos (nI_le htc (by omega)), show c - t = 0 by omega]
      exact ⟨M, rfl, Ey.rf⟩
    · have he := hex t (by omega)
      rw [if_neg (nI_ge (by omega) (by omega)), if_neg m1neg, q65_50 h, Option.bind_some, ldI_n (t94 h) (by omega) (by decide), Option.bind_some, hm t (by omega), jiv_n (t65 h), Option.bind_some (a := 94), ldI_n (i := t) (t94 h) (by omega) (by decide), Option.bind_some (a := rI M 94 t), hm t (by omega), jiv_n (t65 h)]
      have tail : ∀ (b : Bool) (N : jM), Ey PG M N → St (ex t) q = b → ∃ N2, (if bI b = 0 then j_X12_step_117 k40 (l_X12_step_55 k40 f) 65 x y by' v4 (nI c) (nI q) (nI t) N else j_X12_step_112 k40 (l_X12_step_55 k40 f) 65 x y by' v4 (nI c) (nI q) (nI t) N) = j_X12_step_126 k40 65 x y by' v4 (nI c) (nI q) (oI (ff (fun e => St (ex e) q) t (c - t)) (-1)) N2 ∧ Ey PG M N2 := by
        intro b N eN hb
        rw [show c - t = (c - (t + 1)) + 1 by omega]
        unfold ff j_X12_step_117 j_X12_step_112 j_X12_step_118
        rw [hb]
        cases b with
        | false =>
          rw [if_pos (show bI false = 0 from rfl), nI_add]
          obtain ⟨N2, s1, s2⟩ := ih (t + 1) N (Sh_ey eN h) (z.tr (eN.mono (fun c k hc => Or.inr (Or.inr hc)))) (fun e he => by rw [ey_rI eN (by unfold PG; omega)]; exact hm e he) (by omega) (by omega)
          exact ⟨N2, s1, eN.tr s2⟩
        | true =>
          rw [if_neg (show ¬ bI true = 0 by decide), nI_add]
          obtain ⟨m, rfl⟩ : ∃ m, f = m + 1 := ⟨f - 1, by omega⟩
          refine ⟨N, ?_, eN⟩
          show b_X12_step_55 k40 (l_X12_step_55 k40 m) 65 x y by' v4 (nI c) (nI q) (nI t) (nI (t + 1)) N = _
          unfold b_X12_step_55
          by_cases h9 : c ≤ t + 1
          · rw [if_pos (nI_le h9 (by omega))]; rfl
          · rw [if_neg (nI_ge (by omega) (by omega)), if_pos (nI_pos' (by omega))]; rfl
      obtain ⟨N1, w1, w2⟩ := hT M z (ex t) q he hq
      by_cases h4 : v4 = 0
      · rw [if_pos h4] at w1 ⊢
        rw [w1, jb2_some]
        exact tail _ N1 w2 rfl
      · rw [if_neg h4] at w1 ⊢
        rw [w1, jb2_some]
        exact tail _ N1 w2 rfl
theorem step_165 {K : Int32} {g : Nat → Nat} (hn : n ≤ 72) : ∀ (f t : Nat) (M : jM), Sh M → rI M 65 52 = nI n → (∀ e, e < n → rI M 96 e = nI (g e)) → (∀ e, e < t → rI M 95 e = nI (g e)) → t ≤ n → n - t < f →
    ∃ N, l_X12_step_165 f 65 K (nI t) M = some (K, N) ∧ (∀ e, e < n → rI N 95 e = nI (g e)) ∧ Ey (fun c _ => c = 95) M N := by
  intro f
  induction f with
  | zero => intro t M _ _ _ _ _ h; omega
  | succ f ih =>
    intro t M h hz h6 h5 ht hf
    show ∃ N, b_X12_step_165 (l_X12_step_165 f) 65 K (nI t) M = _ ∧ _
    unfold b_X12_step_165
    rw [gI_n (t65 h), Option.bind_some, hz]
    by_cases hc : n ≤ t
    · obtain rfl : t = n := by omega
      rw [if_pos (nI_le hc (by omega))]
      exact ⟨M, rfl, h5, Ey.rf⟩
    · rw [if_neg (nI_ge (by omega) (by omega)), q65_55 h, Option.bind_some, q65_56 h, Option.bind_some, ldI_n (t96 h) (by omega) (by decide), Option.bind_some, h6 t (by omega), stI_n (t95 h) (by omega) (by decide), Option.bind_some, nI_add]
      have e1 : Ey (fun c _ => c = 95) M (wI M 95 t (nI (g t))) := ey_wI Ey.rf rfl
      obtain ⟨N, p1, p2, p3⟩ := ih (t + 1) _ (Sh_ey e1 h) (by rw [ey_rI e1 (by decide)]; exact hz) (fun e he => by rw [ey_rI e1 (by decide)]; exact h6 e he) (fun e he => by
        rw [rI_wI]
        by_cases hee : e = t
        · rw [if_pos ⟨rfl, hee⟩, hee]
        · rw [if_neg (fun k => hee k.2)]; exact h5 e (by omega)) (by omega) (by omega)
      exact ⟨N, p1, p2, e1.tr p3⟩
theorem step_40 (hn : n ≤ 72) (hz : rI M0 65 52 = nI n) (hT : ∀ N, Ey PS M0 N → ∀ e q, e < n → q < n → ∃ N', (if v4 = 0 then f_X12_staysWith 65 x y by' (nI e) (nI q) N else f_X12_startsAlike 65 x y (nI e) (nI q) N) = some (bI (St e q), N') ∧ Ey PG N N') :
    ∀ (f q : Nat) (M : jM), Sh M → Ey PS M0 M → (∀ e, e < (cl St q).1 → rI M 94 e = nI ((cl St q).2.1 e)) → (∀ e, e < q → rI M 96 e = nI ((cl St q).2.2 e)) → q ≤ n → n - q < f →
    ∃ N, l_X12_step_40 f 65 x y by' v4 (nI (cl St q).1) (nI q) M = some (nI (cl St n).1, N) ∧ (∀ e, e < n → rI N 95 e = nI ((cl St n).2.2 e)) ∧ Ey PT M N := by
  obtain ⟨n0, hn0⟩ := jF_is
  intro f
  induction f with
  | zero => intro t M _ _ _ _ _ h; omega
  | succ f ih =>
    intro q M h z hm hm2 hq hf
    have hcl := cl_le St q
    have hz' : rI M 65 52 = nI n := by rw [ey_rI z (by unfold PS PG; omega)]; exact hz
    show ∃ N, b_X12_step_40 (l_X12_step_40 f) 65 x y by' v4 (nI (cl St q).1) (nI q) M = _ ∧ _
    unfold b_X12_step_40
    rw [gI_n (t65 h), Option.bind_some, hz']
    by_cases hqn : n ≤ q
    · obtain rfl : q = n := by omega
      rw [if_pos (nI_le hqn (by omega))]
      obtain ⟨N, p1, p2, p3⟩ := step_165 (K := nI (cl St q).1) (g := (cl St q).2.2) hn jF0 0 M h hz' hm2 (fun e he => absurd he (Nat.not_lt_zero e)) (Nat.zero_le _) (by omega)
      exact ⟨N, p1, p2, p3.mono (fun c k hc => Or.inl hc)⟩
    · rw [if_neg (nI_ge (by omega) (by omega))]
      obtain ⟨N, s1, s2⟩ := step_55 (k40 := l_X12_step_40 f) hn hT (q := q) (c := (cl St q).1) (ex := (cl St q).2.1) (by omega) hcl.1 (fun e he => by have := hcl.2.1 e he; omega) jF0 0 M h z hm (Nat.zero_le _) (by omega)
      rw [s1, Nat.sub_zero]
      have hN := Sh_ey s2 h
      have s2' : Ey PS M N := s2.mono (fun c k hc => Or.inr (Or.inr hc))
      have zN := z.tr s2'
      have mN : ∀ e, e < (cl St q).1 → rI N 94 e = nI ((cl St q).2.1 e) := fun e he => by rw [ey_rI s2 (by unfold PG; omega)]; exact hm e he
      have m2N : ∀ e, e < q → rI N 96 e = nI ((cl St q).2.2 e) := fun e he => by rw [ey_rI s2 (by unfold PG; omega)]; exact hm2 e he
      have toT : ∀ c k, PS c k → PT c k := fun c k hc => Or.inr hc
      have ih' := ih (q + 1)
      unfold j_X12_step_126 j_X12_step_147
      simp only [cl] at ih'
      cases hff : ff (fun e => St ((cl St q).2.1 e) q) 0 (cl St q).1 with
      | none =>
        rw [hff] at ih'
        simp only [Option.isNone_none, if_true, Option.getD_none] at ih'
        rw [if_neg (show ¬ (0 : Int32) ≤ oI none (-1) by decide), q65_50 hN, Option.bind_some, stI_n (t94 hN) (by omega) (by decide), Option.bind_some]
        have e1 : Ey PS N (wI N 94 (cl St q).1 (nI q)) := ey_wI Ey.rf (Or.inl rfl)
        rw [q65_56 (Sh_ey e1 hN), Option.bind_some, stI_n (t96 (Sh_ey e1 hN)) (by omega) (by decide), Option.bind_some, nI_add, nI_add]
        have e2 := ey_wI (a := 96) (k := q) (v := nI (cl St q).1) e1 (Or.inr (Or.inl rfl))
        obtain ⟨N2, v1, v2, v3⟩ := ih' _ (Sh_ey e2 hN) (zN.tr e2) (fun e he => by
          simp only [rI_wI, up1]
          rw [if_neg (by omega)]
          by_cases hee : e = (cl St q).1
          · rw [if_pos ⟨trivial, hee⟩, if_pos hee]
          · rw [if_neg (by omega), if_neg hee]; exact mN e (by omega)) (fun e he => by
          simp only [rI_wI, up1]
          by_cases hee : e = q
          · rw [if_pos ⟨trivial, hee⟩, if_pos hee]
          · rw [if_neg (by omega), if_neg (by omega), if_neg hee]; exact m2N e (by omega)) (by omega) (by omega)
        exact ⟨N2, v1, v2, ((s2'.tr e2).mono toT).tr v3⟩
      | some t =>
        have htc := ff_some hff
        rw [hff] at ih'
        simp only [Option.isNone_some, Bool.false_eq_true, if_false, Option.getD_some] at ih'
        rw [if_pos (show (0 : Int32) ≤ oI (some t) (-1) from nI_pos' (by omega)), q65_56 hN, Option.bind_some, stI_n (t96 hN) (by omega) (by decide), Option.bind_some, nI_add]
        have e2 : Ey PS N (wI N 96 q (oI (some t) (-1))) := ey_wI Ey.rf (Or.inr (Or.inl rfl))
        obtain ⟨N2, v1, v2, v3⟩ := ih' _ (Sh_ey e2 hN) (zN.tr e2) (fun e he => by rw [rI_wI, if_neg (by omega)]; exact mN e he) (fun e he => by
          simp only [rI_wI, up1]
          by_cases hee : e = q
          · rw [if_pos ⟨trivial, hee⟩, if_pos hee]; rfl
          · rw [if_neg (by omega), if_neg hee]; exact m2N e (by omega)) (by omega) (by omega)
        exact ⟨N2, v1, v2, ((s2'.tr e2).mono toT).tr v3⟩
theorem step_37 (hn : n ≤ 72) (h : Sh M0) (hz : rI M0 65 52 = nI n) (hT : ∀ N, Ey PS M0 N → ∀ e q, e < n → q < n → ∃ N', (if v4 = 0 then f_X12_staysWith 65 x y by' (nI e) (nI q) N else f_X12_startsAlike 65 x y (nI e) (nI q) N) = some (bI (St e q), N') ∧ Ey PG N N') (hS : Eqv St) :
    ∃ N, j_X12_step_37 65 x y by' v4 (nI 0) M0 = some (nI (rg St n).1, N) ∧ (∀ e, e < n → rI N 95 e = nI ((rg St n).2 e)) ∧ Ey PT M0 N := by
  obtain ⟨n0, hn0⟩ := jF_is
  unfold j_X12_step_37
  obtain ⟨N, p1, p2, p3⟩ := step_40 hn hz hT jF0 0 M0 h Ey.rf (fun e he => absurd he (Nat.not_lt_zero e)) (fun e he => absurd he (Nat.not_lt_zero e)) (Nat.zero_le _) (by omega)
  obtain ⟨r1, r2⟩ := rg_cl hS n
  refine ⟨N, by rw [r1]; exact p1, fun e he => by rw [r2 e he]; exact p2 e he, p3⟩
end Z2
