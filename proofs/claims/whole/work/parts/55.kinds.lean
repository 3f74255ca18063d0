/-! KINDS, on both sides. -/
/-- things that are sorted: how many sorts, the first of each, the sort of each -/
def cl (L : Nat → Nat → Bool) : Nat → Nat × (Nat → Nat) × (Nat → Nat)
  | 0 => (0, fun _ => 0, fun _ => 0)
  | i + 1 => (if (ff (fun j => L ((cl L i).2.1 j) i) 0 (cl L i).1).isNone = true then (cl L i).1 + 1 else (cl L i).1,
      if (ff (fun j => L ((cl L i).2.1 j) i) 0 (cl L i).1).isNone = true then up1 (cl L i).2.1 (cl L i).1 i else (cl L i).2.1,
      up1 (cl L i).2.2 i ((ff (fun j => L ((cl L i).2.1 j) i) 0 (cl L i).1).getD (cl L i).1))
theorem cl_le (L : Nat → Nat → Bool) : ∀ i, (cl L i).1 ≤ i ∧ (∀ j, j < (cl L i).1 → (cl L i).2.1 j < i) ∧ (∀ q, q < i → (cl L i).2.2 q < (cl L i).1)
  | 0 => ⟨Nat.le_refl _, fun j hj => absurd hj (Nat.not_lt_zero j), fun q hq => absurd hq (Nat.not_lt_zero q)⟩
  | i + 1 => by
    obtain ⟨h1, h2, h3⟩ := cl_le L i
    simp only [cl]
    cases hf : ff (fun j => L ((cl L i).2.1 j) i) 0 (cl L i).1 with
    | none =>
      simp only [Option.isNone_none, if_true, Option.getD_none]
      refine ⟨by omega, fun j hj => ?_, fun q hq => ?_⟩
      · unfold up1; split
        · omega
        · have := h2 j (by omega); omega
      · unfold up1; split
        · omega
        · have := h3 q (by omega); omega
    | some k =>
      have := ff_some hf
      simp only [Option.isNone_some, Bool.false_eq_true, if_false, Option.getD_some]
      refine ⟨by omega, fun j hj => by have := h2 j hj; omega, fun q hq => ?_⟩
      unfold up1; split
      · omega
      · exact h3 q (by omega)
def itW (u v : Wd) (e : Nat) : Wd := if e < u.1 then u else v
def itT (u : Wd) (e : Nat) : Nat := if e < u.1 then e else e - u.1
def Lk (u v : Wd) (k e i : Nat) : Bool := kw (itW u v e) (itW u v i) k [(itT u e, itT u i)]
theorem itT_lt {u v : Wd} {e : Nat} (h : e < u.1 + v.1) : itT u e < (itW u v e).1 := by
  unfold itT itW; split <;> omega
theorem itW_wf {u v : Wd} (hu : wwf u) (hv : wwf v) (e : Nat) : wwf (itW u v e) := by
  unfold itW
  split
  · exact hu
  · exact hv
/-- kinds: how many things, their kinds -/
abbrev Kd : Type := Nat × (Nat → Nat)
def XF (d : Kd) (M : jM) : Prop := rI M 39 2 = nI d.1 ∧ ∀ i, i < d.1 → rI M 40 i = nI (d.2 i)
def MF (d : Kd) (M : jM) : Prop := rI M 65 48 = nI d.1 ∧ ∀ i, i < d.1 → rI M 93 i = nI (d.2 i)
def sp_kinds (ws : Nat → Wd) (d : Kd) (x y k : Int32) : Int32 × Kd := match wok ws x with
  | none => (-1, d)
  | some i => match wok ws y with
    | none => (-1, d)
    | some j => match ixo k 3 with
      | none => (-2, d)
      | some q => (nI (cl (Lk (ws i) (ws j) q) ((ws i).1 + (ws j).1)).1, ((ws i).1 + (ws j).1, (cl (Lk (ws i) (ws j) q) ((ws i).1 + (ws j).1)).2.2))
def sp_kind (d : Kd) (i : Int32) : Int32 := match ixo i d.1 with
  | none => -1
  | some q => nI (d.2 q)
def CF (c : Nat) : Prop := (39 ≤ c ∧ c ≤ 41) ∨ cM 6 c
def PF (c k : Nat) : Prop := c = 93 ∨ c = 94 ∨ (c = 65 ∧ k = 48) ∨ PG c k
section F1
variable {M : jM} {ws : Nat → Wd}
/-- the class: is i like the example e -/
theorem x_like (h : Sh M) (a : XA ws M) (hf : WF ws) {i j e q k : Nat} (hi : i < 6) (hj : j < 6) (he : e < (ws i).1 + (ws j).1) (hq : q < (ws i).1 + (ws j).1) (hk : k ≤ 2) : ∃ N, j_X2_isLikeExample_23 (47 + 3 * i) (47 + 3 * j) (nI q) (nI k) 6 (nI e) M = some (bI (Lk (ws i) (ws j) k e q), N) ∧ Ex (cM 6) M N := by
  have h6 := (hf i).1
  have h62 := (hf j).1
  unfold j_X2_isLikeExample_23
  rw [jiv_n (a i hi).1.1, w_size (a i hi), jb2_some]
  have fin : ∀ (c d : Nat), c < 6 → d < 6 → ws c = itW (ws i) (ws j) e → ws d = itW (ws i) (ws j) q → ∀ (g : jM → jO Int32), (∀ N, g N = j_X2_isLikeExample_116 (nI k) 6 (nI (itT (ws i) e)) (nI (itT (ws i) q)) N) → ∃ N, (jb2 (jiv 3 M 6 (f_X3_begin 6 (47 + 3 * c) (47 + 3 * d) M)) fun _ M1 => g M1) = some (bI (Lk (ws i) (ws j) k e q), N) ∧ Ex (cM 6) M N := by
    intro c d hc hd ec ed g hg
    obtain ⟨N, p1, p2, p3, p4⟩ := x_mbegin (a := 6) (b := 47 + 3 * c) (c := 47 + 3 * d) (hf c) (hf d) (isM6 h) (a c hc) (a d hd) (by omega) (by omega)
    rw [jiv_n (t6 h), p1, jb2_some, hg]
    unfold j_X2_isLikeExample_116
    have t1 : itT (ws i) e < (ws c).1 := by rw [ec]; exact itT_lt he
    have t2 : itT (ws i) q < (ws d).1 := by rw [ed]; exact itT_lt hq
    have pp : pr2 0 (itT (ws i) e) (itT (ws i) q) = (itT (ws i) e, itT (ws i) q) := rfl
    rw [jiv_n (t6 (Sh_ex p4 h)), x_staysAlike (side := 0) (t := itT (ws i) e) (s := itT (ws i) q) p2 p3 (hf c) (hf d) rv_nil (by decide) t1 t2, jb2_some, pp]
    unfold Lk
    rw [← ec, ← ed]
    cases hp : pla (ws c) (ws d) [] (itT (ws i) e, itT (ws i) q) with
    | false =>
      have : kw (ws c) (ws d) k [(itT (ws i) e, itT (ws i) q)] = false := by
        cases hw : kw (ws c) (ws d) k [(itT (ws i) e, itT (ws i) q)] with
        | false => rfl
        | true => have := kw_alk hw; unfold alk at this; rw [hp, Bool.and_false] at this; cases this
      rw [if_pos (show bI false = 0 from rfl), this]
      exact ⟨N, rfl, p4⟩
    | true =>
      rw [if_neg (show ¬ bI true = 0 by decide), jiv_n (t6 (Sh_ex p4 h))]
      obtain ⟨N2, s1, s2, s3, s4⟩ := x_lengthen (side := 0) (t := itT (ws i) e) (s := itT (ws i) q) p2 p3 (by decide) (by decide)
      have e2 := p4.tr (s4.mono (fun c hc => by unfold cM; omega))
      rw [s1, jb2_some, if_neg (show ¬ bI true = 0 by decide), jiv_n (t6 (Sh_ex e2 h))]
      obtain ⟨N3, v1, v2⟩ := x_keeperWins (a := 6) (hf c) (hf d) jR0 k (by have := jR0_eq; omega) [(itT (ws i) e, itT (ws i) q)] N2 (by simp; omega) (by unfold alk; rw [hp]; rfl) (rv_cons rv_nil t1 t2) s2 s3
      rw [v1, jb2_some]
      refine ⟨N3, ?_, e2.tr (v2.2.2.1.mono (fun c hc => by unfold cK at hc; unfold cM; omega))⟩
      cases kw (ws c) (ws d) k [(itT (ws i) e, itT (ws i) q)] <;> rfl
  have hiW1 : ∀ x, x < (ws i).1 → ws i = itW (ws i) (ws j) x ∧ itT (ws i) x = x := fun x hx => by unfold itW itT; rw [if_pos hx, if_pos hx]; exact ⟨rfl, rfl⟩
  have hiW2 : ∀ x, ¬ x < (ws i).1 → ws j = itW (ws i) (ws j) x ∧ itT (ws i) x = x - (ws i).1 := fun x hx => by unfold itW itT; rw [if_neg hx, if_neg hx]; exact ⟨rfl, rfl⟩
  unfold j_X2_isLikeExample_43 j_X2_isLikeExample_57 j_X2_isLikeExample_71 j_X2_isLikeExample_81 j_X2_isLikeExample_99
  by_cases e1 : (ws i).1 ≤ e
  · obtain ⟨a1, a2⟩ := hiW2 e (by omega)
    rw [if_pos (nI_le e1 (by omega))]
    by_cases q1 : (ws i).1 ≤ q
    · obtain ⟨b1, b2⟩ := hiW2 q (by omega)
      rw [if_pos (nI_le q1 (by omega)), if_pos (show nI 0 = 0 from rfl), if_pos (show nI 0 = 0 from rfl)]
      refine fin j j hj hj a1 b1 _ (fun N => ?_)
      rw [if_pos (show nI 0 = 0 from rfl), if_pos (show nI 0 = 0 from rfl), pk_sub e1, pk_sub q1, a2, b2]
    · obtain ⟨b1, b2⟩ := hiW1 q (by omega)
      rw [if_neg (nI_ge (by omega) (by omega)), if_pos (show nI 0 = 0 from rfl), if_neg (show ¬ nI 1 = 0 by decide)]
      refine fin j i hj hi a1 b1 _ (fun N => ?_)
      rw [if_pos (show nI 0 = 0 from rfl), if_neg (show ¬ nI 1 = 0 by decide), pk_sub e1, a2, b2]
  · obtain ⟨a1, a2⟩ := hiW1 e (by omega)
    rw [if_neg (nI_ge (by omega) (by omega))]
    by_cases q1 : (ws i).1 ≤ q
    · obtain ⟨b1, b2⟩ := hiW2 q (by omega)
      rw [if_pos (nI_le q1 (by omega)), if_neg (show ¬ nI 1 = 0 by decide), if_pos (show nI 0 = 0 from rfl)]
      refine fin i j hi hj a1 b1 _ (fun N => ?_)
      rw [if_neg (show ¬ nI 1 = 0 by decide), if_pos (show nI 0 = 0 from rfl), pk_sub q1, a2, b2]
    · obtain ⟨b1, b2⟩ := hiW1 q (by omega)
      rw [if_neg (nI_ge (by omega) (by omega)), if_neg (show ¬ nI 1 = 0 by decide), if_neg (show ¬ nI 1 = 0 by decide)]
      refine fin i i hi hi a1 b1 _ (fun N => ?_)
      rw [if_neg (show ¬ nI 1 = 0 by decide), if_neg (show ¬ nI 1 = 0 by decide), a2, b2]
theorem sort_39 (hf : WF ws) {i j k : Nat} (hi : i < 6) (hj : j < 6) (hk : k ≤ 2) {k27 : Nat → Nat → Nat → Int32 → Nat → Int32 → Int32 → jM → jO Int32} {q c : Nat} {ex : Nat → Nat} (hq : q < (ws i).1 + (ws j).1) (hc : c ≤ q) (hex : ∀ e, e < c → ex e < (ws i).1 + (ws j).1) : ∀ (n t : Nat) (M : jM), Sh M → XA ws M → (∀ e, e < c → rI M 41 e = nI (ex e)) → t ≤ c → c - t < n →
    ∃ N, l_X2_sort_39 k27 n 39 (47 + 3 * i) (47 + 3 * j) (nI k) 6 (nI c) (nI q) (nI t) M = j_X2_sort_68 k27 39 (47 + 3 * i) (47 + 3 * j) (nI k) 6 (nI c) (nI q) (nI ((ff (fun e => Lk (ws i) (ws j) k (ex e) q) t (c - t)).getD c)) N ∧ Ex (cM 6) M N := by
  have h6 := (hf i).1
  have h62 := (hf j).1
  intro n
  induction n with
  | zero => intro t M _ _ _ _ h; omega
  | succ n ih =>
    intro t M h a hm ht hn
    show ∃ N, b_X2_sort_39 k27 (l_X2_sort_39 k27 n) 39 (47 + 3 * i) (47 + 3 * j) (nI k) 6 (nI c) (nI q) (nI t) M = _ ∧ _
    unfold b_X2_sort_39
    by_cases htc : c ≤ t
    · rw [if_pos (nI_le htc (by omega)), show c - t = 0 by omega, show t = c by omega]
      exact ⟨M, rfl, Ex.rf⟩
    · rw [if_neg (nI_ge (by omega) (by omega)), jiv_n (t39 h)]
      unfold f_X2_isLikeExample
      rw [if_neg (nI_pos (by omega)), q39_1 h, Option.bind_some, ln_n (t41 h) (by decide) (by decide), Option.bind_some, if_neg (nI_ge (by omega) (by decide)), Option.bind_some, ldI_n (t41 h) (by omega) (by decide), Option.bind_some, hm t (by omega)]
      obtain ⟨N, q1, q2⟩ := x_like h a hf hi hj (hex t (by omega)) hq hk
      rw [q1, jb2_some, show c - t = (c - (t + 1)) + 1 by omega]
      unfold ff
      cases hl : Lk (ws i) (ws j) k (ex t) q with
      | true => rw [if_neg (show ¬ bI true = 0 by decide)]; exact ⟨N, rfl, q2⟩
      | false =>
        rw [if_pos (show bI false = 0 from rfl), nI_add]
        obtain ⟨N2, s1, s2⟩ := ih (t + 1) N (Sh_ex q2 h) (XA_ex q2 a (fun c h1 h2 => by unfold cM; omega)) (fun e he => by rw [ex_rI q2 (by unfold cM; omega)]; exact hm e he) (by omega) (by omega)
        exact ⟨N2, s1, q2.tr s2⟩
theorem sort_27 (hf : WF ws) {i j k : Nat} (hi : i < 6) (hj : j < 6) (hk : k ≤ 2) : ∀ (n q : Nat) (M : jM), Sh M → XA ws M → rI M 39 2 = nI ((ws i).1 + (ws j).1) → (∀ e, e < (cl (Lk (ws i) (ws j) k) q).1 → rI M 41 e = nI ((cl (Lk (ws i) (ws j) k) q).2.1 e)) → (∀ e, e < q → rI M 40 e = nI ((cl (Lk (ws i) (ws j) k) q).2.2 e)) → q ≤ (ws i).1 + (ws j).1 → (ws i).1 + (ws j).1 - q < n →
    ∃ N, l_X2_sort_27 n 39 (47 + 3 * i) (47 + 3 * j) (nI k) 6 (nI (cl (Lk (ws i) (ws j) k) q).1) (nI q) M = some (nI (cl (Lk (ws i) (ws j) k) ((ws i).1 + (ws j).1)).1, N) ∧ XF ((ws i).1 + (ws j).1, (cl (Lk (ws i) (ws j) k) ((ws i).1 + (ws j).1)).2.2) N ∧ Ex CF M N := by
  have h6 := (hf i).1
  have h62 := (hf j).1
  obtain ⟨n0, hn0⟩ := jF_is
  intro n
  induction n with
  | zero => intro t M _ _ _ _ _ _ h; omega
  | succ n ih =>
    intro q M h a hz hm hm2 hq hn
    have hcl := cl_le (Lk (ws i) (ws j) k) q
    show ∃ N, b_X2_sort_27 (l_X2_sort_27 n) 39 (47 + 3 * i) (47 + 3 * j) (nI k) 6 (nI (cl (Lk (ws i) (ws j) k) q).1) (nI q) M = _ ∧ _
    unfold b_X2_sort_27
    rw [gI_n (t39 h), Option.bind_some, hz]
    by_cases hqn : (ws i).1 + (ws j).1 ≤ q
    · have e : q = (ws i).1 + (ws j).1 := by omega
      rw [if_pos (nI_le hqn (by omega))]
      subst e
      exact ⟨M, rfl, ⟨hz, hm2⟩, Ex.rf⟩
    · rw [if_neg (nI_ge (by omega) (by omega))]
      obtain ⟨N, s1, s2⟩ := sort_39 hf hi hj hk (k27 := l_X2_sort_27 n) (q := q) (c := (cl (Lk (ws i) (ws j) k) q).1) (ex := (cl (Lk (ws i) (ws j) k) q).2.1) (by omega) hcl.1 (fun e he => by have := hcl.2.1 e he; omega) jF0 0 M h a hm (Nat.zero_le _) (by omega)
      rw [s1, Nat.sub_zero]
      have hN := Sh_ex s2 h
      have aN := XA_ex s2 a (fun c h1 h2 => by unfold cM; omega)
      have zN : rI N 39 2 = nI ((ws i).1 + (ws j).1) := by rw [ex_rI s2 (by unfold cM; omega)]; exact hz
      have mN : ∀ e, e < (cl (Lk (ws i) (ws j) k) q).1 → rI N 41 e = nI ((cl (Lk (ws i) (ws j) k) q).2.1 e) := fun e he => by rw [ex_rI s2 (by unfold cM; omega)]; exact hm e he
      have m2N : ∀ e, e < q → rI N 40 e = nI ((cl (Lk (ws i) (ws j) k) q).2.2 e) := fun e he => by rw [ex_rI s2 (by unfold cM; omega)]; exact hm2 e he
      have eN : Ex CF M N := s2.mono (fun c hc => Or.inr hc)
      have ih' := ih (q + 1)
      unfold j_X2_sort_68 j_X2_sort_97
      simp only [cl] at ih'
      cases hff : ff (fun e => Lk (ws i) (ws j) k ((cl (Lk (ws i) (ws j) k) q).2.1 e) q) 0 (cl (Lk (ws i) (ws j) k) q).1 with
      | none =>
        rw [hff] at ih'
        simp only [Option.isNone_none, if_true, Option.getD_none] at ih' ⊢
        rw [q39_1 hN, Option.bind_some, ln_n (t41 hN) (by decide) (by decide), Option.bind_some, if_neg (nI_ge (by omega) (by decide)), Option.bind_some, stI_n (t41 hN) (by omega) (by decide), Option.bind_some]
        have e1 : Ex (fun c => c = 41 ∨ c = 40) N (wI N 41 (cl (Lk (ws i) (ws j) k) q).1 (nI q)) := ex_wI Ex.rf (Or.inl rfl)
        rw [q39_0 (Sh_ex e1 hN), Option.bind_some, stI_n (t40 (Sh_ex e1 hN)) (by omega) (by decide), Option.bind_some, nI_add, nI_add]
        have e2 := ex_wI (a := 40) (k := q) (v := nI (cl (Lk (ws i) (ws j) k) q).1) e1 (Or.inr rfl)
        obtain ⟨N2, v1, v2, v3⟩ := ih' _ (Sh_ex e2 hN) (XA_ex e2 aN (fun c h1 h2 => by omega)) (by rw [ex_rI e2 (by omega)]; exact zN) (fun e he => by
          simp only [rI_wI, up1]
          rw [if_neg (by omega)]
          by_cases hee : e = (cl (Lk (ws i) (ws j) k) q).1
          · rw [if_pos ⟨trivial, hee⟩, if_pos hee]
          · rw [if_neg (by omega), if_neg hee]; exact mN e (by omega)) (fun e he => by
          simp only [rI_wI, up1]
          by_cases hee : e = q
          · rw [if_pos ⟨trivial, hee⟩, if_pos hee]
          · rw [if_neg (by omega), if_neg (by omega), if_neg hee]; exact m2N e (by omega)) (by omega) (by omega)
        exact ⟨N2, v1, v2, eN.tr ((e2.mono (fun c hc => Or.inl (by omega))).tr v3)⟩
      | some t =>
        have htc := ff_some hff
        rw [hff] at ih'
        simp only [Option.isNone_some, Bool.false_eq_true, if_false, Option.getD_some] at ih' ⊢
        rw [if_neg (fun e => by have := (nI_eq (by omega) (by omega)).mp e; omega), q39_0 hN, Option.bind_some, stI_n (t40 hN) (by omega) (by decide), Option.bind_some, nI_add]
        have e2 : Ex (fun c => c = 41 ∨ c = 40) N (wI N 40 q (nI t)) := ex_wI Ex.rf (Or.inr rfl)
        obtain ⟨N2, v1, v2, v3⟩ := ih' _ (Sh_ex e2 hN) (XA_ex e2 aN (fun c h1 h2 => by omega)) (by rw [ex_rI e2 (by omega)]; exact zN) (fun e he => by rw [rI_wI, if_neg (by omega)]; exact mN e he) (fun e he => by
          simp only [rI_wI, up1]
          by_cases hee : e = q
          · rw [if_pos ⟨trivial, hee⟩, if_pos hee]
          · rw [if_neg (by omega), if_neg hee]; exact m2N e (by omega)) (by omega) (by omega)
        exact ⟨N2, v1, v2, eN.tr ((e2.mono (fun c hc => Or.inl (by omega))).tr v3)⟩
theorem x_kinds (h : Sh M) (a : XA ws M) (hf : WF ws) {d : Kd} (f : XF d M) (x y k : Int32) : ∃ N, f_X11_kinds 1 x y k M = some ((sp_kinds ws d x y k).1, N) ∧ XF (sp_kinds ws d x y k).2 N ∧ Ex CF M N := by
  unfold f_X11_kinds sp_kinds
  rw [jiv_n (t1 h), x_worldOf h a hf]
  simp only [jb2_some]
  rw [jiv_n (t1 h), x_worldOf h a hf]
  simp only [jb2_some]
  cases hc : wok ws x with
  | none => exact ⟨M, rfl, f, Ex.rf⟩
  | some i =>
    obtain ⟨hi, rfl, h0⟩ := wok_some hc
    cases hd : wok ws y with
    | none => exact ⟨M, rfl, f, Ex.rf⟩
    | some j =>
      obtain ⟨hj, rfl, h02⟩ := wok_some hd
      simp only [Option.map_some, jnl]
      cases hk : ixo k 3 with
      | none =>
        by_cases hk0 : k < 0
        · rw [if_pos hk0]; exact ⟨M, rfl, f, Ex.rf⟩
        · have := ((ixo_none (by decide)).mp hk).resolve_left hk0
          rw [if_neg hk0, if_neg (fun q => nI_ge (show 2 < 3 by decide) (by decide) (Int32.le_trans this q))]; exact ⟨M, rfl, f, Ex.rf⟩
      | some q =>
        obtain ⟨hq, rfl⟩ := (ixo_some (by decide)).mp hk
        have h6 := (hf i).1
        have h62 := (hf j).1
        obtain ⟨n0, hn0⟩ := jF_is
        rw [if_neg (nI_pos (by omega)), if_pos (nI_le (by omega) (by decide)), q1_10 h, Option.bind_some, q1_2 h, Option.bind_some, jiv_n (t39 h)]
        unfold f_X2_sort
        rw [q39_0 h, Option.bind_some, ln_n (t40 h) (by decide) (by decide), Option.bind_some, jiv_n (a i hi).1.1, w_size (a i hi), jb2_some, jiv_n (a j hj).1.1, w_size (a j hj), jb2_some, nI_add, pI_n (t39 h), Option.bind_some]
        have em : jmn (nI 12) (nI ((ws i).1 + (ws j).1)) = nI ((ws i).1 + (ws j).1) := by
          unfold jmn
          by_cases q12 : (ws i).1 + (ws j).1 = 12
          · rw [q12]; rfl
          · rw [if_pos (nI_lt (by omega) (by decide))]
        rw [em]
        have e1 : Ex CF M (wI M 39 2 (nI ((ws i).1 + (ws j).1))) := ex_wI Ex.rf (Or.inl (by omega))
        have e1' : Ex (fun c => c = 39) M (wI M 39 2 (nI ((ws i).1 + (ws j).1))) := ex_wI Ex.rf rfl
        obtain ⟨N, s1, s2, s3⟩ := sort_27 hf hi hj (show q ≤ 2 by omega) jF0 0 _ (Sh_ex e1 h) (XA_ex e1' a (fun c h1 h2 => by omega)) (by rw [rI_wI]; simp) (fun e he => by cases he) (fun e he => by cases he) (Nat.zero_le _) (by omega)
        have s1' : l_X2_sort_27 jF0 39 (47 + 3 * i) (47 + 3 * j) (nI q) 6 (nI 0) (nI 0) (wI M 39 2 (nI ((ws i).1 + (ws j).1))) = some (nI (cl (Lk (ws i) (ws j) q) ((ws i).1 + (ws j).1)).1, N) := s1
        rw [s1', jb2_some]
        exact ⟨N, rfl, s2, e1.tr s3⟩
theorem x_kind (h : Sh M) {d : Kd} (hd : d.1 ≤ 12) (f : XF d M) (i : Int32) : f_X11_kind 1 i M = some (sp_kind d i, M) := by
  unfold f_X11_kind f_X2_kindOf sp_kind
  rw [q1_10 h, Option.bind_some, jiv_n (t39 h)]
  cases hi : ixo i d.1 with
  | none =>
    by_cases h0 : i < 0
    · rw [if_pos h0]; rfl
    · rw [if_neg h0, gI_n (t39 h), Option.bind_some, f.1, if_pos (((ixo_none (by omega)).mp hi).resolve_left h0)]; rfl
  | some q =>
    obtain ⟨hq, rfl⟩ := (ixo_some (by omega)).mp hi
    rw [if_neg (nI_pos (by omega)), gI_n (t39 h), Option.bind_some, f.1, if_neg (nI_ge hq (by omega)), q39_0 h, Option.bind_some, ln_n (t40 h) (by decide) (by decide), Option.bind_some, if_neg (nI_ge (by omega) (by decide)), Option.bind_some, ldI_n (t40 h) (by omega) (by decide), Option.bind_some, f.2 q hq]; rfl
theorem sp_kinds_le {d : Kd} (hd : d.1 ≤ 12) (hf : WF ws) (x y k : Int32) : (sp_kinds ws d x y k).2.1 ≤ 12 := by
  unfold sp_kinds
  split
  · exact hd
  · rename_i i hi
    split
    · exact hd
    · rename_i j hj
      split
      · exact hd
      · have := (hf i).1
        have := (hf j).1
        show (ws i).1 + (ws j).1 ≤ 12
        omega
end F1
