/-! Who wins, as the class finds it. -/
theorem mask1 : ∀ m, m ≤ 6 → (nI 1 <<< (nI m &&& 31)) - nI 1 = nI (2 ^ m - 1) := by decide +kernel
theorem mask2 : ∀ m, m ≤ 6 → ∀ A, A < 2 ^ m → ((A = 2 ^ m - 1) ↔ ∀ y, y < m → A.testBit y = true) := by decide +kernel
theorem mask3 : ∀ A, A < 64 → ∀ y, y < 6 → ((nI (A >>> y) &&& nI 1 = 0) ↔ A.testBit y = false) := by decide +kernel
theorem lt_bits {m A : Nat} (hA : ∀ y, m ≤ y → A.testBit y = false) : A < 2 ^ m := by
  apply Nat.lt_of_not_le
  intro h
  obtain ⟨i, hi, ht⟩ := Nat.exists_ge_and_testBit_of_ge_two_pow h
  rw [hA i hi] at ht; cases ht
section K3
variable {a : Nat} {u v : Wd}
/-- what a run of who-wins leaves: the match as it was, types below unchanged -/
def KL (M N : jM) (a : Nat) (u v : Wd) (r : Rw) (t : Nat) : Prop := MS N a u v ∧ MR N a r ∧ Ex (cK a) M N ∧ ∀ i, i < t → rI N (a + 10) i = rI M (a + 10) i
theorem KL.tr {M N O : jM} {r : Rw} {t : Nat} (h : KL M N a u v r t) (k : KL N O a u v r t) : KL M O a u v r t := ⟨k.1, k.2.1, h.2.2.1.tr k.2.2.1, fun i hi => (k.2.2.2 i hi).trans (h.2.2.2 i hi)⟩
theorem KL.le {M N : jM} {r : Rw} {t s : Nat} (h : KL M N a u v r t) (hs : s ≤ t) : KL M N a u v r s := ⟨h.1, h.2.1, h.2.2.1, fun i hi => h.2.2.2 i (by omega)⟩
theorem TY_kl {M N : jM} {r : Rw} {t : Nat} (hu : wwf u) (hv : wwf v) (ty : TY M a u v r) (h : KL M N a u v r t) (ht : 12 * r.length + 12 ≤ t) : TY N a u v r := ⟨fun x hx => by have := hu.1; rw [h.2.2.2 _ (by omega)]; exact ty.1 x hx, fun y hy => by have := hv.1; rw [h.2.2.2 _ (by omega)]; exact ty.2 y hy⟩
/-- the contract of the recursion -/
def KC (a : Nat) (u v : Wd) (k : Nat) (f : Nat → Int32 → jM → jO Int32) : Prop := ∀ (r : Rw) (M : jM), k + r.length ≤ 3 → alk u v r = true → rv u v r → MS M a u v → MR M a r → ∃ N, f a (nI k) M = some (bI (kw u v k r), N) ∧ KL M N a u v r (12 * r.length)
theorem x_kww (hu : wwf u) (hv : wwf v) {k : Nat} {f : Nat → Int32 → jM → jO Int32} (hf : KC a u v k f) {r : Rw} {M : jM} {side t s : Nat} (hs : side < 2) (hk : k + 1 + r.length ≤ 3) (hp : pla u v r (pr2 side t s) = true) (hal : alk u v r = true) (hr : rv u v r) (hpv : (pr2 side t s).1 < u.1 ∧ (pr2 side t s).2 < v.1) (h : MS M a u v) (m : MR M a r) : ∃ N, f_X3_keeperWinsWith f a (nI side) (nI t) (nI s) (nI (k + 1)) M = some (bI (kw u v k (pr2 side t s :: r)), N) ∧ KL M N a u v r (12 * r.length + 12) := by
  have hal2 : alk u v (pr2 side t s :: r) = true := by unfold alk; rw [hal, hp]; rfl
  unfold f_X3_keeperWinsWith
  cases k with
  | zero =>
    rw [if_pos (show nI (0 + 1) ≤ nI 1 by decide)]
    refine ⟨M, ?_, h, m, Ex.rf, fun _ _ => rfl⟩
    show _ = some (bI (alk u v (pr2 side t s :: r)), M)
    rw [hal2]; rfl
  | succ k =>
    rw [if_neg (nI_ge (by omega) (by omega)), jiv_n h.1.1]
    obtain ⟨N1, p1, p2, p3, p4⟩ := x_lengthen (t := t) (s := s) h m hs (show r.length < 3 by omega)
    rw [p1, jb2_some, if_neg (show ¬ bI true = 0 by decide), jiv_n p2.1.1, pk_sub (by omega), show k + 1 + 1 - 1 = k + 1 by omega]
    have hr2 : rv u v (pr2 side t s :: r) := fun q hq => by
      rcases List.mem_cons.mp hq with rfl | g
      · exact hpv
      · exact hr q g
    obtain ⟨N2, q1, q2, q3, q4, q5⟩ := hf (pr2 side t s :: r) N1 (by show k + 1 + (r.length + 1) ≤ 3; omega) hal2 hr2 p2 p3
    rw [q1, jb2_some, jiv_n q2.1.1]
    obtain ⟨N3, s1, s2, s3, s4⟩ := x_shorten q2 q3
    rw [s1, jb2_some, rZ_n]
    refine ⟨N3, rfl, s2, s3, (p4.mono (fun c hc => by unfold cK; omega)).tr (q4.tr (s4.mono (fun c hc => by unfold cK; omega))), fun i hi => ?_⟩
    rw [ex_rI s4 (by omega), q5 i (by show i < 12 * (r.length + 1); omega), ex_rI p4 (by omega)]
theorem fit_6 (hu : wwf u) (hv : wwf v) {k : Nat} {f : Nat → Int32 → jM → jO Int32} (hf : KC a u v k f) {r : Rw} (hk : k + 1 + r.length ≤ 3) (hal : alk u v r = true) (hr : rv u v r) {x A : Nat} (hx : x < u.1) (hA : A < 64) : ∀ (n y F : Nat) (M : jM), MS M a u v → MR M a r → TY M a u v r → y ≤ v.1 → v.1 - y < n → F < 64 → (∀ i, F.testBit i = true → i < y ∧ kw u v k ((x, i) :: r) = true) → (∀ i, i < y → kw u v k ((x, i) :: r) = true → A.testBit i = true ∨ F.testBit i = true) → ((∃ i, i < y ∧ kw u v k ((x, i) :: r) = true) → F ≠ 0) →
    ∃ N F', l_X3_fittingReplies_6 f n a (nI (12 * r.length)) (nI x) (nI A) (nI (k + 1)) (nI F) (nI y) M = some (nI F', N) ∧ KL M N a u v r (12 * r.length + 12) ∧ F' < 64 ∧ (∀ i, F'.testBit i = true → i < v.1 ∧ kw u v k ((x, i) :: r) = true) ∧ (∀ i, i < v.1 → kw u v k ((x, i) :: r) = true → A.testBit i = true ∨ F'.testBit i = true) ∧ ((∃ i, i < v.1 ∧ kw u v k ((x, i) :: r) = true) → F' ≠ 0) := by
  have h6 := hu.1
  have h62 := hv.1
  intro n
  induction n with
  | zero => intro y F M _ _ _ _ h; omega
  | succ n ih =>
    intro y F M h m ty hy hn hF g1 g2 g3
    show ∃ N F', b_X3_fittingReplies_6 f (l_X3_fittingReplies_6 f n) a (nI (12 * r.length)) (nI x) (nI A) (nI (k + 1)) (nI F) (nI y) M = _ ∧ _
    unfold b_X3_fittingReplies_6
    rw [gR_n h.1.1 h.1.2.2.1, Option.bind_some, jiv_n h.2.2.1.1.1, w_size h.2.2.1, jb2_some]
    by_cases hyv : v.1 ≤ y
    · rw [if_pos (nI_le hyv (by omega))]
      have e : y = v.1 := by omega
      subst e
      exact ⟨M, F, rfl, ⟨h, m, Ex.rf, fun _ _ => rfl⟩, hF, g1, g2, g3⟩
    · rw [if_neg (nI_ge (by omega) (by omega))]
      have hy2 : y < v.1 := by omega
      have hbit : ∀ i, 6 ≤ i → F.testBit i = false := fun i hi => Nat.testBit_lt_two_pow (Nat.lt_of_lt_of_le (show F < 2 ^ 6 from hF) (Nat.pow_le_pow_right (by decide) hi))
      -- y does not win: F stays
      have skip : ∀ N, KL M N a u v r (12 * r.length + 12) → (kw u v k ((x, y) :: r) = true → A.testBit y = true ∧ F ≠ 0) → ∃ N2 F', j_X3_fittingReplies_83 f (l_X3_fittingReplies_6 f n) a (nI (12 * r.length)) (nI x) (nI A) (nI (k + 1)) (nI F) (nI y) N = some (nI F', N2) ∧ KL M N2 a u v r (12 * r.length + 12) ∧ F' < 64 ∧ (∀ i, F'.testBit i = true → i < v.1 ∧ kw u v k ((x, i) :: r) = true) ∧ (∀ i, i < v.1 → kw u v k ((x, i) :: r) = true → A.testBit i = true ∨ F'.testBit i = true) ∧ ((∃ i, i < v.1 ∧ kw u v k ((x, i) :: r) = true) → F' ≠ 0) := by
        intro N hN hw
        unfold j_X3_fittingReplies_83
        rw [nI_add]
        obtain ⟨N2, F', q1, q2, q3⟩ := ih (y + 1) F N hN.1 hN.2.1 (TY_kl hu hv ty hN (Nat.le_refl _)) (by omega) (by omega) hF (fun i hi => ⟨by have := (g1 i hi).1; omega, (g1 i hi).2⟩) (fun i hi hwi => by
          by_cases hiy : i = y
          · subst hiy; exact Or.inl (hw hwi).1
          · exact g2 i (by omega) hwi) (fun ⟨i, hi, hwi⟩ => by
          by_cases hiy : i = y
          · subst hiy; exact (hw hwi).2
          · exact g3 ⟨i, by omega, hwi⟩)
        exact ⟨N2, F', q1, hN.tr q2, q3⟩
      have test : ∃ N2 F', j_X3_fittingReplies_37 f (l_X3_fittingReplies_6 f n) a (nI (12 * r.length)) (nI x) (nI A) (nI (k + 1)) (nI F) (nI y) (nI 1) M = some (nI F', N2) ∧ KL M N2 a u v r (12 * r.length + 12) ∧ F' < 64 ∧ (∀ i, F'.testBit i = true → i < v.1 ∧ kw u v k ((x, i) :: r) = true) ∧ (∀ i, i < v.1 → kw u v k ((x, i) :: r) = true → A.testBit i = true ∨ F'.testBit i = true) ∧ ((∃ i, i < v.1 ∧ kw u v k ((x, i) :: r) = true) → F' ≠ 0) := by
        unfold j_X3_fittingReplies_37
        rw [if_neg (show ¬ nI 1 = 0 by decide), jiv_n h.1.1, nI_add, nI_add, nI_add, x_sameType h ty hu hv hr (by omega) hx hy2, jb2_some]
        cases hp : pla u v r (x, y) with
        | false =>
          rw [if_pos (show bI false = 0 from rfl)]
          refine skip M ⟨h, m, Ex.rf, fun _ _ => rfl⟩ (fun hw => ?_)
          have := kw_alk hw
          unfold alk at this
          rw [hp, Bool.and_false] at this
          cases this
        | true =>
          rw [if_neg (show ¬ bI true = 0 by decide), jiv_n h.1.1]
          obtain ⟨N1, p1, p2⟩ := x_kww (side := 0) (t := x) (s := y) hu hv hf (by decide) hk hp hal hr ⟨hx, hy2⟩ h m
          rw [p1, jb2_some]
          show ∃ N2 F', (if bI (kw u v k ((x, y) :: r)) = 0 then _ else _) = _ ∧ _
          cases hw : kw u v k ((x, y) :: r) with
          | false =>
            rw [if_pos (show bI false = 0 from rfl)]
            exact skip N1 p2 (fun q => by rw [hw] at q; cases q)
          | true =>
            rw [if_neg (show ¬ bI true = 0 by decide), sb_t y (by omega) F hF]
            simp only [jv, Option.bind_some]
            unfold j_X3_fittingReplies_83
            rw [nI_add]
            have hsb : sb F y true < 64 := sb_64 6 (by decide) y (by omega) F hF true
            have hb2 : ∀ i, (sb F y true).testBit i = true ↔ (i = y ∨ F.testBit i = true) := by
              intro i
              by_cases hi6 : i < 6
              · rw [sb_bit y (by omega) F hF true i hi6]
                by_cases hiy : i = y
                · simp [hiy]
                · simp [hiy]
              · rw [Nat.testBit_lt_two_pow (Nat.lt_of_lt_of_le (show sb F y true < 2 ^ 6 from hsb) (Nat.pow_le_pow_right (by decide) (show 6 ≤ i by omega))), hbit i (by omega)]
                simp; omega
            obtain ⟨N2, F', q1, q2, q3⟩ := ih (y + 1) (sb F y true) N1 p2.1 p2.2.1 (TY_kl hu hv ty p2 (Nat.le_refl _)) (by omega) (by omega) hsb (fun i hi => by
              rcases (hb2 i).mp hi with rfl | q
              · exact ⟨by omega, hw⟩
              · exact ⟨by have := (g1 i q).1; omega, (g1 i q).2⟩) (fun i hi hwi => by
              by_cases hiy : i = y
              · exact Or.inr ((hb2 i).mpr (Or.inl hiy))
              · rcases g2 i (by omega) hwi with q | q
                · exact Or.inl q
                · exact Or.inr ((hb2 i).mpr (Or.inr q))) (fun _ e => by
              have := (hb2 y).mpr (Or.inl rfl)
              rw [e, Nat.zero_testBit] at this
              cases this)
            exact ⟨N2, F', q1, p2.tr q2, q3⟩
      by_cases hF0 : F = 0
      · rw [if_pos (by rw [hF0]; rfl)]
        exact test
      · rw [if_neg (nI_ne0 (by omega) (by omega)), nI_shr (by omega) (by omega)]
        cases hAy : A.testBit y with
        | false =>
          rw [if_pos ((mask3 A hA y (by omega)).mpr hAy)]
          exact test
        | true =>
          rw [if_neg (fun q => by have := (mask3 A hA y (by omega)).mp q; rw [hAy] at this; cases this)]
          unfold j_X3_fittingReplies_37
          rw [if_pos (show nI 0 = 0 from rfl)]
          exact skip M ⟨h, m, Ex.rf, fun _ _ => rfl⟩ (fun _ => ⟨hAy, hF0⟩)
theorem wins_41 (hu : wwf u) (hv : wwf v) {k : Nat} {f : Nat → Int32 → jM → jO Int32} (hf : KC a u v k f) {r : Rw} (hk : k + 1 + r.length ≤ 3) (hal : alk u v r = true) (hr : rv u v r) : ∀ (n x A : Nat) (M : jM), MS M a u v → MR M a r → TY M a u v r → x ≤ u.1 → u.1 - x < n → A < 64 → (∀ i, A.testBit i = true ↔ i < v.1 ∧ ∃ j, j < x ∧ kw u v k ((j, i) :: r) = true) → (∀ j, j < x → ∃ i, i < v.1 ∧ kw u v k ((j, i) :: r) = true) →
    ∃ N, l_X3_keeperWins_41 f n a (nI (k + 1)) (nI (12 * r.length)) (nI A) (nI x) M = some (bI (kw u v (k + 1) r), N) ∧ KL M N a u v r (12 * r.length + 12) := by
  have h6 := hu.1
  have h62 := hv.1
  obtain ⟨n0, hn0⟩ := jF_is
  intro n
  induction n with
  | zero => intro x A M _ _ _ _ h; omega
  | succ n ih =>
    intro x A M h m ty hx hn hA g1 g2
    show ∃ N, b_X3_keeperWins_41 f (l_X3_keeperWins_41 f n) a (nI (k + 1)) (nI (12 * r.length)) (nI A) (nI x) M = _ ∧ _
    unfold b_X3_keeperWins_41
    rw [gR_n h.1.1 h.1.2.1, Option.bind_some, jiv_n h.2.1.1.1, w_size h.2.1, jb2_some]
    by_cases hxu : u.1 ≤ x
    · have e : x = u.1 := by omega
      rw [if_pos (nI_le hxu (by omega)), gR_n h.1.1 h.1.2.2.1, Option.bind_some, jiv_n h.2.2.1.1.1, w_size h.2.2.1, jb2_some, mask1 v.1 h62]
      have hlt : A < 2 ^ v.1 := lt_bits (fun y hy => by
        cases hb : A.testBit y with
        | false => rfl
        | true => have := ((g1 y).mp hb).1; omega)
      have hm := mask2 v.1 h62 A hlt
      have hv1 : (allB u.1 (fun a => anyB v.1 (fun b => kw u v k ((a, b) :: r)))) = true := allB_iff.mpr (fun j hj => anyB_iff.mpr (g2 j (by omega)))
      have hpow : 2 ^ v.1 ≤ 2 ^ 6 := Nat.pow_le_pow_right (by decide) h62
      refine ⟨M, ?_, h, m, Ex.rf, fun _ _ => rfl⟩
      show _ = some (bI (alk u v r && (_ && _)), M)
      rw [hal, hv1, Bool.true_and, Bool.true_and]
      cases hb : allB v.1 (fun b => anyB u.1 (fun a => kw u v k ((a, b) :: r))) with
      | true =>
        rw [if_pos]
        · rfl
        · rw [hm.mpr (fun y hy => (g1 y).mpr ⟨hy, by
            obtain ⟨j, hj, hjw⟩ := anyB_iff.mp (allB_iff.mp hb y hy)
            exact ⟨j, by omega, hjw⟩⟩)]
      | false =>
        rw [if_neg]
        · rfl
        · intro q
          have q2 := (nI_eq (by omega) (by omega)).mp q
          have : allB v.1 (fun b => anyB u.1 (fun a => kw u v k ((a, b) :: r))) = true := allB_iff.mpr (fun y hy => by
            obtain ⟨-, j, hj, hjw⟩ := (g1 y).mp (hm.mp q2 y hy)
            exact anyB_iff.mpr ⟨j, by omega, hjw⟩)
          rw [hb] at this; cases this
    · rw [if_neg (nI_ge (by omega) (by omega)), jiv_n h.1.1]
      have hx2 : x < u.1 := by omega
      obtain ⟨N, F, q1, q2, q3, q4, q5, q6⟩ := fit_6 hu hv hf hk hal hr hx2 hA jF0 0 0 M h m ty (Nat.zero_le _) (by omega) (by decide) (fun i hi => by rw [Nat.zero_testBit] at hi; cases hi) (fun i hi => by omega) (fun ⟨i, hi, _⟩ => by omega)
      unfold f_X3_fittingReplies
      rw [q1, jb2_some]
      by_cases hF0 : F = 0
      · rw [if_pos (by rw [hF0]; rfl)]
        refine ⟨N, ?_, q2⟩
        have : kw u v (k + 1) r = false := by
          cases hkw : kw u v (k + 1) r with
          | false => rfl
          | true =>
            unfold kw at hkw
            rw [Bool.and_eq_true, Bool.and_eq_true] at hkw
            exact absurd hF0 (q6 (anyB_iff.mp (allB_iff.mp hkw.2.1 x hx2)))
        rw [this]; rfl
      · rw [if_neg (nI_ne0 (by omega) (by omega)), nI_or, nI_add]
        simp only [jv, Option.bind_some]
        have hor : A ||| F < 64 := Nat.or_lt_two_pow (n := 6) hA q3
        obtain ⟨N2, p1, p2⟩ := ih (x + 1) (A ||| F) N q2.1 q2.2.1 (TY_kl hu hv ty q2 (Nat.le_refl _)) (by omega) (by omega) hor (fun i => by
          rw [Nat.testBit_or, Bool.or_eq_true]
          constructor
          · rintro (hq | hq)
            · obtain ⟨w1, j, w2, w3⟩ := (g1 i).mp hq
              exact ⟨w1, j, by omega, w3⟩
            · exact ⟨(q4 i hq).1, x, by omega, (q4 i hq).2⟩
          · rintro ⟨w1, j, w2, w3⟩
            by_cases hjx : j = x
            · subst hjx
              exact q5 i w1 w3
            · exact Or.inl ((g1 i).mpr ⟨w1, j, by omega, w3⟩)) (fun j hj => by
          by_cases hjx : j = x
          · subst hjx
            have hne : F ≠ 0 := hF0
            obtain ⟨i, hi⟩ : ∃ i, F.testBit i = true := by
              have : 2 ^ 0 ≤ F := by show 1 ≤ F; omega
              obtain ⟨i, -, hi⟩ := Nat.exists_ge_and_testBit_of_ge_two_pow this
              exact ⟨i, hi⟩
            exact ⟨i, (q4 i hi).1, (q4 i hi).2⟩
          · exact g2 j (by omega))
        exact ⟨N2, p1, q2.tr p2⟩
theorem x_keeperWins (hu : wwf u) (hv : wwf v) : ∀ (n k : Nat), k < n → KC a u v k (f_X3_keeperWins n) := by
  have h6 := hu.1
  obtain ⟨n0, hn0⟩ := jF_is
  intro n
  induction n with
  | zero => intro k h; omega
  | succ n ih =>
    intro k hkn r M hk hal hr h m
    show ∃ N, g_X3_keeperWins (f_X3_keeperWins n) a (nI k) M = _ ∧ _
    unfold g_X3_keeperWins
    cases k with
    | zero =>
      rw [if_pos (show nI 0 ≤ 0 by decide)]
      refine ⟨M, ?_, h, m, Ex.rf, fun _ _ => rfl⟩
      show _ = some (bI (alk u v r), M)
      rw [hal]; rfl
    | succ k =>
      rw [if_neg (nI_nle (by omega) (by omega)), gI_n h.1.1, Option.bind_some, m.1, if_neg (nI_pos (by omega)), Option.bind_some, if_pos (nI_lt (by omega) (by decide)), Option.bind_some, pk_mul, pk_mul, show r.length * 2 * 6 = 12 * r.length by omega]
      simp only [jv, Option.bind_some]
      rw [jiv_n h.1.1]
      obtain ⟨N, q1, q2, q3, q4⟩ := fill_2 hu hv hr (show r.length < 3 by omega) jF0 0 M h m (fun k hk => by omega) (Nat.zero_le _) (by omega)
      unfold f_X3_fillTypes
      rw [q1, jb2_some]
      have hN : KL M N a u v r (12 * r.length) := ⟨MS_ex q2 h (fun c h1 h2 => by omega), MR_ex q2 m (by omega) (by omega), q2.mono (fun c hc => by unfold cK; omega), q4⟩
      obtain ⟨N2, p1, p2⟩ := wins_41 hu hv (ih k (by omega)) (show k + 1 + r.length ≤ 3 by omega) hal hr jF0 0 0 N hN.1 hN.2.1 q3 (Nat.zero_le _) (by omega) (by decide) (fun i => by
        rw [Nat.zero_testBit]
        constructor
        · intro q; cases q
        · rintro ⟨-, j, hj, -⟩; omega) (fun j hj => by omega)
      exact ⟨N2, p1, hN.tr (p2.le (by omega))⟩
end K3
