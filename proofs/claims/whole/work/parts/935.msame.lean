/-! SENTENCES: the reference's same; told on both sides. -/
theorem nr_one {kd on tw kd' on' tw' : Nat → Int32} : ∀ (f : Fm) (p p' q : Nat), Nr kd on tw p q f → Nr kd' on' tw' p' q f → ∀ i, i < sz f → kd (p + i) = kd' (p' + i) ∧ on (p + i) = on' (p' + i) ∧ tw (p + i) = tw' (p' + i)
  | .leaf c, p, p', q, n, m, i, hi => by
    have : i = 0 := by have : i < 1 := hi; omega
    subst this
    obtain ⟨n1, n2, n3⟩ := n
    obtain ⟨m1, m2, m3⟩ := m
    rw [Nat.add_zero, Nat.add_zero]
    exact ⟨n1.trans m1.symm, n2.trans m2.symm, n3.trans m3.symm⟩
  | .branch k l r, p, p', q, n, m, i, hi => by
    simp only [Nr] at n m
    simp only [sz] at hi
    by_cases hk : k = 0
    · rw [if_pos hk] at n m hi
      by_cases hil : i < sz l
      · exact nr_one l p p' q n.1 m.1 i hil
      · have := nr_one r (p + sz l) (p' + sz l) q n.2 m.2 (i - sz l) (by omega)
        rw [show p + sz l + (i - sz l) = p + i by omega, show p' + sz l + (i - sz l) = p' + i by omega] at this
        exact this
    · rw [if_neg hk] at n m hi
      by_cases hi0 : i = 0
      · subst hi0
        rw [Nat.add_zero, Nat.add_zero]
        exact ⟨n.1.1.trans m.1.1.symm, n.1.2.1.trans m.1.2.1.symm, n.1.2.2.trans m.1.2.2.symm⟩
      · have := nr_one l (p + 1) (p' + 1) _ n.2 m.2 (i - 1) (by omega)
        rw [show p + 1 + (i - 1) = p + i by omega, show p' + 1 + (i - 1) = p' + i by omega] at this
        exact this
section SN
variable {M : jM} {S : List Fm}
/-- node k of two sentences -/
def nEq (M : jM) (b c k : Nat) : Prop := rI M 76 (b + k) = rI M 76 (c + k) ∧ rI M 77 (b + k) = rI M 77 (c + k) ∧ rI M 78 (b + k) = rI M 78 (c + k)
theorem same_42 (h : Sh M) {i j n : Nat} (hi : i < 20) (hj : j < 20) (hn : n ≤ 600) (hm : rI M 75 i = nI n) : ∀ (F k : Nat), k ≤ n → n - k < F → (∀ x, x < k → nEq M (600 * i) (600 * j) x) → ∃ r : Bool, l_X12_same_42 F 65 (nI i) (nI j) (nI 1) (nI k) M = some (bI r, M) ∧ (r = true ↔ ∀ x, x < n → nEq M (600 * i) (600 * j) x) := by
  intro F
  induction F with
  | zero => intro k _ z; omega
  | succ F ih =>
    intro k hk hF he
    show ∃ r : Bool, b_X12_same_42 (l_X12_same_42 F) 65 (nI i) (nI j) (nI 1) (nI k) M = _ ∧ _
    unfold b_X12_same_42
    rw [q65_18 h, Option.bind_some, ldI_n (t75 h) hi (by decide), Option.bind_some, hm]
    by_cases hc : n ≤ k
    · obtain rfl : k = n := by omega
      rw [if_pos (nI_le hc (by omega))]
      exact ⟨true, rfl, fun _ => he, fun _ => rfl⟩
    · rw [if_neg (nI_ge (by omega) (by omega)), if_neg (show ¬ nI 1 = 0 by decide), nm_mul, nI_add, nm_mul, nI_add]
      show ∃ r : Bool, ((gR 11 M 65 19).bind fun r5 => (ldB M r5 (nI (600 * i + k))).bind fun x6 => _) = _ ∧ _
      -- one that differs ends it
      have no : ¬ nEq M (600 * i) (600 * j) k → ∃ r : Bool, j_X12_same_132 (l_X12_same_42 F) 65 (nI i) (nI j) (nI k) M = some (bI r, M) ∧ (r = true ↔ ∀ x, x < n → nEq M (600 * i) (600 * j) x) := by
        intro hne
        obtain ⟨F, rfl⟩ : ∃ F', F = F' + 1 := ⟨F - 1, by omega⟩
        refine ⟨false, ?_, ⟨fun z => Bool.noConfusion z, fun z => absurd (z k (by omega)) hne⟩⟩
        unfold j_X12_same_132 j_X12_same_133
        show b_X12_same_42 (l_X12_same_42 F) 65 (nI i) (nI j) (nI 0) (nI k + nI 1) M = _
        unfold b_X12_same_42 j_X12_same_140
        rw [q65_18 h, Option.bind_some, ldI_n (t75 h) hi (by decide), Option.bind_some, hm, if_pos (show nI 0 = 0 from rfl), if_pos (show nI 0 = 0 from rfl), ite_self]
        rfl
      rw [q65_19 h]
      simp only [Option.bind_some]
      rw [ldB_n (t76 h) (show 600 * i + k < 12000 by omega) (by decide), ldB_n (t76 h) (show 600 * j + k < 12000 by omega) (by decide)]
      simp only [Option.bind_some]
      by_cases e1 : rI M 76 (600 * i + k) = rI M 76 (600 * j + k)
      · rw [if_pos e1, q65_20 h]
        simp only [Option.bind_some]
        rw [ldI_n (t77 h) (show 600 * i + k < 12000 by omega) (by decide), ldI_n (t77 h) (show 600 * j + k < 12000 by omega) (by decide)]
        simp only [Option.bind_some]
        by_cases e2 : rI M 77 (600 * i + k) = rI M 77 (600 * j + k)
        · rw [if_pos e2, q65_21 h]
          simp only [Option.bind_some]
          rw [ldB_n (t78 h) (show 600 * i + k < 12000 by omega) (by decide), ldB_n (t78 h) (show 600 * j + k < 12000 by omega) (by decide)]
          simp only [Option.bind_some]
          by_cases e3 : rI M 78 (600 * i + k) = rI M 78 (600 * j + k)
          · rw [if_pos e3]
            unfold j_X12_same_133
            rw [nI_add]
            exact ih (k + 1) (by omega) (by omega) (fun x hx => by
              by_cases hxk : x = k
              · rw [hxk]; exact ⟨e1, e2, e3⟩
              · exact he x (by omega))
          · rw [if_neg e3]; exact no (fun z => e3 z.2.2)
        · rw [if_neg e2]; exact no (fun z => e2 z.2.1)
      · rw [if_neg e1]; exact no (fun z => e1 z.1)
theorem m_samecall (h : Sh M) (hS : SV S) (x : MZ S M) (v y : Int32) : f_X12_same 65 v y M = some (sp_same S v y, M) := by
  have h20 := hS.1
  unfold f_X12_same sp_same
  rw [jiv_n (t65 h), m_noSentence h hS x, jb2_some]
  cases hc : ixo v S.length with
  | none => rfl
  | some i =>
    obtain ⟨hi, rfl⟩ := (ixo_some (by omega)).mp hc
    rw [if_pos (show bI (some i).isNone = 0 from rfl), jiv_n (t65 h), m_noSentence h hS x, jb2_some]
    cases hd' : ixo y S.length with
    | none => rfl
    | some j =>
      obtain ⟨hj, rfl⟩ := (ixo_some (by omega)).mp hd'
      obtain ⟨x1, x2⟩ := x.2 i hi
      obtain ⟨y1, y2⟩ := x.2 j hj
      obtain ⟨w1, w2, -, -⟩ := hS.2 i hi
      obtain ⟨u1, u2, -, -⟩ := hS.2 j hj
      obtain ⟨n0, hn0⟩ := jF_is
      rw [if_pos (show bI (some j).isNone = 0 from rfl), q65_18 h]
      simp only [Option.bind_some]
      rw [ldI_n (t75 h) (show i < 20 by omega) (by decide), ldI_n (t75 h) (show j < 20 by omega) (by decide)]
      simp only [Option.bind_some]
      rw [x1, y1]
      unfold j_X12_same_38
      by_cases hz : sz (gs S i) = sz (gs S j)
      · obtain ⟨r, p1, p2⟩ := same_42 (i := i) (j := j) h (by omega) (by omega) w2 x1 jF0 0 (Nat.zero_le _) (by omega) (fun x hx => absurd hx (Nat.not_lt_zero x))
        rw [if_pos (by rw [hz]), p1]
        have : decide (tx (gs S i) = tx (gs S j)) = r := by
          refine bool_iff ?_
          rw [decide_eq_true_iff, p2]
          constructor
          · intro e
            have e' := wr_inj w1 u1 e
            intro k hk
            have y3 := y2.1
            rw [← e'] at y3
            have := nr_one (gs S i) 0 0 0 x2.1 y3 k hk
            simp only [Nat.zero_add] at this
            exact this
          · intro e
            have := (rp_all (gs S i) 0).1 w1 (gs S j) 0 0 _ _ _ _ _ _ u1 x2.1 y2.1 w2 u2 (fun k hk => by
              obtain ⟨a1, a2, a3⟩ := e k hk
              simp only [Nat.zero_add]
              exact ⟨a1, a2, a3⟩)
            rw [this]
        rw [this]
      · obtain ⟨F, hF⟩ : ∃ F, jF0 = F + 1 := ⟨jF0 - 1, by omega⟩
        rw [if_neg (fun z => hz ((nI_eq (by omega) (by omega)).mp z)), hF, decide_eq_false (fun z => hz (by rw [wr_inj w1 u1 z]))]
        show b_X12_same_42 (l_X12_same_42 F) 65 (nI i) (nI j) (nI 0) (nI 0) M = _
        unfold b_X12_same_42 j_X12_same_140
        rw [q65_18 h, Option.bind_some, ldI_n (t75 h) (show i < 20 by omega) (by decide), Option.bind_some, if_pos (show nI 0 = 0 from rfl), if_pos (show nI 0 = 0 from rfl), ite_self]
        rfl
end SN
