/-! SENTENCES: the reference's keep. -/
theorem fit7 : ∀ v, v < 128 → (nI v).toInt8.toInt32 = nI v := by decide +kernel
def N8 (q : Nat) (f : Fm) : Prop := ∀ (kd on tw : Nat → Int32) (p i : Nat), Nr kd on tw p q f → i < sz f → (∃ v, v < 128 ∧ kd (p + i) = nI v) ∧ ∃ u, u < 128 ∧ tw (p + i) = nI u
theorem n8_all : ∀ f q, (wf 0 q f → N8 q f) ∧ (wf 1 q f → N8 q f) := by
  have un : ∀ (q q' k : Nat) (l : Fm), k ≠ 0 → N8 q' l → (∀ (kd on tw : Nat → Int32) (p : Nat), Nr kd on tw p q (.branch k l (.leaf 0)) → (∃ v, v < 128 ∧ kd p = nI v) ∧ tw p = nI 0 ∧ Nr kd on tw (p + 1) q' l) → N8 q (.branch k l (.leaf 0)) := by
    intro q q' k l hk ih hN kd on tw p i n hi
    rw [sz_u hk] at hi
    obtain ⟨a1, a2, a3⟩ := hN kd on tw p n
    by_cases h0 : i = 0
    · subst h0; exact ⟨a1, 0, by decide, a2⟩
    · have := ih kd on tw (p + 1) (i - 1) a3 (by omega)
      rw [show p + 1 + (i - 1) = p + i by omega] at this
      exact this
  refine fm_ind (P := N8) (B := N8) ?_ ?_ ?_ ?_ (fun _ _ _ ih => ih) ?_
  · intro q c hq ok kd on tw p i n hi
    have : i = 0 := by have : i < 1 := hi; omega
    subst this
    obtain ⟨n1, n2, n3⟩ := n
    obtain ⟨-, -, -, c4, -, c6, c7⟩ := aok_c hq ok
    refine ⟨⟨rk (aS c), ?_, n1⟩, aB c - 1, by omega, n3⟩
    rcases c4 with z | z | z | z | z | z <;> rw [z] <;> decide
  · intro q l hl ih
    exact un q q 45 l (by decide) ih (fun kd on tw p n => by rw [Nr_n] at n; exact ⟨⟨1, by decide, n.1.1⟩, n.1.2.2, n.2⟩)
  · intro q k l hk hq hl ih
    exact un q (q + 1) k l (by omega) ih (fun kd on tw p n => by rw [Nr_q hk] at n; exact ⟨⟨_, by split <;> decide, n.1.1⟩, n.1.2.2, n.2⟩)
  · intro q k l hk hl ih
    exact un q q k l (by omega) ih (fun kd on tw p n => by rw [Nr_l hk] at n; exact ⟨⟨_, by split <;> decide, n.1.1⟩, n.1.2.2, n.2⟩)
  · intro q l r hl hr ih ih2 kd on tw p i n hi
    rw [Nr_c] at n
    rw [sz_c] at hi
    by_cases hc : i < sz l
    · exact ih kd on tw p i n.1 hc
    · have := ih2 kd on tw (p + sz l) (i - sz l) n.2 (by omega)
      rw [show p + sz l + (i - sz l) = p + i by omega] at this
      exact this
/-- the reference's new nodes are f's -/
def MN (f : Fm) (M : jM) : Prop := rI M 65 23 = nI (sz f) ∧ Nr (rI M 80) (rI M 81) (rI M 82) 0 0 f
def PJ (b c k : Nat) : Prop := (c = 76 ∨ c = 77 ∨ c = 78) ∧ b ≤ k ∧ k < b + 600
def PK (c k : Nat) : Prop := (75 ≤ c ∧ c ≤ 79) ∨ (c = 65 ∧ k = 17)
section MK
variable {b n : Nat}
theorem keep_24 {M : jM} (h : Sh M) (hb : b + 600 ≤ 12000) (hn6 : n ≤ 600) (hv : ∀ i, i < n → (∃ v, v < 128 ∧ rI M 80 i = nI v) ∧ ∃ u, u < 128 ∧ rI M 82 i = nI u) {k24 : Nat → Int32 → Int32 → jM → jO Int32} (hn : rI M 65 23 = nI n) : ∀ (F t : Nat) (N : jM), Ey (PJ b) M N → t ≤ n → n - t < F → (∀ i, i < t → rI N 76 (b + i) = rI M 80 i ∧ rI N 77 (b + i) = rI M 81 i ∧ rI N 78 (b + i) = rI M 82 i) →
    ∃ N' F', l_X12_keep_24 F 65 (nI b) (nI t) N = l_X12_keep_24 (F' + 1) 65 (nI b) (nI n) N' ∧ Ey (PJ b) M N' ∧ (∀ i, i < n → rI N' 76 (b + i) = rI M 80 i ∧ rI N' 77 (b + i) = rI M 81 i ∧ rI N' 78 (b + i) = rI M 82 i) := by
  intro F
  induction F with
  | zero => intro t N _ _ z; omega
  | succ F ih =>
    intro t N e ht hF he
    by_cases hc : n ≤ t
    · obtain rfl : t = n := by omega
      exact ⟨N, F, rfl, e, he⟩
    · have hN := Sh_ey e h
      have o : ∀ c k, c = 80 ∨ c = 81 ∨ c = 82 ∨ c = 65 → rI N c k = rI M c k := fun c k hc => ey_rI e (by unfold PJ; omega)
      obtain ⟨⟨v, v1, v2⟩, u, u1, u2⟩ := hv t (by omega)
      show ∃ N' F', b_X12_keep_24 (l_X12_keep_24 F) 65 (nI b) (nI t) N = _ ∧ _
      unfold b_X12_keep_24
      rw [gI_n (t65 hN), Option.bind_some, o 65 23 (by omega), hn, if_neg (nI_ge (by omega) (by omega)), q65_19 hN, Option.bind_some, q65_24 hN, Option.bind_some, ldB_n (t80 hN) (by omega) (by decide), Option.bind_some, o 80 t (by omega), nI_add, stB_n (t76 hN) (by omega) (by decide), v2, fit7 v v1, Option.bind_some]
      generalize hN1 : wI N 76 (b + t) (nI v) = N1
      have e1 : Ey (PJ b) M N1 := by rw [← hN1]; exact ey_wI e (by unfold PJ; omega)
      have h1 := Sh_ey e1 h
      have o1 : ∀ c k, c = 80 ∨ c = 81 ∨ c = 82 ∨ c = 65 → rI N1 c k = rI M c k := fun c k hc => ey_rI e1 (by unfold PJ; omega)
      rw [q65_20 h1, Option.bind_some, q65_25 h1, Option.bind_some, ldI_n (t81 h1) (by omega) (by decide), Option.bind_some, o1 81 t (by omega), stI_n (t77 h1) (by omega) (by decide), Option.bind_some]
      generalize hN2 : wI N1 77 (b + t) (rI M 81 t) = N2
      have e2 : Ey (PJ b) M N2 := by rw [← hN2]; exact ey_wI e1 (by unfold PJ; omega)
      have h2 := Sh_ey e2 h
      have o2 : ∀ c k, c = 80 ∨ c = 81 ∨ c = 82 ∨ c = 65 → rI N2 c k = rI M c k := fun c k hc => ey_rI e2 (by unfold PJ; omega)
      rw [q65_21 h2, Option.bind_some, q65_26 h2, Option.bind_some, ldB_n (t82 h2) (by omega) (by decide), Option.bind_some, o2 82 t (by omega), stB_n (t78 h2) (by omega) (by decide), u2, fit7 u u1, Option.bind_some, nI_add]
      have e3 : Ey (PJ b) M (wI N2 78 (b + t) (nI u)) := ey_wI e2 (by unfold PJ; omega)
      refine ih (t + 1) _ e3 (by omega) (by omega) (fun i hi => ?_)
      rw [rI_wI, if_neg (by omega), rI_wI, if_neg (by omega), rI_wI, ← hN2, rI_wI, if_neg (by omega), rI_wI, rI_wI, if_neg (c := 78 = 77 ∧ b + i = b + t) (by omega), ← hN1, rI_wI, rI_wI, if_neg (c := 77 = 76 ∧ b + i = b + t) (by omega), rI_wI, if_neg (c := 78 = 76 ∧ b + i = b + t) (by omega)]
      by_cases hit : i = t
      · subst hit
        rw [if_pos ⟨rfl, rfl⟩, if_pos ⟨rfl, rfl⟩, if_pos ⟨rfl, rfl⟩]
        exact ⟨v2.symm, rfl, u2.symm⟩
      · rw [if_neg (by omega), if_neg (by omega), if_neg (by omega)]
        exact he i (by omega)
theorem m_keep {M : jM} {S : List Fm} {f : Fm} (h : Sh M) (hS : SV S) (x : MZ S M) (hl : S.length < 20) (hf : wf 0 0 f) (hsz : sz f ≤ 600) (hn : MN f M) :
    ∃ N, f_X12_keep 65 M = some (nI S.length, N) ∧ MZ (S ++ [f]) N ∧ Ey PK M N := by
  obtain ⟨n0, hn0⟩ := jF_is
  obtain ⟨hn1, hn2⟩ := hn
  have hz := sz_pos f
  unfold f_X12_keep
  rw [gI_n (t65 h), Option.bind_some, x.1, nm_mul, jv_b, q65_18 h, Option.bind_some, Option.bind_some, gI_n (t65 h), Option.bind_some, hn1, stI_n (t75 h) (by omega) (by decide), Option.bind_some]
  generalize hM1 : wI M 75 S.length (nI (sz f)) = M1
  have e1 : Ey PK M M1 := by rw [← hM1]; exact ey_wI Ey.rf (by unfold PK; omega)
  have h1 := Sh_ey e1 h
  have o1 : ∀ c k, ¬ (c = 75 ∧ k = S.length) → rI M1 c k = rI M c k := fun c k hc => by rw [← hM1, rI_wI, if_neg hc]
  have v8 := fun i hi => (n8_all f 0).1 hf (rI M 80) (rI M 81) (rI M 82) 0 i hn2 hi
  obtain ⟨M2, F, p1, p2, p3⟩ := keep_24 (b := 600 * S.length) (n := sz f) (k24 := l_X12_keep_24 0) h1 (by omega) hsz (fun i hi => by
    rw [o1 _ _ (by omega), o1 _ _ (by omega)]
    have := v8 i hi
    rw [Nat.zero_add] at this
    exact this) (by rw [o1 _ _ (by omega)]; exact hn1) jF0 0 M1 Ey.rf (Nat.zero_le _) (by omega) (fun i hi => absurd hi (Nat.not_lt_zero i))
  have h2 := Sh_ey p2 h1
  have q2 : NQ (600 * S.length) M2 0 0 f := Nr_congr f 0 0 0 (fun i hi => by
    rw [Nat.zero_add]
    obtain ⟨a1, a2, a3⟩ := p3 i hi
    rw [o1 _ _ (by omega)] at a1 a2 a3
    exact ⟨a1, a2, a3⟩) hn2
  rw [p1]
  show ∃ N, b_X12_keep_24 (l_X12_keep_24 F) 65 (nI (600 * S.length)) (nI (sz f)) M2 = _ ∧ _
  have c23 : rI M2 65 23 = nI (sz f) := by rw [ey_rI p2 (by unfold PJ; omega), o1 _ _ (by omega)]; exact hn1
  have c75 : rI M2 75 S.length = nI (sz f) := by rw [ey_rI p2 (by unfold PJ; omega), ← hM1, rI_wI, if_pos ⟨rfl, rfl⟩]
  have c17 : rI M2 65 17 = nI S.length := by rw [ey_rI p2 (by unfold PJ; omega), o1 _ _ (by omega)]; exact x.1
  unfold b_X12_keep_24
  rw [gI_n (t65 h2), Option.bind_some, c23, if_pos (nI_le (Nat.le_refl _) (by omega)), jiv_n (t65 h2)]
  -- the ends
  have fe : ∃ N, f_X12_findEnds 65 (nI (600 * S.length)) M2 = some ((), N) ∧ Ey (PE (600 * S.length) 0 (0 + sz f)) M2 N ∧ Ne (600 * S.length) (rI N 79) 0 f := by
    obtain ⟨G, hG⟩ : ∃ G, jF0 = G + 1 + sz f := ⟨jF0 - sz f - 1, by omega⟩
    obtain ⟨N, s1, s2, s3⟩ := (fp_all (show 600 * S.length + 600 ≤ 12000 by omega) f 0).1 hf 0 (G + 1) M2 h2 q2 (by omega)
    unfold f_X12_findEnds
    have hdv : dv (nI (600 * S.length)) (nI 600) = some (nI S.length) := by
      unfold dv
      rw [if_neg (by decide), pk_div (by omega) (by decide) (by decide), show 600 * S.length / 600 = S.length by omega]
    rw [q65_18 h2, Option.bind_some, hdv, Option.bind_some, ldI_n (t75 h2) (by omega) (by decide), Option.bind_some, c75, pk_sub (by omega), jv_b, hG]
    rw [Nat.zero_add, show nI (sz f) + (-1 : Int32) = nI (sz f - 1) from by rw [show sz f = sz f - 1 + 1 by omega, pk_m1]; rfl] at s1
    rw [s1]
    refine ⟨N, ?_, s2, s3⟩
    show b_X12_findEnds_13 (l_X12_findEnds_13 G) 65 (nI (600 * S.length)) (nI 0 + (-1 : Int32)) N = _
    unfold b_X12_findEnds_13
    rw [if_pos (by decide)]
    rfl
  obtain ⟨M3, s1, s2, s3⟩ := fe
  have h3 := Sh_ey s2 h2
  have c17' : rI M3 65 17 = nI S.length := by rw [ey_rI s2 (by unfold PE; omega)]; exact c17
  rw [s1, jb2_some, gI_n (t65 h3), Option.bind_some, c17', nI_add, pI_n (t65 h3), Option.bind_some]
  generalize hN : wI M3 65 17 (nI (S.length + 1)) = N
  have e2 : Ey PK M1 M2 := p2.mono (fun c k hc => by unfold PJ at hc; unfold PK; omega)
  have e3 : Ey PK M2 M3 := s2.mono (fun c k hc => by unfold PE at hc; unfold PK; omega)
  have eM := (e1.tr e2).tr e3
  have eN : Ey PK M N := by rw [← hN]; exact ey_wI eM (by unfold PK; omega)
  have iN : ∀ c k, ¬ (c = 65 ∧ k = 17) → rI N c k = rI M3 c k := fun c k hc => by rw [← hN, rI_wI, if_neg hc]
  have n17 : rI N 65 17 = nI (S.length + 1) := by rw [← hN, rI_wI, if_pos ⟨rfl, rfl⟩]
  rw [gI_n (t65 (Sh_ey eN h)), Option.bind_some, n17, pk_sub (by omega), show S.length + 1 - 1 = S.length by omega]
  refine ⟨N, rfl, ⟨by rw [n17, List.length_append]; rfl, fun i hi => ?_⟩, eN⟩
  rw [List.length_append] at hi
  have hi : i < S.length + 1 := hi
  by_cases hc : i < S.length
  · rw [gs_lt hc]
    obtain ⟨a1, a2⟩ := x.2 i hc
    have hw : sz (gs S i) ≤ 600 := (hS.2 i hc).2.1
    have old : ∀ c k, k < 600 * S.length → 76 ≤ c → c ≤ 79 → rI N c k = rI M c k := fun c k hk h1 h2 => by
      rw [iN _ _ (by omega), ey_rI s2 (by unfold PE; omega), ey_rI p2 (by unfold PJ; omega), o1 _ _ (by omega)]
    refine ⟨by rw [iN _ _ (by omega), ey_rI s2 (by unfold PE; omega), ey_rI p2 (by unfold PJ; omega), o1 _ _ (by omega)]; exact a1, Nr_congr _ 0 0 0 (fun j hj => ⟨old _ _ (by omega) (by decide) (by decide), old _ _ (by omega) (by decide) (by decide), old _ _ (by omega) (by decide) (by decide)⟩) a2.1, Ne_congr _ 0 (fun j hj => old _ _ (by omega) (by decide) (by decide)) a2.2⟩
  · obtain rfl : i = S.length := by omega
    rw [gs_eq]
    refine ⟨by rw [iN _ _ (by omega), ey_rI s2 (by unfold PE; omega)]; exact c75, Nr_congr f 0 0 0 (fun j hj => ⟨?_, ?_, ?_⟩) q2, Ne_congr f 0 (fun j hj => by rw [iN _ _ (by omega)]) s3⟩
    · rw [iN _ _ (by omega), ey_rI s2 (by unfold PE; omega)]
    · rw [iN _ _ (by omega), ey_rI s2 (by unfold PE; omega)]
    · rw [iN _ _ (by omega), ey_rI s2 (by unfold PE; omega)]
end MK
