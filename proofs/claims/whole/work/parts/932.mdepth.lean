/-! DEPTH: the class's call, the reference's. -/
section DM
variable {M : jM}
theorem x_depth (h : Sh M) {f : Fm} (hf : wf 0 0 f) (hsz : sz f ≤ 800) (hn : rI M 32 1 = nI (sz f)) (hN : Nx (rI M 33) 0 0 f) : f_X4_depth 32 M = some (nI (qd f), M) := by
  obtain ⟨n0, hn0⟩ := jF_is
  obtain ⟨F, hF⟩ : ∃ F, jF0 = F + 1 + sz f := ⟨jF0 - sz f - 1, by omega⟩
  unfold f_X4_depth
  rw [hF, (dp_all h hn hsz f 0).1 hf 0 0 (F + 1) hN (by omega) (by omega), qm_0, Nat.max_eq_right (Nat.zero_le _), Nat.zero_add]
  show b_X4_depth_4 (l_X4_depth_4 F) 32 (nI (qd f)) (nI (sz f)) M = _
  unfold b_X4_depth_4
  rw [gI_n (t32 h), Option.bind_some, hn, if_pos (nI_le (Nat.le_refl _) (by omega))]
  rfl
variable {s b k m : Nat}
/-- the inner loop's end -/
def dE (k11 : Nat → Int32 → Int32 → Int32 → Int32 → jM → jO Int32) (s b most k d : Nat) (M : jM) : jO Int32 := k11 65 (nI s) (nI b) (nI (max most d)) (nI (k + 1)) M
def DQ (s b : Nat) (M : jM) (q : Nat) (f : Fm) : Prop := ∀ (k11 : Nat → Int32 → Int32 → Int32 → Int32 → jM → jO Int32) (p acc most k F : Nat), HQ b M p q f → p + sz f ≤ 600 → acc + sz f ≤ 2000 → most ≤ 2000 → k < 600 → p ≤ k + 1 →
  l_X12_depthOf_28 k11 (F + sz f) 65 (nI s) (nI b) (nI most) (nI k) (nI acc) (nI p) M = if p + sz f ≤ k + 1 then l_X12_depthOf_28 k11 F 65 (nI s) (nI b) (nI most) (nI k) (nI (acc + nk f p k)) (nI (p + sz f)) M else dE k11 s b most k (acc + nk f p k) M
theorem nk_sz : ∀ (f : Fm) (p x : Nat), nk f p x ≤ sz f
  | .leaf _, p, x => Nat.zero_le _
  | .branch k l r, p, x => by
    have h1 := nk_sz l p x
    have h2 := nk_sz r (p + sz l) x
    have h3 := nk_sz l (p + 1) x
    rw [nk, sz]
    by_cases hk : k = 0
    · rw [if_pos hk, if_pos hk]; omega
    · rw [if_neg hk, if_neg hk]; split <;> omega
theorem d_end {k11 : Nat → Int32 → Int32 → Int32 → Int32 → jM → jO Int32} {p acc most F : Nat} (hp : k < p) (hp6 : p ≤ 600) (ha : acc ≤ 2000) (hm : most ≤ 2000) : l_X12_depthOf_28 k11 (F + 1) 65 (nI s) (nI b) (nI most) (nI k) (nI acc) (nI p) M = dE k11 s b most k acc M := by
  show b_X12_depthOf_28 k11 (l_X12_depthOf_28 k11 F) 65 (nI s) (nI b) (nI most) (nI k) (nI acc) (nI p) M = _
  unfold b_X12_depthOf_28 j_X12_depthOf_103 dE
  rw [if_pos (nI_lt hp (by omega)), nI_add]
  by_cases hc : acc ≤ most
  · rw [if_pos (nI_le hc (by omega)), Nat.max_eq_left hc]
  · rw [if_neg (nI_ge (by omega) (by omega)), Nat.max_eq_right (by omega)]
theorem d_step (h : Sh M) (hb : b + 600 ≤ 12000) {k11 : Nat → Int32 → Int32 → Int32 → Int32 → jM → jO Int32} {p acc most F K e : Nat} (hp : p ≤ k) (hk6 : k < 600) (hp6 : p < 600) (hK : rI M 76 (b + p) = nI K) (hK12 : K < 12) (he : rI M 79 (b + p) = nI e) (he6 : e ≤ 600) : l_X12_depthOf_28 k11 (F + 1) 65 (nI s) (nI b) (nI most) (nI k) (nI acc) (nI p) M = l_X12_depthOf_28 k11 F 65 (nI s) (nI b) (nI most) (nI k) (nI (acc + (if (K = 2 ∨ K = 3) ∧ k < e then 1 else 0))) (nI (p + 1)) M := by
  show b_X12_depthOf_28 k11 (l_X12_depthOf_28 k11 F) 65 (nI s) (nI b) (nI most) (nI k) (nI acc) (nI p) M = _
  unfold b_X12_depthOf_28 j_X12_depthOf_63 j_X12_depthOf_81 j_X12_depthOf_82
  have ne : ∀ j : Nat, j < 12 → K ≠ j → ¬ nI K = nI j := fun j hj e z => e ((nI_eq (by omega) (by omega)).mp z)
  rw [if_neg (nI_nlt hp (by omega)), q65_19 h]
  simp only [Option.bind_some]
  rw [nI_add, ldB_n (t76 h) (by omega) (by decide), hK, q65_22 h]
  simp only [Option.bind_some]
  rw [ldI_n (t79 h) (by omega) (by decide), he]
  simp only [Option.bind_some]
  have fin : ∀ x : Nat, ((jv (nI acc + nI x)).bind fun y1 => l_X12_depthOf_28 k11 F 65 (nI s) (nI b) (nI most) (nI k) y1 (nI p + nI 1) M) = l_X12_depthOf_28 k11 F 65 (nI s) (nI b) (nI most) (nI k) (nI (acc + x)) (nI (p + 1)) M := fun x => by rw [nI_add, nI_add]; rfl
  have cond : ∀ c : Prop, [Decidable c] → (c ↔ K = 2 ∨ K = 3) → True := fun _ _ _ => trivial
  have mid : (K = 2 ∨ K = 3) → (if nI e ≤ nI k then ((jv (nI acc + nI 0)).bind fun y1 => l_X12_depthOf_28 k11 F 65 (nI s) (nI b) (nI most) (nI k) y1 (nI p + nI 1) M) else ((jv (nI acc + nI 1)).bind fun y1 => l_X12_depthOf_28 k11 F 65 (nI s) (nI b) (nI most) (nI k) y1 (nI p + nI 1) M)) = l_X12_depthOf_28 k11 F 65 (nI s) (nI b) (nI most) (nI k) (nI (acc + (if (K = 2 ∨ K = 3) ∧ k < e then 1 else 0))) (nI (p + 1)) M := by
    intro hKQ
    by_cases hc : e ≤ k
    · rw [if_pos (nI_le hc (by omega)), fin, if_neg (by omega)]
    · rw [if_neg (nI_ge (by omega) (by omega)), fin, if_pos ⟨hKQ, by omega⟩]
  by_cases h2 : K = 2
  · rw [if_pos (by rw [h2])]; exact mid (Or.inl h2)
  · rw [if_neg (ne 2 (by decide) h2)]
    by_cases h3 : K = 3
    · rw [if_pos (by rw [h3])]; exact mid (Or.inr h3)
    · rw [if_neg (ne 3 (by decide) h3), fin, if_neg (by omega)]
/-- a node and what is below it -/
theorem dq_un (h : Sh M) (hb : b + 600 ≤ 12000) {q q' kk K x : Nat} {l : Fm} (hkk : kk ≠ 0) (hK12 : K < 12) (hx : ∀ p k, nk (.branch kk l (.leaf 0)) p k = (if (K = 2 ∨ K = 3) ∧ p ≤ k ∧ k < p + (sz l + 1) then 1 else 0) + nk l (p + 1) k) (ih : DQ s b M q' l) {k11 : Nat → Int32 → Int32 → Int32 → Int32 → jM → jO Int32} {p acc most k F : Nat} (hK : rI M 76 (b + p) = nI K) (hQ : HQ b M (p + 1) q' l) (he : rI M 79 (b + p) = nI (p + (sz l + 1))) (hp : p + (sz l + 1) ≤ 600) (ha : acc + (sz l + 1) ≤ 2000) (hm : most ≤ 2000) (hk : k < 600) (hpk : p ≤ k + 1) :
    l_X12_depthOf_28 k11 (F + (sz l + 1)) 65 (nI s) (nI b) (nI most) (nI k) (nI acc) (nI p) M = if p + (sz l + 1) ≤ k + 1 then l_X12_depthOf_28 k11 F 65 (nI s) (nI b) (nI most) (nI k) (nI (acc + nk (.branch kk l (.leaf 0)) p k)) (nI (p + (sz l + 1))) M else dE k11 s b most k (acc + nk (.branch kk l (.leaf 0)) p k) M := by
  have hz := sz_pos l
  rw [show F + (sz l + 1) = F + sz l + 1 by omega]
  by_cases hp1 : p = k + 1
  · rw [d_end (by omega) (by omega) (by omega) hm, if_neg (by omega), nk_out _ _ _ (Or.inl (by omega))]
    rfl
  · have := ih k11 (p + 1) (acc + (if (K = 2 ∨ K = 3) ∧ k < p + (sz l + 1) then 1 else 0)) most k F hQ (by omega) (by split <;> omega) hm hk (by omega)
    have hY : (if (K = 2 ∨ K = 3) ∧ p ≤ k ∧ k < p + (sz l + 1) then 1 else 0) = (if (K = 2 ∨ K = 3) ∧ k < p + (sz l + 1) then 1 else 0) := by
      by_cases hc : (K = 2 ∨ K = 3) ∧ k < p + (sz l + 1)
      · rw [if_pos hc, if_pos ⟨hc.1, by omega, hc.2⟩]
      · rw [if_neg hc, if_neg (fun z => hc ⟨z.1, z.2.2⟩)]
    rw [d_step h hb (by omega) hk (by omega) hK hK12 he (by omega), this, hx, hY, show p + 1 + sz l = p + (sz l + 1) by omega, Nat.add_assoc acc]
theorem dq_all (h : Sh M) (hb : b + 600 ≤ 12000) : ∀ f q, (wf 0 q f → DQ s b M q f) ∧ (wf 1 q f → DQ s b M q f) := by
  refine fm_ind (P := DQ s b M) (B := DQ s b M) ?_ ?_ ?_ ?_ (fun _ _ _ ih => ih) ?_
  · intro q c hq ok k11 p acc most k F hQ hp ha hm hk hpk
    have hp : p + 1 ≤ 600 := hp
    have hK : rI M 76 (b + p) = nI (rk (aS c)) := hQ.1.1
    have he : rI M 79 (b + p) = nI (p + 1) := hQ.2
    have hK6 : 6 ≤ rk (aS c) ∧ rk (aS c) < 12 := by
      have sg := (aok_c hq ok).2.2.2.1
      rcases sg with z | z | z | z | z | z <;> rw [z] <;> decide
    show l_X12_depthOf_28 k11 (F + 1) 65 (nI s) (nI b) (nI most) (nI k) (nI acc) (nI p) M = if p + 1 ≤ k + 1 then l_X12_depthOf_28 k11 F 65 (nI s) (nI b) (nI most) (nI k) (nI (acc + 0)) (nI (p + 1)) M else dE k11 s b most k (acc + 0) M
    have ha : acc + 1 ≤ 2000 := ha
    by_cases hp1 : p = k + 1
    · rw [d_end (by omega) (by omega) (by omega) hm, if_neg (by omega)]; rfl
    · rw [d_step h hb (by omega) hk (by omega) hK hK6.2 he (by omega), if_neg (by omega), if_pos (by omega)]
  · intro q l hl ih k11 p acc most k F hQ hp ha hm hk hpk
    obtain ⟨r1, r2⟩ := hQ
    rw [Nr_n] at r1
    rw [Ne_u (by decide)] at r2
    rw [sz_u (by decide)] at hp ha ⊢
    exact dq_un (x := 0) (q := q) h hb (by decide) (by decide) (fun p k => by rw [nk_n, if_neg (by omega), Nat.zero_add]) ih r1.1.1 ⟨r1.2, r2.2⟩ r2.1 hp ha hm hk hpk
  · intro q kk l hkk hq hl ih k11 p acc most k F hQ hp ha hm hk hpk
    obtain ⟨r1, r2⟩ := hQ
    rw [Nr_q hkk] at r1
    rw [Ne_u (by omega)] at r2
    rw [sz_u (by omega)] at hp ha ⊢
    refine dq_un (x := 0) (q := q) h hb (by omega) (by split <;> decide) (fun p k => ?_) ih r1.1.1 ⟨r1.2, r2.2⟩ r2.1 hp ha hm hk hpk
    rw [nk_q hkk]
    have hKq : (if kk = 64 then 2 else 3) = 2 ∨ (if kk = 64 then 2 else 3) = 3 := by split; exact Or.inl rfl; exact Or.inr rfl
    simp only [hKq, true_and]
  · intro q kk l hkk hl ih k11 p acc most k F hQ hp ha hm hk hpk
    obtain ⟨r1, r2⟩ := hQ
    rw [Nr_l hkk] at r1
    rw [Ne_u (by omega)] at r2
    rw [sz_u (by omega)] at hp ha ⊢
    exact dq_un (x := 0) (q := q) h hb (by omega) (by split <;> decide) (fun p k => by rw [nk_l hkk, if_neg (by split <;> omega), Nat.zero_add]) ih r1.1.1 ⟨r1.2, r2.2⟩ r2.1 hp ha hm hk hpk
  · intro q l r hl hr ih ih2 k11 p acc most k F hQ hp ha hm hk hpk
    obtain ⟨r1, r2⟩ := hQ
    rw [Nr_c] at r1
    rw [Ne_c] at r2
    rw [sz_c] at hp ha ⊢
    have hz2 := sz_pos r
    have n1 := nk_sz l p k
    rw [show F + (sz l + sz r) = F + sz r + sz l by omega, ih k11 p acc most k (F + sz r) ⟨r1.1, r2.1⟩ (by omega) (by omega) hm hk hpk, nk_c]
    by_cases hc : p + sz l ≤ k + 1
    · rw [if_pos hc, ih2 k11 (p + sz l) (acc + nk l p k) most k F ⟨r1.2, r2.2⟩ (by omega) (by omega) hm hk hc, Nat.add_assoc, Nat.add_assoc]
    · rw [if_neg hc, if_neg (by omega), nk_out r _ _ (Or.inl (by omega)), Nat.add_zero]
theorem m_depth_11 (h : Sh M) (hs : s < 20) {f : Fm} (hf : wf 0 0 f) (hsz : sz f ≤ 600) (hQ : HQ (600 * s) M 0 0 f) (hm : rI M 75 s = nI (sz f)) : ∀ (F k : Nat), k ≤ sz f → sz f - k < F → l_X12_depthOf_11 F 65 (nI s) (nI (600 * s)) (nI (mx (nk f 0) k)) (nI k) M = some (nI (qd f), M) := by
  obtain ⟨n0, hn0⟩ := jF_is
  have hq8 : ∀ n, mx (nk f 0) n ≤ 600 := fun n => Nat.le_trans (mx_le (fun i => nk_sz f 0 i) n) hsz
  intro F
  induction F with
  | zero => intro k _ z; omega
  | succ F ih =>
    intro k hk hF
    show b_X12_depthOf_11 (l_X12_depthOf_11 F) 65 (nI s) (nI (600 * s)) (nI (mx (nk f 0) k)) (nI k) M = _
    unfold b_X12_depthOf_11
    rw [q65_18 h, Option.bind_some, ldI_n (t75 h) hs (by decide), Option.bind_some, hm]
    by_cases hc : sz f ≤ k
    · obtain rfl : k = sz f := by omega
      rw [if_pos (nI_le hc (by omega)), mx_qd]
      rfl
    · obtain ⟨G, hG⟩ : ∃ G, jF0 = G + 1 + sz f := ⟨jF0 - sz f - 1, by omega⟩
      have := (dq_all (s := s) h (show 600 * s + 600 ≤ 12000 by omega) f 0).1 hf (l_X12_depthOf_11 F) 0 0 (mx (nk f 0) k) k (G + 1) hQ (by omega) (by omega) (by have := hq8 k; omega) (by omega) (by omega)
      have n1 := nk_sz f 0 k
      have n2 := hq8 k
      rw [if_neg (nI_ge (by omega) (by omega)), hG, this]
      have fin : dE (l_X12_depthOf_11 F) s (600 * s) (mx (nk f 0) k) k (0 + nk f 0 k) M = some (nI (qd f), M) := by
        unfold dE
        rw [Nat.zero_add]
        exact ih (k + 1) (by omega) (by omega)
      by_cases hcc : 0 + sz f ≤ k + 1
      · rw [if_pos hcc, d_end (by omega) (by omega) (by omega) (by omega)]; exact fin
      · rw [if_neg hcc]; exact fin
theorem m_depthOf (h : Sh M) (hs : s < 20) {f : Fm} (hf : wf 0 0 f) (hsz : sz f ≤ 600) (hQ : HQ (600 * s) M 0 0 f) (hm : rI M 75 s = nI (sz f)) : f_X12_depthOf 65 (nI s) M = some (nI (qd f), M) := by
  obtain ⟨n0, hn0⟩ := jF_is
  unfold f_X12_depthOf
  rw [nm_mul]
  exact m_depth_11 h hs hf hsz hQ hm jF0 0 (Nat.zero_le _) (by omega)
end DM
