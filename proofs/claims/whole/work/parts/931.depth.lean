/-! DEPTH, on both sides. -/
/-- the greatest number of a quantifier -/
def qm : Nat → Fm → Nat
  | _, .leaf _ => 0
  | q, .branch k l r => if k = 0 then max (qm q l) (qm q r) else if isQ k = true then max (q + 1) (qm (q + 1) l) else qm q l
/-- the quantifiers around place k -/
def nk : Fm → Nat → Nat → Nat
  | .leaf _, _, _ => 0
  | .branch k l r, p, x => if k = 0 then nk l p x + nk r (p + sz l) x else (if isQ k = true ∧ p ≤ x ∧ x < p + (sz l + 1) then 1 else 0) + nk l (p + 1) x
section QD
variable {q k p x : Nat} {l r : Fm}
theorem qm_c : qm q (.branch 0 l r) = max (qm q l) (qm q r) := by rw [qm, if_pos rfl]
theorem qm_q (hk : k = 64 ∨ k = 63) : qm q (.branch k l r) = max (q + 1) (qm (q + 1) l) := by rw [qm, if_neg (by omega), if_pos (hk_Q hk)]
theorem qm_n : qm q (.branch 45 l r) = qm q l := by rw [qm, if_neg (by decide), if_neg (by decide)]
theorem qm_l (hk : k = 38 ∨ k = 124) : qm q (.branch k l r) = qm q l := by rw [qm, if_neg (by omega), if_neg (hk_L hk)]
theorem qd_c : qd (.branch 0 l r) = max (qd l) (qd r) := by rw [qd, if_pos rfl]
theorem qd_q (hk : k = 64 ∨ k = 63) : qd (.branch k l r) = qd l + 1 := by rw [qd, if_neg (by omega), if_pos (hk_Q hk)]
theorem qd_n : qd (.branch 45 l r) = qd l := by rw [qd, if_neg (by decide), if_neg (by decide)]
theorem qd_l (hk : k = 38 ∨ k = 124) : qd (.branch k l r) = qd l := by rw [qd, if_neg (by omega), if_neg (hk_L hk)]
theorem nk_c : nk (.branch 0 l r) p x = nk l p x + nk r (p + sz l) x := by rw [nk, if_pos rfl]
theorem nk_q (hk : k = 64 ∨ k = 63) : nk (.branch k l r) p x = (if p ≤ x ∧ x < p + (sz l + 1) then 1 else 0) + nk l (p + 1) x := by
  rw [nk, if_neg (by omega)]
  simp only [hk_Q hk, true_and]
theorem nk_n : nk (.branch 45 l r) p x = nk l (p + 1) x := by rw [nk, if_neg (by decide), if_neg (fun z => absurd z.1 (by decide)), Nat.zero_add]
theorem nk_l (hk : k = 38 ∨ k = 124) : nk (.branch k l r) p x = nk l (p + 1) x := by rw [nk, if_neg (by omega), if_neg (fun z => hk_L hk z.1), Nat.zero_add]
end QD
theorem qm_qd : ∀ (f : Fm) (q : Nat), qm q f = if qd f = 0 then 0 else q + qd f
  | .leaf _, q => rfl
  | .branch k l r, q => by
    have h1 := qm_qd l q
    have h2 := qm_qd r q
    have h3 := qm_qd l (q + 1)
    rw [qm, qd]
    by_cases hk : k = 0
    · rw [if_pos hk, if_pos hk, h1, h2]
      by_cases a : qd l = 0 <;> by_cases b : qd r = 0
      · rw [if_pos a, if_pos b, if_pos (by omega)]; rfl
      · rw [if_pos a, if_neg b, if_neg (by omega)]; omega
      · rw [if_neg a, if_pos b, if_neg (by omega)]; omega
      · rw [if_neg a, if_neg b, if_neg (by omega)]; omega
    · rw [if_neg hk, if_neg hk]
      by_cases hQ : isQ k = true
      · rw [if_pos hQ, if_pos hQ, h3, if_neg (show ¬ qd l + 1 = 0 by omega)]
        by_cases a : qd l = 0
        · rw [if_pos a]; omega
        · rw [if_neg a]; omega
      · rw [if_neg hQ, if_neg hQ]; exact h1
theorem qm_0 {f : Fm} : qm 0 f = qd f := by
  rw [qm_qd]
  by_cases h : qd f = 0
  · rw [if_pos h, h]
  · rw [if_neg h, Nat.zero_add]
theorem nk_out : ∀ (f : Fm) (p x : Nat), (x < p ∨ p + sz f ≤ x) → nk f p x = 0
  | .leaf _, p, x, _ => rfl
  | .branch k l r, p, x, h => by
    rw [sz] at h
    rw [nk]
    by_cases hk : k = 0
    · rw [if_pos hk] at h ⊢
      rw [nk_out l p x (by omega), nk_out r (p + sz l) x (by omega)]
    · rw [if_neg hk] at h ⊢
      rw [if_neg (by omega), nk_out l (p + 1) x (by omega)]
theorem nk_le : ∀ (f : Fm) (p x : Nat), nk f p x ≤ qd f
  | .leaf _, p, x => Nat.le_refl _
  | .branch k l r, p, x => by
    have h1 := nk_le l p x
    have h2 := nk_le r (p + sz l) x
    have h3 := nk_le l (p + 1) x
    rw [nk, qd]
    by_cases hk : k = 0
    · rw [if_pos hk, if_pos hk]
      by_cases hx : x < p + sz l
      · rw [nk_out r (p + sz l) x (Or.inl hx)]; omega
      · rw [nk_out l p x (Or.inr (by omega))]; omega
    · rw [if_neg hk, if_neg hk]
      by_cases hQ : isQ k = true
      · rw [if_pos hQ]; split <;> omega
      · rw [if_neg hQ, if_neg (fun z => hQ z.1)]; omega
theorem nk_ex : ∀ (f : Fm) (p : Nat), ∃ x, p ≤ x ∧ x < p + sz f ∧ nk f p x = qd f
  | .leaf _, p => ⟨p, Nat.le_refl _, by simp [sz], rfl⟩
  | .branch k l r, p => by
    obtain ⟨x1, a1, a2, a3⟩ := nk_ex l p
    obtain ⟨x2, b1, b2, b3⟩ := nk_ex r (p + sz l)
    obtain ⟨x3, c1, c2, c3⟩ := nk_ex l (p + 1)
    rw [sz, qd]
    by_cases hk : k = 0
    · rw [if_pos hk, if_pos hk]
      by_cases hm : qd r ≤ qd l
      · refine ⟨x1, a1, by omega, ?_⟩
        rw [nk, if_pos hk, nk_out r (p + sz l) x1 (Or.inl a2)]; omega
      · refine ⟨x2, by omega, by omega, ?_⟩
        rw [nk, if_pos hk, nk_out l p x2 (Or.inr b1)]; omega
    · rw [if_neg hk, if_neg hk]
      by_cases hQ : isQ k = true
      · refine ⟨x3, by omega, by omega, ?_⟩
        rw [if_pos hQ, nk, if_neg hk, if_pos ⟨hQ, by omega, by omega⟩]; omega
      · refine ⟨x3, by omega, by omega, ?_⟩
        rw [if_neg hQ, nk, if_neg hk, if_neg (fun z => hQ z.1)]; omega
/-- the greatest among the first n -/
def mx (g : Nat → Nat) : Nat → Nat
  | 0 => 0
  | n + 1 => max (mx g n) (g n)
theorem mx_le {g : Nat → Nat} {b : Nat} (h : ∀ i, g i ≤ b) : ∀ n, mx g n ≤ b
  | 0 => Nat.zero_le _
  | n + 1 => by have := mx_le h n; have := h n; rw [mx]; omega
theorem mx_ge {g : Nat → Nat} : ∀ {n x : Nat}, x < n → g x ≤ mx g n
  | 0, x, h => absurd h (Nat.not_lt_zero x)
  | n + 1, x, h => by
    rw [mx]
    by_cases hx : x = n
    · rw [hx]; omega
    · have := mx_ge (g := g) (n := n) (x := x) (by omega); omega
theorem mx_qd {f : Fm} : mx (nk f 0) (sz f) = qd f := by
  obtain ⟨x, -, h2, h3⟩ := nk_ex f 0
  have a := mx_le (g := nk f 0) (nk_le f 0) (sz f)
  have b := mx_ge (g := nk f 0) (n := sz f) (x := x) (by omega)
  omega
theorem jmx_n {a b : Nat} (ha : a < 2 ^ 31) (hb : b < 2 ^ 31) : jmx (nI a) (nI b) = nI (max a b) := by
  unfold jmx
  by_cases h : a < b
  · rw [if_pos (nI_lt h hb), Nat.max_eq_right (by omega)]
  · rw [if_neg (nI_nlt (by omega) ha), Nat.max_eq_left (by omega)]
theorem qm_a : ∀ f q, (wf 0 q f → qm q f ≤ 8) ∧ (wf 1 q f → qm q f ≤ 8) :=
  fm_ind (P := fun q f => qm q f ≤ 8) (B := fun q f => qm q f ≤ 8) (fun _ _ _ _ => Nat.zero_le _) (fun q l _ ih => by rw [qm_n]; exact ih) (fun q k l hk hq _ ih => by rw [qm_q hk]; omega) (fun q k l hk _ ih => by rw [qm_l hk]; exact ih) (fun _ _ _ ih => ih) (fun q l r _ _ a b => by rw [qm_c]; omega)
theorem qm_8 (f : Fm) (q : Nat) (h : wf 0 q f) : qm q f ≤ 8 := (qm_a f q).1 h
section DC
variable {M : jM} {n : Nat}
def DP (M : jM) (n q : Nat) (f : Fm) : Prop := ∀ (p acc F : Nat), Nx (rI M 33) p q f → p + sz f ≤ n → acc ≤ 8 → l_X4_depth_4 (F + sz f) 32 (nI acc) (nI p) M = l_X4_depth_4 F 32 (nI (max acc (qm q f))) (nI (p + sz f)) M
theorem d_node (h : Sh M) (hn : rI M 32 1 = nI n) (hn8 : n ≤ 800) {p acc F c : Nat} (hp : p < n) (hg : rI M 33 p = nI c) (hc : c < 2 ^ 31) (ha : acc ≤ 8) : l_X4_depth_4 (F + 1) 32 (nI acc) (nI p) M = l_X4_depth_4 F 32 (nI (if isQ (c % 256) = true then max acc (c / 256 % 16) else acc)) (nI (p + 1)) M := by
  show b_X4_depth_4 (l_X4_depth_4 F) 32 (nI acc) (nI p) M = _
  unfold b_X4_depth_4 j_X4_depth_50
  rw [gI_n (t32 h), Option.bind_some, hn, if_neg (nI_ge hp (by omega)), q32_0 h, Option.bind_some, ln_n (t33 h) (by decide) (by decide), Option.bind_some, if_neg (nI_ge (by omega) (by decide)), Option.bind_some, ldI_n (t33 h) (by omega) (by decide), Option.bind_some, hg, n_sign hc, jb2_some, n_isQ (by omega), jb2_some]
  cases hQ : isQ (c % 256) with
  | false => rw [if_pos (show bI false = 0 from rfl), if_neg (by decide), nI_add]
  | true =>
    rw [if_neg (show ¬ bI true = 0 by decide), if_pos rfl, q32_0 h, Option.bind_some, ldI_n (t33 h) (by omega) (by decide), Option.bind_some, hg, n_first hc, jb2_some, jmx_n (by omega) (by omega), nI_add]
    rfl
theorem dp_all (h : Sh M) (hn : rI M 32 1 = nI n) (hn8 : n ≤ 800) : ∀ f q, (wf 0 q f → DP M n q f) ∧ (wf 1 q f → DP M n q f) := by
  refine fm_ind (P := DP M n) (B := DP M n) ?_ ?_ ?_ ?_ (fun _ _ _ ih => ih) ?_
  · intro q c hq ok p acc F hN hp ha
    obtain ⟨c1, -, -, c4, c5, -⟩ := aok_c hq ok
    have hp : p + 1 ≤ n := hp
    have hQ : isQ (aS c) = false := by unfold isQ; rcases c4 with z | z | z | z | z | z <;> rw [z] <;> decide
    show l_X4_depth_4 (F + 1) 32 (nI acc) (nI p) M = _
    rw [d_node h hn hn8 (by omega) (show rI M 33 p = nI (c + 65536) from hN) (by omega) ha, c1, hQ, if_neg (by decide)]
    show _ = l_X4_depth_4 F 32 (nI (max acc 0)) (nI (p + 1)) M
    rw [Nat.max_eq_left (Nat.zero_le _)]
  · intro q l hl ih p acc F hN hp ha
    rw [Nx_n] at hN
    rw [sz_u (by decide)] at hp ⊢
    rw [show F + (sz l + 1) = F + sz l + 1 by omega, d_node h hn hn8 (by omega) hN.1 (by omega) ha, show (45 + 65536 * (sz l + 1)) % 256 = 45 by omega, if_neg (by decide), ih (p + 1) acc F hN.2 (by omega) ha, qm_n, show p + 1 + sz l = p + (sz l + 1) by omega]
  · intro q k l hk hq hl ih p acc F hN hp ha
    rw [Nx_q hk] at hN
    rw [sz_u (by omega)] at hp ⊢
    rw [show F + (sz l + 1) = F + sz l + 1 by omega, d_node h hn hn8 (by omega) hN.1 (by omega) ha, show (k + 256 * (q + 1) + 65536 * (sz l + 1)) % 256 = k by omega, if_pos (hk_Q hk), show (k + 256 * (q + 1) + 65536 * (sz l + 1)) / 256 % 16 = q + 1 by omega, ih (p + 1) (max acc (q + 1)) F hN.2 (by omega) (by omega), qm_q hk, show p + 1 + sz l = p + (sz l + 1) by omega, Nat.max_assoc]
  · intro q k l hk hl ih p acc F hN hp ha
    rw [Nx_l hk] at hN
    rw [sz_u (by omega)] at hp ⊢
    rw [show F + (sz l + 1) = F + sz l + 1 by omega, d_node h hn hn8 (by omega) hN.1 (by omega) ha, show (k + 65536 * (sz l + 1)) % 256 = k by omega, if_neg (hk_L hk), ih (p + 1) acc F hN.2 (by omega) ha, qm_l hk, show p + 1 + sz l = p + (sz l + 1) by omega]
  · intro q l r hl hr ih ih2 p acc F hN hp ha
    rw [Nx_c] at hN
    rw [sz_c] at hp ⊢
    have hql := qm_qd l q
    have hw := wf_q l 0 q hl
    have ha2 : max acc (qm q l) ≤ 8 := by
      have : qm q l ≤ 8 := qm_8 l q hl
      omega
    rw [show F + (sz l + sz r) = F + sz r + sz l by omega, ih p acc (F + sz r) hN.1 (by omega) ha, ih2 (p + sz l) (max acc (qm q l)) F hN.2 (by omega) ha2, qm_c, Nat.max_assoc, Nat.add_assoc]
end DC
