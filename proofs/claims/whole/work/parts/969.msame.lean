/-! PARTINGS: the reference looks whether a part stands earlier; it closes a list. -/
def NRp (M : jM) (p q : Nat) (f : Fm) : Prop := Nr (rI M 80) (rI M 81) (rI M 82) p q f
def NrL (M : jM) (q : Nat) : Nat → List Fm → Prop
  | _, [] => True
  | p, f :: fs => NRp M p q f ∧ NrL M q (p + sz f) fs
theorem NRp_same {M N : jM} {p p' q : Nat} {f : Fm} (e : ∀ i, i < sz f → rI N 80 (p' + i) = rI M 80 (p + i) ∧ rI N 81 (p' + i) = rI M 81 (p + i) ∧ rI N 82 (p' + i) = rI M 82 (p + i)) (h : NRp M p q f) : NRp N p' q f := Nr_congr f p p' q e h
theorem NrL_same {M N : jM} {q : Nat} : ∀ (fs : List Fm) (p : Nat), (∀ i, p ≤ i → i < p + szL fs → rI N 80 i = rI M 80 i ∧ rI N 81 i = rI M 81 i ∧ rI N 82 i = rI M 82 i) → NrL M q p fs → NrL N q p fs
  | [], _, _, _ => trivial
  | f :: fs, p, e, h => by
    rw [szL_c] at e
    exact ⟨NRp_same (fun i hi => e _ (by omega) (by omega)) h.1, NrL_same fs (p + sz f) (fun i i1 i2 => e i (by omega) (by omega)) h.2⟩
theorem NrL_app {M : jM} {q : Nat} {f : Fm} : ∀ (fs : List Fm) (p : Nat), NrL M q p fs → NRp M (p + szL fs) q f → NrL M q p (fs ++ [f])
  | [], p, _, h => ⟨h, trivial⟩
  | x :: fs, p, h, k => by
    rw [szL_c, ← Nat.add_assoc] at k
    exact ⟨h.1, NrL_app fs (p + sz x) h.2 k⟩
theorem NrL_tr {M : jM} {q : Nat} : ∀ (fs : List Fm) (p : Nat), fs ≠ [] → NrL M q p fs → NRp M p q (tr fs)
  | [], _, h, _ => absurd rfl h
  | [f], p, _, h => h.1
  | f :: x :: fs, p, _, h => by
    unfold NRp
    rw [tr_2, Nr_c]
    exact ⟨h.1, NrL_tr (x :: fs) (p + sz f) (by simp) h.2⟩
theorem tr_np {q : Nat} : ∀ (fs : List Fm), fs ≠ [] → (∀ f ∈ fs, wf 0 q f) → np (tr fs) = fs.length
  | [], h, _ => absurd rfl h
  | [f], _, h => np_0 (h f (by simp))
  | f :: x :: fs, _, h => by
    rw [tr_2, np_c, tr_np (x :: fs) (by simp) (fun y hy => h y (by simp only [List.mem_cons] at hy ⊢; exact Or.inr hy))]
    rfl
theorem nI_pm {w x : Nat} : nI (w + 1) + (nI x - nI 1) = nI (w + x) := by
  rw [Int32.sub_eq_add_neg, ← Int32.add_assoc, nI_add, ← Int32.sub_eq_add_neg, pk_sub (by omega)]
  congr 1
  omega
section ST
variable {M : jM}
def TP (M : jM) (q : Nat) (f : Fm) : Prop := ∀ (F w p : Nat), NRp M p q f → p + sz f ≤ 1000 → w + sz f ≤ 2000 → l_X12_stops_4 (F + sz f) 65 (nI (w + 1)) (nI p) M = l_X12_stops_4 F 65 (nI w) (nI (p + sz f)) M
def TB (M : jM) (q : Nat) (f : Fm) : Prop := ∀ (F w p : Nat), NRp M p q f → p + sz f ≤ 1000 → w + sz f ≤ 2000 → l_X12_stops_4 (F + sz f) 65 (nI (w + np f)) (nI p) M = l_X12_stops_4 F 65 (nI w) (nI (p + sz f)) M
theorem stop_1 (h : Sh M) {F w p K x : Nat} (hp : p < 1000) (hw : w ≤ 2000) (hk : rI M 80 p = nI K) (hK : K < 12) (hx : (if K = 4 ∨ K = 5 then rI M 81 p else if 3 < K then nI 0 else nI 1) = nI x) : l_X12_stops_4 (F + 1) 65 (nI (w + 1)) (nI p) M = l_X12_stops_4 F 65 (nI (w + x)) (nI (p + 1)) M := by
  show b_X12_stops_4 (l_X12_stops_4 F) 65 (nI (w + 1)) (nI p) M = _
  unfold b_X12_stops_4 j_X12_stops_29 j_X12_stops_49
  rw [if_neg (nI_nle (by omega) (by omega)), q65_24 h, Option.bind_some, ldB_n (t80 h) hp (by decide), Option.bind_some, hk]
  have ne : ∀ y, y < 12 → (nI K = nI y ↔ K = y) := fun y hy => nI_eq (by omega) (by omega)
  by_cases h4 : K = 4
  · rw [if_pos (Or.inl h4)] at hx
    rw [if_pos ((ne 4 (by decide)).mpr h4), q65_25 h, Option.bind_some, ldI_n (t81 h) hp (by decide), Option.bind_some, hx, jv_b, nI_pm, nI_add]
  · rw [if_neg (fun z => h4 ((ne 4 (by decide)).mp z))]
    by_cases h5 : K = 5
    · rw [if_pos (Or.inr h5)] at hx
      rw [if_pos ((ne 5 (by decide)).mpr h5), q65_25 h, Option.bind_some, ldI_n (t81 h) hp (by decide), Option.bind_some, hx, jv_b, nI_pm, nI_add]
    · rw [if_neg (by omega)] at hx
      rw [if_neg (fun z => h5 ((ne 5 (by decide)).mp z))]
      by_cases h3 : 3 < K
      · rw [if_pos h3] at hx
        rw [if_pos (nI_lt h3 (by omega)), hx, jv_b, nI_pm, nI_add]
      · rw [if_neg h3] at hx
        rw [if_neg (nI_nlt (by omega) (by decide)), jv_b, nI_pm, nI_add, ← nI_add w 1, hx, nI_add]
theorem stop_all (h : Sh M) : ∀ f q, (wf 0 q f → TP M q f) ∧ (wf 1 q f → TB M q f) := by
  refine fm_ind (P := TP M) (B := TB M) ?_ ?_ ?_ ?_ ?_ ?_
  · intro q c hq ok F w p n hp hw
    obtain ⟨n1, -, -⟩ := n
    have h6 : 6 ≤ rk (aS c) ∧ rk (aS c) < 12 := by
      have := (aok_m hq ok).2
      unfold aS
      rcases this with h | h | h | h | h | h <;> rw [h] <;> decide
    have hs : sz (.leaf c : Fm) = 1 := rfl
    rw [hs] at hp hw ⊢
    rw [stop_1 h (x := 0) (by omega) (by omega) n1 h6.2 (by rw [if_neg (by omega), if_pos (by omega)]), Nat.add_zero]
  · intro q l hl ih F w p n hp hw
    unfold NRp at n
    simp only [Nr] at n
    rw [if_neg (by decide), if_neg (by decide)] at n
    rw [sz_u (by decide)] at hp hw ⊢
    rw [← Nat.add_assoc, stop_1 h (K := 1) (x := 1) (by omega) (by omega) n.1.1 (by decide) (by rw [if_neg (by decide), if_neg (by decide)]), ih F w (p + 1) n.2 (by omega) (by omega), show p + 1 + sz l = p + (sz l + 1) by omega]
  · intro q k l hk hq hl ih F w p n hp hw
    unfold NRp at n
    simp only [Nr] at n
    rw [if_neg (by omega), if_pos (hk_Q hk), if_pos (hk_Q hk)] at n
    rw [sz_u (by omega)] at hp hw ⊢
    have hK : rk k = 2 ∨ rk k = 3 := by rcases hk with rfl | rfl <;> decide
    rw [← Nat.add_assoc, stop_1 h (K := rk k) (x := 1) (by omega) (by omega) n.1.1 (by omega) (by rw [if_neg (by omega), if_neg (by omega)]), ih F w (p + 1) n.2 (by omega) (by omega), show p + 1 + sz l = p + (sz l + 1) by omega]
  · intro q k l hk hl ih F w p n hp hw
    unfold NRp at n
    simp only [Nr] at n
    rw [if_neg (by omega), if_neg (hk_L hk), if_neg (by omega), if_neg (hk_L hk)] at n
    rw [sz_u (by omega)] at hp hw ⊢
    have hK : rk k = 4 ∨ rk k = 5 := rk_38 hk
    have hnp := (np_le l).2
    rw [← Nat.add_assoc, stop_1 h (K := rk k) (x := np l) (by omega) (by omega) n.1.1 (by omega) (by rw [if_pos hK]; exact n.1.2.1)]
    rw [ih F w (p + 1) n.2 (by omega) (by omega), show p + 1 + sz l = p + (sz l + 1) by omega]
  · intro q f hf ih F w p n hp hw
    rw [np_0 hf]
    exact ih F w p n hp hw
  · intro q l r hl hr ih ih2 F w p n hp hw
    unfold NRp at n
    rw [Nr_c] at n
    rw [sz_c] at hp hw ⊢
    have hnr := (np_le r).2
    rw [np_c]
    rw [show F + (sz l + sz r) = F + sz r + sz l by omega, show w + (np r + 1) = w + np r + 1 by omega, ih (F + sz r) (w + np r) p n.1 (by omega) (by omega), ih2 F w (p + sz l) n.2 (by omega) (by omega), Nat.add_assoc]
end ST
