/-! SENTENCES: the reference keeps one. -/
def PE (b lo hi c k : Nat) : Prop := c = 79 ∧ b + lo ≤ k ∧ k < b + hi
theorem jv_b {α β : Type} {x : α} {f : α → Option β} : (jv x).bind f = f x := rfl
section FE
variable {b : Nat}
def NQ (b : Nat) (M : jM) (p q : Nat) (f : Fm) : Prop := Nr (fun i => rI M 76 (b + i)) (fun i => rI M 77 (b + i)) (fun i => rI M 78 (b + i)) p q f
theorem NQ_ey {P : Nat → Nat → Prop} {p q : Nat} {f : Fm} {M N : jM} (e : Ey P M N) (hP : ∀ c k, 76 ≤ c → c ≤ 78 → ¬ P c k) (h : NQ b M p q f) : NQ b N p q f := Nr_congr f p p q (fun i _ => ⟨ey_rI e (hP _ _ (by decide) (by decide)), ey_rI e (hP _ _ (by decide) (by decide)), ey_rI e (hP _ _ (by decide) (by decide))⟩) h
def FP (b q : Nat) (f : Fm) : Prop := ∀ (p F : Nat) (M : jM), Sh M → NQ b M p q f → p + sz f ≤ 600 → ∃ N, l_X12_findEnds_13 (F + sz f) 65 (nI b) (nI (p + sz f) + (-1 : Int32)) M = l_X12_findEnds_13 F 65 (nI b) (nI p + (-1 : Int32)) N ∧ Ey (PE b p (p + sz f)) M N ∧ Ne b (rI N 79) p f
/-- from part to part -/
def FB (b q : Nat) (f : Fm) : Prop := ∀ (k13 : Nat → Int32 → Int32 → jM → jO Unit) (p F n i tot : Nat) (v : Int32) (M : jM), Sh M → Ne b (rI M 79) p f → p + sz f ≤ 600 → b + 600 ≤ 12000 → i + np f = tot → tot ≤ 700 → l_X12_findEnds_75 k13 (F + np f) 65 (nI b) v (nI n) (nI tot) (nI p) (nI i) M = l_X12_findEnds_75 k13 F 65 (nI b) v (nI n) (nI tot) (nI (p + sz f)) (nI tot) M
theorem fb_step {k13 : Nat → Int32 → Int32 → jM → jO Unit} {p F n i tot e : Nat} {v : Int32} {M : jM} (h : Sh M) (hi : i < tot) (ht : tot ≤ 700) (hp : b + p < 12000) (he : rI M 79 (b + p) = nI e) : l_X12_findEnds_75 k13 (F + 1) 65 (nI b) v (nI n) (nI tot) (nI p) (nI i) M = l_X12_findEnds_75 k13 F 65 (nI b) v (nI n) (nI tot) (nI e) (nI (i + 1)) M := by
  show b_X12_findEnds_75 k13 (l_X12_findEnds_75 k13 F) 65 (nI b) v (nI n) (nI tot) (nI p) (nI i) M = _
  unfold b_X12_findEnds_75
  rw [if_neg (nI_ge hi (by omega)), q65_22 h, Option.bind_some, nI_add, ldI_n (t79 h) hp (by decide), Option.bind_some, he, nI_add]
theorem fb_all : ∀ f q, (wf 0 q f → FB b q f) ∧ (wf 1 q f → FB b q f) := by
  have one : ∀ q f, wf 0 q f → FB b q f := by
    intro q f hf k13 p F n i tot v M h hN hp hb hi ht
    have hz := sz_pos f
    rw [np_0 hf] at hi ⊢
    rw [fb_step h (by omega) ht (by omega) (Ne_0 hf hN), hi]
  refine fm_ind (P := FB b) (B := FB b) ?_ ?_ ?_ ?_ (fun q f hf _ => one q f hf) ?_
  · intro q c hq ok; exact one q _ ⟨by decide, hq, ok⟩
  · intro q l hl _; exact one q _ (by simp only [wf]; rw [if_neg (by decide)]; exact ⟨by decide, trivial, hl⟩)
  · intro q k l hk hq hl _; exact one q _ (by simp only [wf]; rw [if_neg (by omega), if_neg (by omega), if_pos (hk_Q hk)]; exact ⟨by decide, trivial, hq, hl⟩)
  · intro q k l hk hl _; exact one q _ (by simp only [wf]; rw [if_neg (by omega), if_neg (by omega), if_neg (hk_L hk), if_pos hk]; exact ⟨by decide, trivial, hl⟩)
  · intro q l r hl hr ih ih2 k13 p F n i tot v M h hN hp hb hi ht
    rw [Ne_c] at hN
    rw [sz_c] at hp ⊢
    rw [np_c] at hi ⊢
    have hz := sz_pos l
    have hz2 := sz_pos r
    have hn := np_le r
    rw [show F + (np r + 1) = F + np r + 1 by omega, fb_step h (by omega) ht (by omega) (Ne_0 hl hN.1), ih2 k13 (p + sz l) F n (i + 1) tot v M h hN.2 (by omega) hb (by omega) ht, Nat.add_assoc]
/-- a node: its parts, then its end -/
theorem fe_node {F p K on n e : Nat} {M : jM} (h : Sh M) (hb : b + 600 ≤ 12000) (hp : p < 600) (hK : rI M 76 (b + p) = nI K) (hK12 : K < 12) (ho : rI M 77 (b + p) = nI on) (hn : n = (if K = 4 ∨ K = 5 then on else if K ≤ 3 then 1 else 0)) (hn7 : n ≤ 700)
    (hlp : ∀ (k13 : Nat → Int32 → Int32 → jM → jO Unit) (v : Int32) (G : Nat), l_X12_findEnds_75 k13 (G + n) 65 (nI b) v (nI (b + p)) (nI n) (nI (p + 1)) (nI 0) M = l_X12_findEnds_75 k13 G 65 (nI b) v (nI (b + p)) (nI n) (nI e) (nI n) M) :
    l_X12_findEnds_13 (F + 1) 65 (nI b) (nI (p + 1) + (-1 : Int32)) M = l_X12_findEnds_13 F 65 (nI b) (nI p + (-1 : Int32)) (wI M 79 (b + p) (nI e)) := by
  obtain ⟨n0, hn0⟩ := jF_is
  have fin : j_X12_findEnds_65 (l_X12_findEnds_13 F) 65 (nI b) (nI p) (nI (b + p)) (nI n) M = l_X12_findEnds_13 F 65 (nI b) (nI p + (-1 : Int32)) (wI M 79 (b + p) (nI e)) := by
    unfold j_X12_findEnds_65
    rw [nI_add, jv_b]
    obtain ⟨G, hG⟩ : ∃ G, jF0 = G + 1 + n := ⟨jF0 - n - 1, by omega⟩
    rw [hG, hlp]
    show b_X12_findEnds_75 (l_X12_findEnds_13 F) (l_X12_findEnds_75 (l_X12_findEnds_13 F) G) 65 (nI b) (nI p) (nI (b + p)) (nI n) (nI e) (nI n) M = _
    unfold b_X12_findEnds_75
    rw [if_pos (nI_le (Nat.le_refl _) (by omega)), q65_22 h, Option.bind_some, stI_n (t79 h) (by omega) (by decide), Option.bind_some]
  have f41 : j_X12_findEnds_41 (l_X12_findEnds_13 F) 65 (nI b) (nI p) (nI (b + p)) M = j_X12_findEnds_65 (l_X12_findEnds_13 F) 65 (nI b) (nI p) (nI (b + p)) (nI on) M := by
    unfold j_X12_findEnds_41
    rw [q65_20 h, Option.bind_some, ldI_n (t77 h) (show b + p < 12000 by omega) (by decide), Option.bind_some, ho]
  have ld : ldB M 76 (nI (b + p)) = some (nI K) := by rw [ldB_n (t76 h) (show b + p < 12000 by omega) (by decide), hK]
  have ne : ∀ j : Nat, j < 12 → K ≠ j → ¬ nI K = nI j := fun j hj e z => e ((nI_eq (by omega) (by omega)).mp z)
  show b_X12_findEnds_13 (l_X12_findEnds_13 F) 65 (nI b) (nI (p + 1) + (-1 : Int32)) M = _
  unfold b_X12_findEnds_13
  rw [pk_m1, if_neg (nI_pos (by omega)), nI_add, jv_b, q65_19 h, Option.bind_some, ld, Option.bind_some, f41]
  by_cases h4 : K = 4
  · rw [if_pos (Or.inl h4)] at hn
    rw [if_pos (by rw [h4]), ← hn]; exact fin
  · rw [if_neg (ne 4 (by decide) h4), Option.bind_some, ld, Option.bind_some]
    by_cases h5 : K = 5
    · rw [if_pos (Or.inr h5)] at hn
      rw [if_pos (by rw [h5]), ← hn]; exact fin
    · rw [if_neg (ne 5 (by decide) h5), Option.bind_some, ld, Option.bind_some]
      rw [if_neg (by omega)] at hn
      by_cases h3 : K ≤ 3
      · rw [if_pos h3] at hn
        rw [if_neg (nI_nlt h3 (by omega)), ← hn]; exact fin
      · rw [if_neg h3] at hn
        rw [if_pos (nI_lt (by omega) (by omega)), ← hn]; exact fin
theorem fp_all (hb : b + 600 ≤ 12000) : ∀ f q, (wf 0 q f → FP b q f) ∧ (wf 1 q f → FP b q f) := by
  -- a node over its one formula, or its parts
  have un : ∀ (q q' k K on n : Nat) (l : Fm), k ≠ 0 → wf 1 q' l → FP b q' l → (∀ (M : jM) (p : Nat), NQ b M p q (.branch k l (.leaf 0)) → rI M 76 (b + p) = nI K ∧ rI M 77 (b + p) = nI on ∧ NQ b M (p + 1) q' l) → K < 12 → n = (if K = 4 ∨ K = 5 then on else if K ≤ 3 then 1 else 0) → n = np l → FP b q (.branch k l (.leaf 0)) := by
    intro q q' k K on n l hk hwl ih hN hK12 hn hnp p F M h hQ hp
    have hz := sz_pos l
    have hnl := np_le l
    rw [sz_u hk] at hp ⊢
    obtain ⟨a1, a2, a3⟩ := hN M p hQ
    obtain ⟨N, p1, p2, p3⟩ := ih (p + 1) (F + 1) M h a3 (by omega)
    have hNs := Sh_ey p2 h
    refine ⟨wI N 79 (b + p) (nI (p + (sz l + 1))), ?_, ?_, ?_⟩
    · rw [show F + (sz l + 1) = F + 1 + sz l by omega, show p + (sz l + 1) = p + 1 + sz l by omega, p1]
      refine fe_node (on := on) (n := n) hNs hb (by omega) (by rw [ey_rI p2 (by unfold PE; omega)]; exact a1) hK12 (by rw [ey_rI p2 (by unfold PE; omega)]; exact a2) hn (by omega) (fun k13 v G => ?_)
      rw [hnp]
      exact (fb_all l q').2 hwl k13 (p + 1) G (b + p) 0 (np l) v N hNs p3 (by omega) hb (by omega) (by omega)
    · exact ey_wI (p2.mono (fun c k hc => by unfold PE at hc ⊢; omega)) (by unfold PE; omega)
    · rw [Ne_u hk]
      refine ⟨by rw [rI_wI, if_pos ⟨rfl, rfl⟩], Ne_congr l (p + 1) (fun i hi => by rw [rI_wI, if_neg (by omega)]) p3⟩
  refine fm_ind (P := FP b) (B := FP b) ?_ ?_ ?_ ?_ (fun _ _ _ ih => ih) ?_
  · intro q c hq ok p F M h hQ hp
    have hp : p + 1 ≤ 600 := hp
    have hK6 : 6 ≤ rk (aS c) ∧ rk (aS c) < 12 := by
      have sg := (aok_c hq ok).2.2.2.1
      rcases sg with z | z | z | z | z | z <;> rw [z] <;> decide
    refine ⟨wI M 79 (b + p) (nI (p + 1)), ?_, ey_wI Ey.rf (by unfold PE; show 79 = 79 ∧ _ ∧ _ < b + (p + 1); omega), by show rI (wI M 79 (b + p) (nI (p + 1))) 79 (b + p) = _; rw [rI_wI, if_pos ⟨rfl, rfl⟩]⟩
    show l_X12_findEnds_13 (F + 1) 65 (nI b) (nI (p + 1) + (-1 : Int32)) M = _
    exact fe_node (on := aA c - 1) (n := 0) h hb (by omega) hQ.1 hK6.2 hQ.2.1 (by rw [if_neg (by omega), if_neg (by omega)]) (by omega) (fun k13 v G => rfl)
  · intro q l hl ih
    exact un q q 45 1 0 1 l (by decide) (wf_01 hl) ih (fun M p hQ => by unfold NQ at hQ; rw [Nr_n] at hQ; exact ⟨hQ.1.1, hQ.1.2.1, hQ.2⟩) (by decide) (by decide) (np_0 hl).symm
  · intro q k l hk hq hl ih
    exact un q (q + 1) k (if k = 64 then 2 else 3) q 1 l (by omega) (wf_01 hl) ih (fun M p hQ => by unfold NQ at hQ; rw [Nr_q hk] at hQ; exact ⟨hQ.1.1, hQ.1.2.1, hQ.2⟩) (by split <;> decide) (by split <;> rfl) (np_0 hl).symm
  · intro q k l hk hl ih
    exact un q q k (if k = 38 then 4 else 5) (np l) (np l) l (by omega) (wf_21 hl) ih (fun M p hQ => by unfold NQ at hQ; rw [Nr_l hk] at hQ; exact ⟨hQ.1.1, hQ.1.2.1, hQ.2⟩) (by split <;> decide) (by rw [if_pos (by split; exact Or.inl rfl; exact Or.inr rfl)]) rfl
  · intro q l r hl hr ih ih2 p F M h hQ hp
    unfold NQ at hQ
    rw [Nr_c] at hQ
    rw [sz_c] at hp ⊢
    obtain ⟨N1, p1, p2, p3⟩ := ih2 (p + sz l) (F + sz l) M h hQ.2 (by omega)
    obtain ⟨N2, r1, r2, r3⟩ := ih p F N1 (Sh_ey p2 h) (NQ_ey p2 (fun c k h1 h2 => by unfold PE; omega) hQ.1) (by omega)
    refine ⟨N2, ?_, (p2.mono (fun c k hc => by unfold PE at hc ⊢; omega)).tr (r2.mono (fun c k hc => by unfold PE at hc ⊢; omega)), ?_⟩
    · rw [show F + (sz l + sz r) = F + sz l + sz r by omega, show p + (sz l + sz r) = p + sz l + sz r by omega, p1, r1]
    · rw [Ne_c]
      exact ⟨r3, Ne_congr r (p + sz l) (fun i hi => by rw [ey_rI r2 (by unfold PE; omega)]) p3⟩
end FE
