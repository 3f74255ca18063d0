/-! The class's World: joined, turned, counted, seen. -/
def sm (f : Nat → Nat) : Nat → Nat
  | 0 => 0
  | n + 1 => sm f n + f n
theorem sm_le {f : Nat → Nat} {c : Nat} (h : ∀ k, f k ≤ c) : ∀ n, sm f n ≤ c * n
  | 0 => Nat.le_refl _
  | n + 1 => by
    show sm f n + f n ≤ c * (n + 1)
    have := sm_le h n
    have := h n
    rw [Nat.mul_succ]; omega
def sw (i j c : Nat) : Nat := if c = i then j else if c = j then i else c
/-- bits i and j of a row change places -/
def xb (r i j : Nat) : Nat := r ^^^ (((((r >>> i) ^^^ (r >>> j)) &&& 1) <<< i) ^^^ ((((r >>> i) ^^^ (r >>> j)) &&& 1) <<< j))
theorem xb_i : ∀ i, i < 6 → ∀ j, j < 6 → ∀ r, r < 64 → nI r ^^^ (((((nI r >>> (nI i &&& 31)) ^^^ (nI r >>> (nI j &&& 31))) &&& nI 1) <<< (nI i &&& 31)) ^^^ ((((nI r >>> (nI i &&& 31)) ^^^ (nI r >>> (nI j &&& 31))) &&& nI 1) <<< (nI j &&& 31))) = nI (xb r i j) := by decide +kernel
theorem xb_lt : ∀ n, n ≤ 6 → ∀ i, i < n → ∀ j, j < n → ∀ r, r < 2 ^ n → xb r i j < 2 ^ n := by decide +kernel
theorem xb_bit : ∀ i, i < 6 → ∀ j, j < 6 → ∀ r, r < 64 → ∀ d, d < 6 → (xb r i j).testBit d = r.testBit (sw i j d) := by decide +kernel
theorem xb_0 : ∀ i, i < 6 → ∀ j, j < 6 → xb 0 i j = 0 := by decide +kernel
/-- w with i and j in each other's places -/
def tw (u : Wd) (i j : Nat) : Wd := (u.1, fun c => u.2.1 (sw i j c), fun c => xb (u.2.2 (sw i j c)) i j)
/-- both, one behind the other -/
def jn2 (u v : Wd) : Wd := (u.1 + v.1, fun c => if c < u.1 then u.2.1 c else v.2.1 (c - u.1), fun c => if c < u.1 then u.2.2 c else v.2.2 (c - u.1) <<< u.1)
theorem tw_wf {u : Wd} {i j : Nat} (hu : wwf u) (hi : i < u.1) (hj : j < u.1) : wwf (tw u i j) := by
  have h6 := hu.1
  refine ⟨hu.1, fun k => hu.2.1 _, fun k => xb_lt u.1 hu.1 i hi j hj _ (hu.2.2.1 _), fun k hk => ?_⟩
  have hk : u.1 ≤ k := hk
  have e : sw i j k = k := by unfold sw; rw [if_neg (by omega), if_neg (by omega)]
  show u.2.1 (sw i j k) = 0 ∧ xb (u.2.2 (sw i j k)) i j = 0
  rw [e, (hu.2.2.2 k hk).1, (hu.2.2.2 k hk).2, xb_0 i (by omega) j (by omega)]
  exact ⟨rfl, rfl⟩
theorem jn2_wf {u v : Wd} (hu : wwf u) (hv : wwf v) (h : u.1 + v.1 ≤ 6) : wwf (jn2 u v) := by
  refine ⟨h, fun k => ?_, fun k => ?_, fun k hk => ?_⟩
  · show (if k < u.1 then u.2.1 k else v.2.1 (k - u.1)) < 4
    split
    · exact hu.2.1 _
    · exact hv.2.1 _
  · show (if k < u.1 then u.2.2 k else v.2.2 (k - u.1) <<< u.1) < 2 ^ (u.1 + v.1)
    split
    · exact Nat.lt_of_lt_of_le (hu.2.2.1 _) (Nat.pow_le_pow_right (by decide) (by omega))
    · rw [Nat.shiftLeft_eq, Nat.add_comm, Nat.pow_add]
      exact Nat.mul_lt_mul_of_pos_right (hv.2.2.1 _) (Nat.two_pow_pos _)
  · have hk : u.1 + v.1 ≤ k := hk
    show (if k < u.1 then u.2.1 k else v.2.1 (k - u.1)) = 0 ∧ (if k < u.1 then u.2.2 k else v.2.2 (k - u.1) <<< u.1) = 0
    rw [if_neg (by omega), if_neg (by omega), (hv.2.2.2 (k - u.1) (by omega)).1, (hv.2.2.2 (k - u.1) (by omega)).2]
    simp
section W4
variable {M : jM} {a b : Nat} {u v : Wd}
theorem exchange_l {i j : Nat} (hi : i < 6) (hj : j < 6) : ∀ (n c : Nat) (M : jM) (r : Nat → Nat), isW M a → (∀ k, k < 6 → rI M (a + 2) k = nI (r k)) → (∀ k, r k < 64) → c ≤ 6 → 6 - c < n → ∃ N, l_X9_exchange_74 n a (nI i) (nI j) (nI c) M = some ((), N) ∧ Ex (fun q => q = a + 2) M N ∧ (∀ k, k < 6 → rI N (a + 2) k = nI (if c ≤ k then xb (r k) i j else r k)) := by
  intro n
  induction n with
  | zero => intro c M r _ _ _ _ h; omega
  | succ n ih =>
    intro c M r h1 h2 hr hc hn
    show ∃ N, b_X9_exchange_74 (l_X9_exchange_74 n) a (nI i) (nI j) (nI c) M = some ((), N) ∧ _
    unfold b_X9_exchange_74
    by_cases hc6 : 6 ≤ c
    · rw [if_pos (nI_le hc6 (by omega))]
      exact ⟨M, rfl, Ex.rf, fun k hk => by rw [if_neg (by omega)]; exact h2 k hk⟩
    · rw [if_neg (nI_ge (by omega) (by decide)), gR_n h1.1 h1.2.2.1, Option.bind_some, ldI_n h1.2.2.2.2 (by omega) (by decide), Option.bind_some, h2 c (by omega)]
      simp only [jv, Option.bind_some]
      rw [stI_n h1.2.2.2.2 (by omega) (by decide), Option.bind_some, nI_add, xb_i i hi j hj (r c) (hr c)]
      have e1 : Ex (fun q => q = a + 2) M (wI M (a + 2) c (nI (xb (r c) i j))) := ex_wI Ex.rf rfl
      obtain ⟨N, q1, q2, q3⟩ := ih (c + 1) _ (fun k => if k = c then xb (r c) i j else r k) (isW_ex e1 h1) (fun k hk => by
        rw [rI_wI]
        simp only [true_and]
        by_cases hkc : k = c
        · rw [if_pos hkc, if_pos hkc]
        · rw [if_neg hkc, if_neg hkc]; exact h2 k hk) (fun k => by
        show (if k = c then xb (r c) i j else r k) < 64
        split
        · exact xb_lt 6 (by decide) i hi j hj _ (hr c)
        · exact hr k) (by omega) (by omega)
      refine ⟨N, q1, e1.tr q2, fun k hk => ?_⟩
      rw [q3 k hk]
      by_cases hkc : k = c
      · subst hkc; rw [if_neg (by omega), if_pos rfl, if_pos (Nat.le_refl _)]
      · by_cases hkc2 : c ≤ k
        · rw [if_pos (by omega), if_neg hkc, if_pos hkc2]
        · rw [if_neg (by omega), if_neg hkc, if_neg hkc2]
theorem w_exchange (h : Wat M a u) (hu : wwf u) {i j : Nat} (hi : i < u.1) (hj : j < u.1) : ∃ N, f_X9_exchange a (nI i) (nI j) M = some ((), N) ∧ Wat N a (tw u i j) ∧ Ex (cW a) M N := by
  have h6 := hu.1
  simp only [f_X9_exchange, jiv_n h.1.1, w_hasN h hu.1 (show i < 2 ^ 31 by omega), w_hasN h hu.1 (show j < 2 ^ 31 by omega), jb2_some, bI_z, decide_eq_false_iff_not]
  rw [if_neg (by simpa using hi), if_neg (by simpa using hj), gR_n h.1.1 h.1.2.1]
  simp only [Option.bind_some]
  rw [ldI_n h.1.2.2.2.1 (show i < 6 by omega) (by decide), ldI_n h.1.2.2.2.1 (show j < 6 by omega) (by decide)]
  simp only [Option.bind_some, h.2.2.1 i (show i < 6 by omega), h.2.2.1 j (show j < 6 by omega)]
  rw [stI_n h.1.2.2.2.1 (show i < 6 by omega) (by decide)]
  simp only [Option.bind_some]
  have e1 : Ex (cW a) M (wI M (a + 1) i (nI (u.2.1 j))) := ex_wI Ex.rf (Or.inr (Or.inl rfl))
  have w1 := isW_ex e1 h.1
  rw [gR_n w1.1 w1.2.1]
  simp only [Option.bind_some]
  rw [stI_n w1.2.2.2.1 (show j < 6 by omega) (by decide)]
  simp only [Option.bind_some]
  have e2 : Ex (cW a) M (wI (wI M (a + 1) i (nI (u.2.1 j))) (a + 1) j (nI (u.2.1 i))) := ex_wI e1 (Or.inr (Or.inl rfl))
  have w2 := isW_ex e2 h.1
  rw [gR_n w2.1 w2.2.2.1]
  simp only [Option.bind_some]
  rw [ldI_n w2.2.2.2.2 (show i < 6 by omega) (by decide), ldI_n w2.2.2.2.2 (show j < 6 by omega) (by decide)]
  simp only [Option.bind_some]
  rw [stI_n w2.2.2.2.2 (show i < 6 by omega) (by decide)]
  simp only [Option.bind_some]
  have r0 : ∀ k, k < 6 → rI (wI (wI M (a + 1) i (nI (u.2.1 j))) (a + 1) j (nI (u.2.1 i))) (a + 2) k = nI (u.2.2 k) := fun k hk => by
    simp only [rI_wI]; rw [if_neg (by omega), if_neg (by omega)]; exact h.2.2.2 k hk
  have m0 : ∀ k, k < 6 → rI (wI (wI M (a + 1) i (nI (u.2.1 j))) (a + 1) j (nI (u.2.1 i))) (a + 1) k = nI (u.2.1 (sw i j k)) := fun k hk => by
    simp only [rI_wI, true_and, sw]
    by_cases q1 : k = j
    · by_cases q2 : k = i
      · rw [if_pos q1, if_pos q2]; rw [← q2, q1]
      · rw [if_pos q1, if_neg q2, if_pos q1]
    · rw [if_neg q1]
      by_cases q2 : k = i
      · rw [if_pos q2, if_pos q2]
      · rw [if_neg q2, if_neg q2, if_neg q1]; exact h.2.2.1 k hk
  have z0 : rI (wI (wI M (a + 1) i (nI (u.2.1 j))) (a + 1) j (nI (u.2.1 i))) a 0 = nI u.1 := by
    simp only [rI_wI]; rw [if_neg (by omega), if_neg (by omega)]; exact h.2.1
  rw [r0 i (by omega), r0 j (by omega)]
  generalize wI (wI M (a + 1) i (nI (u.2.1 j))) (a + 1) j (nI (u.2.1 i)) = M2 at *
  have e3 : Ex (cW a) M (wI M2 (a + 2) i (nI (u.2.2 j))) := ex_wI e2 (Or.inr (Or.inr rfl))
  have w3 := isW_ex e3 h.1
  rw [gR_n w3.1 w3.2.2.1]
  simp only [Option.bind_some]
  rw [stI_n w3.2.2.2.2 (show j < 6 by omega) (by decide)]
  simp only [Option.bind_some]
  have e4 : Ex (cW a) M (wI (wI M2 (a + 2) i (nI (u.2.2 j))) (a + 2) j (nI (u.2.2 i))) := ex_wI e3 (Or.inr (Or.inr rfl))
  obtain ⟨n0, hn0⟩ := jF_is
  obtain ⟨N, q1, q2, q3⟩ := exchange_l (a := a) (show i < 6 by omega) (show j < 6 by omega) jF0 0 _ (fun k => u.2.2 (sw i j k)) (isW_ex e4 h.1) (fun k hk => by
    simp only [rI_wI, true_and, sw]
    by_cases q1 : k = j
    · by_cases q2 : k = i
      · rw [if_pos q1, if_pos q2]; rw [← q2, q1]
      · rw [if_pos q1, if_neg q2, if_pos q1]
    · rw [if_neg q1]
      by_cases q2 : k = i
      · rw [if_pos q2, if_pos q2]
      · rw [if_neg q2, if_neg q2, if_neg q1]; exact r0 k hk) (fun k => wwf_64 hu _) (by decide) (by omega)
  have e5 : Ex (cW a) M N := e4.tr (q2.mono (fun c hc => Or.inr (Or.inr hc)))
  refine ⟨N, q1, ⟨isW_ex e5 h.1, ?_, fun k hk => ?_, fun k hk => ?_⟩, e5⟩
  · rw [ex_rI q2 (by omega)]; simp only [rI_wI]; rw [if_neg (by omega), if_neg (by omega)]; exact z0
  · rw [ex_rI q2 (by omega)]; simp only [rI_wI]; rw [if_neg (by omega), if_neg (by omega)]; exact m0 k hk
  · rw [q3 k hk, if_pos (Nat.zero_le _)]; rfl
theorem append_l (hu : wwf u) (hv : wwf v) (h6 : u.1 + v.1 ≤ 6) (hab : a ≠ b ∧ a ≠ b + 1 ∧ a ≠ b + 2 ∧ a + 1 ≠ b ∧ a + 1 ≠ b + 1 ∧ a + 1 ≠ b + 2 ∧ a + 2 ≠ b ∧ a + 2 ≠ b + 1 ∧ a + 2 ≠ b + 2) : ∀ (n c : Nat) (M : jM), isW M a → rI M a 0 = nI u.1 → (∀ k, k < 6 → rI M (a + 1) k = nI (if k < u.1 + c then (jn2 u v).2.1 k else 0)) → (∀ k, k < 6 → rI M (a + 2) k = nI (if k < u.1 + c then (jn2 u v).2.2 k else 0)) → Wat M b v → c ≤ v.1 → v.1 - c < n → ∃ N, l_X9_append_2 n a b (nI c) M = some ((), N) ∧ Wat N a (jn2 u v) ∧ Ex (cW a) M N := by
  intro n
  induction n with
  | zero => intro c M _ _ _ _ _ _ h; omega
  | succ n ih =>
    intro c M w1 hz hm ht w2 hc hn
    show ∃ N, b_X9_append_2 (l_X9_append_2 n) a b (nI c) M = some ((), N) ∧ _
    have w0 := jn2_wf hu hv h6
    unfold b_X9_append_2
    rw [gI_n w2.1.1, Option.bind_some, w2.2.1]
    by_cases hcv : v.1 ≤ c
    · rw [if_pos (nI_le hcv (by omega))]
      simp only [j_X9_append_64, gI_n w1.1, gI_n w2.1.1, pI_n w1.1, Option.bind_some, hz, w2.2.1, nI_add]
      have e1 : jmn (nI 6) (nI (u.1 + v.1)) = nI (u.1 + v.1) := by
        unfold jmn
        by_cases q : u.1 + v.1 = 6
        · rw [q]; rfl
        · rw [if_pos (nI_lt (by omega) (by decide))]
      rw [e1]
      have e2 : Ex (cW a) M (wI M a 0 (nI (u.1 + v.1))) := ex_wI Ex.rf (Or.inl rfl)
      have hcc : c = v.1 := by omega
      refine ⟨_, rfl, ⟨isW_ex e2 w1, ?_, fun k hk => ?_, fun k hk => ?_⟩, e2⟩
      · rw [rI_wI]; simp; rfl
      · rw [rI_wI, if_neg (by omega), hm k hk]
        split
        · rfl
        · rw [(w0.2.2.2 k (by show u.1 + v.1 ≤ k; omega)).1]
      · rw [rI_wI, if_neg (by omega), ht k hk]
        split
        · rfl
        · rw [(w0.2.2.2 k (by show u.1 + v.1 ≤ k; omega)).2]
    · rw [if_neg (nI_ge (by omega) (by omega)), gI_n w1.1, Option.bind_some, hz, nI_add, if_neg (nI_ge (by omega) (by omega)), gR_n w1.1 w1.2.1]
      simp only [Option.bind_some, jiv_n w2.1.1, w_marksOf w2 hv (show c < 2 ^ 31 by omega), jb2_some, hz, nI_add]
      rw [stI_n w1.2.2.2.1 (show u.1 + c < 6 by omega) (by decide), Option.bind_some]
      have e1 : Ex (cW a) M (wI M (a + 1) (u.1 + c) (nI (v.2.1 c))) := ex_wI Ex.rf (Or.inr (Or.inl rfl))
      have w3 := isW_ex e1 w1
      have w4 := Wat_ex e1 w2 (by unfold cW; omega) (by unfold cW; omega) (by unfold cW; omega)
      rw [gR_n w3.1 w3.2.2.1, Option.bind_some, gI_n w3.1, Option.bind_some]
      simp only [jiv_n w4.1.1, w_tiesOf w4 hv (show c < 2 ^ 31 by omega), jb2_some]
      rw [gI_n w3.1, Option.bind_some]
      have z1 : rI (wI M (a + 1) (u.1 + c) (nI (v.2.1 c))) a 0 = nI u.1 := by rw [rI_wI, if_neg (by omega)]; exact hz
      have hlt : v.2.2 c * 2 ^ u.1 < 2 ^ 32 := by
        have h1 := wwf_64 hv c
        have h2 : 2 ^ u.1 ≤ 2 ^ 6 := Nat.pow_le_pow_right (by decide) (by omega)
        have h3 : v.2.2 c * 2 ^ u.1 ≤ 64 * 2 ^ 6 := Nat.mul_le_mul (Nat.le_of_lt h1) h2
        omega
      rw [z1, nI_add, nI_shl (by omega) hlt, stI_n w3.2.2.2.2 (show u.1 + c < 6 by omega) (by decide), Option.bind_some]
      have e2 : Ex (cW a) M (wI (wI M (a + 1) (u.1 + c) (nI (v.2.1 c))) (a + 2) (u.1 + c) (nI (v.2.2 c <<< u.1))) := ex_wI e1 (Or.inr (Or.inr rfl))
      obtain ⟨N, q1, q2, q3⟩ := ih (c + 1) _ (isW_ex e2 w1) (by simp only [rI_wI]; rw [if_neg (by omega), if_neg (by omega)]; exact hz) (fun k hk => by
          simp only [rI_wI, true_and]
          rw [if_neg (by omega)]
          by_cases hk2 : k = u.1 + c
          · subst hk2; rw [if_pos rfl, if_pos (by omega)]; show _ = nI (if u.1 + c < u.1 then _ else v.2.1 (u.1 + c - u.1)); rw [if_neg (by omega), Nat.add_sub_cancel_left]
          · rw [if_neg hk2, hm k hk]
            by_cases hk3 : k < u.1 + c
            · rw [if_pos hk3, if_pos (by omega)]
            · rw [if_neg hk3, if_neg (by omega)]) (fun k hk => by
          simp only [rI_wI, true_and]
          by_cases hk2 : k = u.1 + c
          · subst hk2; rw [if_pos rfl, if_pos (by omega)]; show _ = nI (if u.1 + c < u.1 then _ else v.2.2 (u.1 + c - u.1) <<< u.1); rw [if_neg (by omega), Nat.add_sub_cancel_left]
          · rw [if_neg hk2, if_neg (by omega), ht k hk]
            by_cases hk3 : k < u.1 + c
            · rw [if_pos hk3, if_pos (by omega)]
            · rw [if_neg hk3, if_neg (by omega)]) (Wat_ex e2 w2 (by unfold cW; omega) (by unfold cW; omega) (by unfold cW; omega)) (by omega) (by omega)
      exact ⟨N, q1, q2, e2.tr q3⟩
theorem w_append (h1 : Wat M a u) (hu : wwf u) (h2 : Wat M b v) (hv : wwf v) (h6 : u.1 + v.1 ≤ 6) (hab : a ≠ b ∧ a ≠ b + 1 ∧ a ≠ b + 2 ∧ a + 1 ≠ b ∧ a + 1 ≠ b + 1 ∧ a + 1 ≠ b + 2 ∧ a + 2 ≠ b ∧ a + 2 ≠ b + 1 ∧ a + 2 ≠ b + 2) : ∃ N, f_X9_append a b M = some ((), N) ∧ Wat N a (jn2 u v) ∧ Ex (cW a) M N := by
  obtain ⟨n0, hn0⟩ := jF_is
  refine append_l hu hv h6 hab jF0 0 M h1.1 h1.2.1 (fun k hk => ?_) (fun k hk => ?_) h2 (Nat.zero_le _) (by omega)
  · rw [h1.2.2.1 k hk]
    by_cases hk2 : k < u.1
    · rw [if_pos (by omega)]; show _ = nI (if k < u.1 then _ else _); rw [if_pos hk2]
    · rw [if_neg (by omega), (hu.2.2.2 k (by omega)).1]
  · rw [h1.2.2.2 k hk]
    by_cases hk2 : k < u.1
    · rw [if_pos (by omega)]; show _ = nI (if k < u.1 then _ else _); rw [if_pos hk2]
    · rw [if_neg (by omega), (hu.2.2.2 k (by omega)).2]
end W4

def jM0b : jM := ([], fun _ _ => 0, fun _ _ => 0, fun _ _ => none)
section W5
variable {M : jM} {a : Nat} {u : Wd}
theorem countMarked_l (h : Wat M a u) (hu : wwf u) {w : Nat} (hw : w < 2) : ∀ (n i : Nat), i ≤ u.1 → u.1 - i < n → l_X9_countMarked_4 n a (nI w) (nI (sm (fun k => (u.2.1 k >>> w) &&& 1) i)) (nI i) M = some (nI (sm (fun k => (u.2.1 k >>> w) &&& 1) u.1), M) := by
  intro n
  induction n with
  | zero => intro i _ h; omega
  | succ n ih =>
    intro i hi hn
    have h6 := hu.1
    show b_X9_countMarked_4 (l_X9_countMarked_4 n) a (nI w) _ (nI i) M = _
    simp only [b_X9_countMarked_4, gI_n h.1.1, Option.bind_some, h.2.1]
    by_cases hc : u.1 ≤ i
    · rw [if_pos (nI_le hc (by omega)), show i = u.1 by omega]; rfl
    · rw [if_neg (nI_ge (by omega) (by omega))]
      have h4 := hu.2.1 i
      simp only [jiv_n h.1.1, w_marksOf h hu (show i < 2 ^ 31 by omega), jb2_some, jv, Option.bind_some]
      rw [nI_shr (by omega) (by omega), nI_and, nI_add, nI_add]
      exact ih (i + 1) (by omega) (by omega)
theorem w_countMarked (h : Wat M a u) (hu : wwf u) {w : Nat} (hw : w < 2) : f_X9_countMarked a (nI w) M = some (nI (sm (fun k => (u.2.1 k >>> w) &&& 1) u.1), M) := by
  obtain ⟨n0, hn0⟩ := jF_is
  have := hu.1
  exact countMarked_l h hu hw jF0 0 (Nat.zero_le _) (by omega)
def pop6 (x : Nat) : Nat := sm (fun k => (x >>> k) &&& 1) 6
theorem bitCount_v : ∀ x, x < 64 → (f_J6_bitCount_0f7a4 (nI x) (jM0b)).map Prod.fst = some (nI (pop6 x)) := by decide +kernel
theorem bitCount_n {x : Nat} (hx : x < 64) : f_J6_bitCount_0f7a4 (nI x) M = some (nI (pop6 x), M) := by
  have h := bitCount_v x hx
  simp only [f_J6_bitCount_0f7a4, jv, Option.bind_some, rt, Option.map_some, Option.some.injEq] at h ⊢
  rw [h]
theorem countTies_l (h : Wat M a u) (hu : wwf u) : ∀ (n i : Nat), i ≤ u.1 → u.1 - i < n → l_X9_countTies_4 n a (nI (sm (fun k => pop6 (u.2.2 k)) i)) (nI i) M = some (nI (sm (fun k => pop6 (u.2.2 k)) u.1), M) := by
  intro n
  induction n with
  | zero => intro i _ h; omega
  | succ n ih =>
    intro i hi hn
    have h6 := hu.1
    show b_X9_countTies_4 (l_X9_countTies_4 n) a _ (nI i) M = _
    simp only [b_X9_countTies_4, gI_n h.1.1, Option.bind_some, h.2.1]
    by_cases hc : u.1 ≤ i
    · rw [if_pos (nI_le hc (by omega)), show i = u.1 by omega]; rfl
    · rw [if_neg (nI_ge (by omega) (by omega))]
      simp only [jiv_n h.1.1, w_tiesOf h hu (show i < 2 ^ 31 by omega), jb2_some, bitCount_n (wwf_64 hu i), jv, Option.bind_some]
      rw [nI_add, nI_add]
      exact ih (i + 1) (by omega) (by omega)
theorem w_countTies (h : Wat M a u) (hu : wwf u) : f_X9_countTies a M = some (nI (sm (fun k => pop6 (u.2.2 k)) u.1), M) := by
  obtain ⟨n0, hn0⟩ := jF_is
  have := hu.1
  exact countTies_l h hu jF0 0 (Nat.zero_le _) (by omega)
end W5

section W6
variable {M : jM} {a : Nat} {u : Wd}
/-- a world becomes what it is -/
theorem becomeS_l : ∀ (n i : Nat) (M : jM), Wat M a u → i ≤ 6 → 6 - i < n → ∃ N, l_X9_become_10 n a a (nI i) M = some ((), N) ∧ Wat N a u ∧ Ex (cW a) M N := by
  intro n
  induction n with
  | zero => intro i M _ _ h; omega
  | succ n ih =>
    intro i M h1 hi hn
    show ∃ N, b_X9_become_10 (l_X9_become_10 n) a a (nI i) M = some ((), N) ∧ _
    unfold b_X9_become_10
    by_cases hc : 6 ≤ i
    · rw [if_pos (nI_le hc (by omega))]
      exact ⟨M, rfl, h1, Ex.rf⟩
    · rw [if_neg (nI_ge (by omega) (by decide)), gR_n h1.1.1 h1.1.2.1, Option.bind_some, Option.bind_some, ldI_n h1.1.2.2.2.1 (by omega) (by decide), Option.bind_some, stI_n h1.1.2.2.2.1 (by omega) (by decide), Option.bind_some]
      have e1 : Ex (cW a) M (wI M (a + 1) i (rI M (a + 1) i)) := ex_wI Ex.rf (Or.inr (Or.inl rfl))
      have w1 := isW_ex e1 h1.1
      rw [gR_n w1.1 w1.2.2.1, Option.bind_some, Option.bind_some, ldI_n w1.2.2.2.2 (by omega) (by decide), Option.bind_some, stI_n w1.2.2.2.2 (by omega) (by decide), Option.bind_some, nI_add]
      have e2 := ex_wI (a := a + 2) (k := i) (v := rI (wI M (a + 1) i (rI M (a + 1) i)) (a + 2) i) e1 (Or.inr (Or.inr rfl))
      obtain ⟨N, q1, q2, q3⟩ := ih (i + 1) _ (show Wat (wI (wI M (a + 1) i (rI M (a + 1) i)) (a + 2) i (rI (wI M (a + 1) i (rI M (a + 1) i)) (a + 2) i)) a u from ⟨isW_ex e2 h1.1, by simp only [rI_wI]; rw [if_neg (by omega), if_neg (by omega)]; exact h1.2.1, fun k hk => by
        simp only [rI_wI]
        rw [if_neg (by omega)]
        by_cases hk2 : k = i
        · subst hk2; simp; exact h1.2.2.1 k hk
        · rw [if_neg (by omega)]; exact h1.2.2.1 k hk, fun k hk => by
        simp only [rI_wI]
        by_cases hk2 : k = i
        · subst hk2; simp; exact h1.2.2.2 k hk
        · rw [if_neg (by omega), if_neg (by omega)]; exact h1.2.2.2 k hk⟩) (by omega) (by omega)
      exact ⟨N, q1, q2, e2.tr q3⟩
theorem w_becomeS (h : Wat M a u) : ∃ N, f_X9_become a a M = some ((), N) ∧ Wat N a u ∧ Ex (cW a) M N := by
  simp only [f_X9_become, gI_n h.1.1, Option.bind_some, pI_n h.1.1, h.2.1]
  have e1 : Ex (cW a) M (wI M a 0 (nI u.1)) := ex_wI Ex.rf (Or.inl rfl)
  obtain ⟨n0, hn0⟩ := jF_is
  obtain ⟨N, q1, q2, q3⟩ := becomeS_l (a := a) (u := u) jF0 0 _ ⟨isW_ex e1 h.1, by rw [rI_wI]; simp, fun k hk => by rw [rI_wI, if_neg (by omega)]; exact h.2.2.1 k hk, fun k hk => by rw [rI_wI, if_neg (by omega)]; exact h.2.2.2 k hk⟩ (by decide) (by omega)
  exact ⟨N, q1, q2, e1.tr q3⟩
end W6
