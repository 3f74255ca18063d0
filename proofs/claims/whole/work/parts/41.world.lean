/-! Numbers as bits; the class's World. -/
theorem sh31 : ∀ j, j < 32 → ((nI j &&& 31).toBitVec.smod 32).toNat = j := by decide +kernel
theorem nI_shr {x j : Nat} (hx : x < 2 ^ 31) (hj : j < 32) : nI x >>> (nI j &&& 31) = nI (x >>> j) := by
  rw [pk_shrN hx _ j (sh31 j hj), Nat.shiftRight_eq_div_pow]
theorem nI_shl {x j : Nat} (hj : j < 32) (h : x * 2 ^ j < 2 ^ 32) : nI x <<< (nI j &&& 31) = nI (x <<< j) := by
  rw [pk_shlN _ j (sh31 j hj) h, Nat.shiftLeft_eq]
theorem nI_and (x y : Nat) : nI x &&& nI y = nI (x &&& y) := by
  apply Int32.toBitVec_inj.mp
  simp [nI, BitVec.ofNat_and]
theorem nI_or (x y : Nat) : nI x ||| nI y = nI (x ||| y) := by
  apply Int32.toBitVec_inj.mp
  simp [nI, BitVec.ofNat_or]
theorem nI_xor (x y : Nat) : nI x ^^^ nI y = nI (x ^^^ y) := by
  apply Int32.toBitVec_inj.mp
  simp [nI, BitVec.ofNat_xor]
def sb (x j : Nat) (is : Bool) : Nat := if is then x ||| 2 ^ j else (x ||| 2 ^ j) ^^^ 2 ^ j
theorem sb_t : ∀ j, j < 6 → ∀ x, x < 64 → nI x ||| (nI 1 <<< (nI j &&& 31)) = nI (sb x j true) := by decide +kernel
theorem sb_f : ∀ j, j < 6 → ∀ x, x < 64 → nI x &&& ((nI 1 <<< (nI j &&& 31)) ^^^ (-1 : Int32)) = nI (sb x j false) := by decide +kernel
theorem sb_64 : ∀ n, n ≤ 6 → ∀ j, j < n → ∀ x, x < 2 ^ n → ∀ b : Bool, sb x j b < 2 ^ n := by decide +kernel
theorem sb_bit : ∀ j, j < 6 → ∀ x, x < 64 → ∀ b : Bool, ∀ k, k < 6 → (sb x j b).testBit k = if k = j then b else x.testBit k := by decide +kernel
theorem bit1 : ∀ x, x < 64 → ∀ j, j < 6 → ((nI (x >>> j) &&& nI 1 = nI 1) ↔ x.testBit j = true) := by decide +kernel
abbrev Wd : Type := Nat × (Nat → Nat) × (Nat → Nat)
def wwf (u : Wd) : Prop := u.1 ≤ 6 ∧ (∀ k, u.2.1 k < 4) ∧ (∀ k, u.2.2 k < 2 ^ u.1) ∧ (∀ k, u.1 ≤ k → u.2.1 k = 0 ∧ u.2.2 k = 0)
def eb (u : Wd) (i j : Nat) : Bool := (u.2.2 i).testBit j
theorem wwf_64 {u : Wd} (h : wwf u) (k : Nat) : u.2.2 k < 64 := Nat.lt_of_lt_of_le (h.2.2.1 k) (Nat.pow_le_pow_right (by decide) h.1)
def isW (M : jM) (a : Nat) : Prop := tg M a = (8, 0) ∧ rR M a 1 = some (a + 1) ∧ rR M a 2 = some (a + 2) ∧ tg M (a + 1) = (100, 6) ∧ tg M (a + 2) = (100, 6)
def Wat (M : jM) (a : Nat) (u : Wd) : Prop := isW M a ∧ rI M a 0 = nI u.1 ∧ (∀ k, k < 6 → rI M (a + 1) k = nI (u.2.1 k)) ∧ (∀ k, k < 6 → rI M (a + 2) k = nI (u.2.2 k))
theorem isW_ex {C : Nat → Prop} {M N : jM} {a : Nat} (h : Ex C M N) (k : isW M a) : isW N a := by
  unfold isW
  rw [ex_tg h, ex_tg h, ex_tg h, ex_rR h, ex_rR h]
  exact k
theorem Wat_ex {C : Nat → Prop} {M N : jM} {a : Nat} {u : Wd} (h : Ex C M N) (k : Wat M a u) (h0 : ¬ C a) (h1 : ¬ C (a + 1)) (h2 : ¬ C (a + 2)) : Wat N a u := by
  refine ⟨isW_ex h k.1, ?_, fun q hq => ?_, fun q hq => ?_⟩
  · rw [ex_rI h h0]; exact k.2.1
  · rw [ex_rI h h1]; exact k.2.2.1 q hq
  · rw [ex_rI h h2]; exact k.2.2.2 q hq
/-- the three cells of a World -/
def cW (a : Nat) : Nat → Prop := fun c => c = a ∨ c = a + 1 ∨ c = a + 2
section W1
variable {M : jM} {a : Nat} {u : Wd}
theorem w_size (h : Wat M a u) : f_X9_size a M = some (nI u.1, M) := by
  simp only [f_X9_size, gI_n h.1.1, Option.bind_some, h.2.1]; rfl
theorem w_has (h : Wat M a u) (hu : u.1 ≤ 6) (t : Int32) : f_X9_has a t M = some (bI (ixo t u.1).isSome, M) := by
  simp only [f_X9_has, gI_n h.1.1, Option.bind_some, h.2.1]
  cases hc : ixo t u.1 with
  | none =>
    by_cases h0 : t < 0
    · rw [if_pos h0]; rfl
    · rw [if_neg h0, if_pos (((ixo_none (by omega)).mp hc).resolve_left h0)]; rfl
  | some j =>
    obtain ⟨hj, rfl⟩ := (ixo_some (by omega)).mp hc
    rw [if_neg (nI_pos (by omega)), if_neg (nI_ge hj (by omega)), if_neg (nI_ge (by omega) (by omega))]; rfl
theorem w_hasN (h : Wat M a u) (hu : u.1 ≤ 6) {j : Nat} (hj : j < 2 ^ 31) : f_X9_has a (nI j) M = some (bI (decide (j < u.1)), M) := by
  rw [w_has h hu]
  by_cases q : j < u.1
  · rw [(ixo_some (by omega)).mpr ⟨q, rfl⟩]; simp [q]
  · rw [(ixo_none (by omega)).mpr (Or.inr (nI_le (by omega) hj))]; simp [q]
theorem w_marksOf (h : Wat M a u) (hu : wwf u) {j : Nat} (hj : j < 2 ^ 31) : f_X9_marksOf a (nI j) M = some (nI (u.2.1 j), M) := by
  simp only [f_X9_marksOf, jiv_n h.1.1, w_hasN h hu.1 hj, jb2_some, bI_z, decide_eq_false_iff_not]
  by_cases q : j < u.1
  · have := hu.1
    rw [if_neg (by simpa using q), gR_n h.1.1 h.1.2.1]
    simp only [Option.bind_some]
    rw [ldI_n h.1.2.2.2.1 (by omega) (by decide), Option.bind_some, h.2.2.1 j (by omega)]; rfl
  · rw [if_pos q, (hu.2.2.2 j (by omega)).1]; rfl
theorem w_tiesOf (h : Wat M a u) (hu : wwf u) {j : Nat} (hj : j < 2 ^ 31) : f_X9_tiesOf a (nI j) M = some (nI (u.2.2 j), M) := by
  simp only [f_X9_tiesOf, jiv_n h.1.1, w_hasN h hu.1 hj, jb2_some, bI_z, decide_eq_false_iff_not]
  by_cases q : j < u.1
  · have := hu.1
    rw [if_neg (by simpa using q), gR_n h.1.1 h.1.2.2.1]
    simp only [Option.bind_some]
    rw [ldI_n h.1.2.2.2.2 (by omega) (by decide), Option.bind_some, h.2.2.2 j (by omega)]; rfl
  · rw [if_pos q, (hu.2.2.2 j (by omega)).2]; rfl
theorem w_isTied (h : Wat M a u) (hu : wwf u) {i j : Nat} (hi : i < 2 ^ 31) (hj : j < 2 ^ 31) : f_X9_isTied a (nI i) (nI j) M = some (bI (eb u i j), M) := by
  simp only [f_X9_isTied, jiv_n h.1.1, w_hasN h hu.1 hi, w_hasN h hu.1 hj, jb2_some, bI_z, decide_eq_false_iff_not]
  have h6 := hu.1
  by_cases p : i < u.1
  · rw [if_neg (by simpa using p)]
    by_cases q : j < u.1
    · rw [if_neg (by simpa using q), gR_n h.1.1 h.1.2.2.1]
      simp only [Option.bind_some]
      rw [ldI_n h.1.2.2.2.2 (by omega) (by decide), Option.bind_some, h.2.2.2 i (by omega), nI_shr (Nat.lt_trans (wwf_64 hu i) (by decide)) (by omega)]
      have hb := bit1 (u.2.2 i) (wwf_64 hu i) j (by omega)
      unfold eb
      by_cases hc : (u.2.2 i).testBit j = true
      · rw [if_pos (hb.mpr hc), hc]; rfl
      · rw [if_neg (fun q => hc (hb.mp q))]; simp only [Bool.not_eq_true] at hc; rw [hc]; rfl
    · rw [if_pos q]
      have : eb u i j = false := by
        unfold eb
        exact Nat.testBit_lt_two_pow (Nat.lt_of_lt_of_le (hu.2.2.1 i) (Nat.pow_le_pow_right (by decide) (by omega)))
      rw [this]; rfl
  · rw [if_pos p]
    have : eb u i j = false := by
      unfold eb
      rw [(hu.2.2.2 i (by omega)).2]
      exact Nat.zero_testBit j
    rw [this]; rfl
theorem w_withBit {x j : Nat} {v : Int32} (hx : x < 64) (hj : j < 6) : f_X9_withBit (nI x) (nI j) v M = some (nI (sb x j (decide (v ≠ 0))), M) := by
  simp only [f_X9_withBit]
  by_cases hv : v = 0
  · rw [if_pos hv, sb_f j hj x hx]; simp [hv, rt]
  · rw [if_neg hv, sb_t j hj x hx]; simp [hv, rt]
end W1
/-- a row function, changed at one place -/
def up1 (f : Nat → Nat) (k v : Nat) : Nat → Nat := fun j => if j = k then v else f j
section W2
variable {M : jM} {a : Nat} {u : Wd}
theorem w_setMark (h : Wat M a u) (hu : wwf u) {i j : Nat} {v : Int32} (hi : i < u.1) (hj : j < 2) : ∃ N, f_X9_setMark a (nI i) (nI j) v M = some (bI (decide (sb (u.2.1 i) j (decide (v ≠ 0)) ≠ u.2.1 i)), N) ∧ Wat N a (u.1, up1 u.2.1 i (sb (u.2.1 i) j (decide (v ≠ 0))), u.2.2) ∧ Ex (cW a) M N := by
  have h6 := hu.1
  have h4 : u.2.1 i < 4 := hu.2.1 i
  simp only [f_X9_setMark, jiv_n h.1.1, w_hasN h hu.1 (show i < 2 ^ 31 by omega), jb2_some, bI_z, decide_eq_false_iff_not]
  rw [if_neg (by simpa using hi), gR_n h.1.1 h.1.2.1]
  simp only [Option.bind_some]
  rw [ldI_n h.1.2.2.2.1 (show i < 6 by omega) (by decide)]
  simp only [Option.bind_some, h.2.2.1 i (show i < 6 by omega), w_withBit (show u.2.1 i < 64 by omega) (show j < 6 by omega), jb2_some]
  rw [stI_n h.1.2.2.2.1 (show i < 6 by omega) (by decide)]
  simp only [Option.bind_some]
  have e1 : Ex (cW a) M (wI M (a + 1) i (nI (sb (u.2.1 i) j (decide (v ≠ 0))))) := ex_wI Ex.rf (Or.inr (Or.inl rfl))
  have w1 := isW_ex e1 h.1
  rw [gR_n w1.1 w1.2.1]
  simp only [Option.bind_some]
  rw [ldI_n w1.2.2.2.1 (show i < 6 by omega) (by decide)]
  simp only [Option.bind_some, rI_wI, and_self, if_true]
  have hlt : sb (u.2.1 i) j (decide (v ≠ 0)) < 2 ^ 2 := sb_64 2 (by decide) j hj _ h4 _
  refine ⟨_, ?_, ⟨w1, ?_, fun k hk => ?_, fun k hk => ?_⟩, e1⟩
  · by_cases hc : sb (u.2.1 i) j (decide (v ≠ 0)) = u.2.1 i
    · rw [if_pos (by rw [hc]), hc]; simp; rfl
    · rw [if_neg (fun q => hc ((nI_eq (by omega) (by omega)).mp q)), decide_eq_true (p := _ ≠ _) hc]; rfl
  · rw [rI_wI, if_neg (by omega)]; exact h.2.1
  · rw [rI_wI]
    simp only [true_and, up1]
    by_cases hk2 : k = i
    · rw [if_pos hk2, if_pos hk2]
    · rw [if_neg hk2, if_neg hk2]; exact h.2.2.1 k hk
  · rw [rI_wI, if_neg (by omega)]; exact h.2.2.2 k hk
theorem w_setTie (h : Wat M a u) (hu : wwf u) {i j : Nat} {v : Int32} (hi : i < u.1) (hj : j < u.1) : ∃ N, f_X9_setTie a (nI i) (nI j) v M = some (bI (decide (sb (u.2.2 i) j (decide (v ≠ 0)) ≠ u.2.2 i)), N) ∧ Wat N a (u.1, u.2.1, up1 u.2.2 i (sb (u.2.2 i) j (decide (v ≠ 0)))) ∧ Ex (cW a) M N := by
  have h6 := hu.1
  have h4 := wwf_64 hu i
  simp only [f_X9_setTie, jiv_n h.1.1, w_hasN h hu.1 (show i < 2 ^ 31 by omega), w_hasN h hu.1 (show j < 2 ^ 31 by omega), jb2_some, bI_z, decide_eq_false_iff_not]
  rw [if_neg (by simpa using hi), if_neg (by simpa using hj), gR_n h.1.1 h.1.2.2.1]
  simp only [Option.bind_some]
  rw [ldI_n h.1.2.2.2.2 (show i < 6 by omega) (by decide)]
  simp only [Option.bind_some, h.2.2.2 i (show i < 6 by omega), w_withBit h4 (show j < 6 by omega), jb2_some]
  rw [stI_n h.1.2.2.2.2 (show i < 6 by omega) (by decide)]
  simp only [Option.bind_some]
  have e1 : Ex (cW a) M (wI M (a + 2) i (nI (sb (u.2.2 i) j (decide (v ≠ 0))))) := ex_wI Ex.rf (Or.inr (Or.inr rfl))
  have w1 := isW_ex e1 h.1
  rw [gR_n w1.1 w1.2.2.1]
  simp only [Option.bind_some]
  rw [ldI_n w1.2.2.2.2 (show i < 6 by omega) (by decide)]
  simp only [Option.bind_some, rI_wI, and_self, if_true]
  have hlt : sb (u.2.2 i) j (decide (v ≠ 0)) < 2 ^ 6 := sb_64 6 (by decide) j (by omega) _ h4 _
  refine ⟨_, ?_, ⟨w1, ?_, fun k hk => ?_, fun k hk => ?_⟩, e1⟩
  · by_cases hc : sb (u.2.2 i) j (decide (v ≠ 0)) = u.2.2 i
    · rw [if_pos (by rw [hc]), hc]; simp; rfl
    · rw [if_neg (fun q => hc ((nI_eq (by omega) (by omega)).mp q)), decide_eq_true (p := _ ≠ _) hc]; rfl
  · rw [rI_wI, if_neg (by omega)]; exact h.2.1
  · rw [rI_wI, if_neg (by omega)]; exact h.2.2.1 k hk
  · rw [rI_wI]
    simp only [true_and, up1]
    by_cases hk2 : k = i
    · rw [if_pos hk2, if_pos hk2]
    · rw [if_neg hk2, if_neg hk2]; exact h.2.2.2 k hk
end W2

section W3
variable {M : jM} {a b : Nat} {u u2 : Wd}
/-- a row is filled -/
theorem fill_l {c : Nat} {x : Int32} {L : Nat} (hL : L < 2 ^ 31) : ∀ (n i : Nat) (M : jM), tg M c = (100, L) → i ≤ L → L - i < n → ∃ N, l_J7_fill_53178_5 n c x (nI i) (nI L) M = some ((), N) ∧ Ex (fun q => q = c) M N ∧ (∀ k, k < L → i ≤ k → rI N c k = x) ∧ (∀ k, k < i → rI N c k = rI M c k) := by
  intro n
  induction n with
  | zero => intro i M _ _ h; omega
  | succ n ih =>
    intro i M ht hi hn
    show ∃ N, b_J7_fill_53178_5 (l_J7_fill_53178_5 n) c x (nI i) (nI L) M = some ((), N) ∧ _
    unfold b_J7_fill_53178_5
    by_cases hc : L ≤ i
    · rw [if_pos (nI_le hc (by omega))]
      exact ⟨M, rfl, Ex.rf, fun k h1 h2 => by omega, fun k _ => rfl⟩
    · rw [if_neg (nI_ge (by omega) hL), stI_n ht (by omega) hL, Option.bind_some, nI_add]
      obtain ⟨N, h1, h2, h3, h4⟩ := ih (i + 1) (wI M c i x) ht (by omega) (by omega)
      refine ⟨N, h1, (ex_wI (C := fun q => q = c) Ex.rf rfl).tr h2, fun k hk hik => ?_, fun k hk => ?_⟩
      · by_cases hki : k = i
        · subst hki; rw [h4 k (by omega), rI_wI]; simp
        · exact h3 k hk (by omega)
      · rw [h4 k (by omega), rI_wI, if_neg (by omega)]
theorem fill_n {c : Nat} {x : Int32} {L : Nat} (hL : L < 800000) (ht : tg M c = (100, L)) : ∃ N, f_J7_fill_53178 c x M = some ((), N) ∧ Ex (fun q => q = c) M N ∧ (∀ k, k < L → rI N c k = x) := by
  unfold f_J7_fill_53178
  rw [ln_n ht (by decide) (by decide), Option.bind_some]
  obtain ⟨n0, hn0⟩ := jF_is
  obtain ⟨N, h1, h2, h3, -⟩ := fill_l (c := c) (x := x) (L := L) (by omega) jF0 0 M ht (Nat.zero_le _) (by omega)
  exact ⟨N, h1, h2, fun k hk => h3 k hk (Nat.zero_le _)⟩
theorem w_makeBare (h : isW M a) {n : Nat} (h1 : 1 ≤ n) (h6 : n ≤ 6) : ∃ N, f_X9_makeBare a (nI n) M = some ((), N) ∧ Wat N a (n, fun _ => 0, fun _ => 0) ∧ Ex (cW a) M N := by
  simp only [f_X9_makeBare, pI_n h.1, Option.bind_some]
  have hm : jmx (nI 0) (jmn (nI n) (nI 6)) = nI n := by
    unfold jmx jmn
    rw [if_neg (nI_nlt h6 (by decide)), if_pos (nI_lt (by omega) (by omega))]
  rw [hm]
  have e1 : Ex (cW a) M (wI M a 0 (nI n)) := ex_wI Ex.rf (Or.inl rfl)
  have w1 := isW_ex e1 h
  rw [gR_n w1.1 w1.2.1]
  obtain ⟨N1, f1, f2, f3⟩ := fill_n (x := nI 0) (by decide) w1.2.2.2.1
  simp only [Option.bind_some, f1, jb2_some]
  have e2 : Ex (cW a) M N1 := e1.tr (f2.mono (fun c hc => by subst hc; exact Or.inr (Or.inl rfl)))
  have w2 := isW_ex e2 h
  rw [gR_n w2.1 w2.2.2.1]
  obtain ⟨N2, g1, g2, g3⟩ := fill_n (x := nI 0) (by decide) w2.2.2.2.2
  simp only [Option.bind_some, g1, jb2_some]
  have e3 : Ex (cW a) M N2 := e2.tr (g2.mono (fun c hc => by subst hc; exact Or.inr (Or.inr rfl)))
  refine ⟨N2, rfl, ⟨isW_ex e3 h, ?_, fun k hk => ?_, fun k hk => g3 k hk⟩, e3⟩
  · rw [ex_rI g2 (by omega), ex_rI f2 (by omega), rI_wI]; simp
  · rw [ex_rI g2 (by omega)]; exact f3 k hk
/-- become: row by row -/
theorem become_l (ha : a ≠ b) (hab : a + 1 ≠ b + 2 ∧ a + 2 ≠ b + 1) : ∀ (n i : Nat) (M : jM), isW M a → isW M b → i ≤ 6 → 6 - i < n → ∃ N, l_X9_become_10 n a b (nI i) M = some ((), N) ∧ Ex (fun q => q = a + 1 ∨ q = a + 2) M N ∧ (∀ k, k < 6 → i ≤ k → rI N (a + 1) k = rI M (b + 1) k ∧ rI N (a + 2) k = rI M (b + 2) k) ∧ (∀ k, k < i → rI N (a + 1) k = rI M (a + 1) k ∧ rI N (a + 2) k = rI M (a + 2) k) := by
  intro n
  induction n with
  | zero => intro i M _ _ _ h; omega
  | succ n ih =>
    intro i M h1 h2 hi hn
    show ∃ N, b_X9_become_10 (l_X9_become_10 n) a b (nI i) M = some ((), N) ∧ _
    unfold b_X9_become_10
    by_cases hc : 6 ≤ i
    · rw [if_pos (nI_le hc (by omega))]
      exact ⟨M, rfl, Ex.rf, fun k h1 h2 => by omega, fun k _ => ⟨rfl, rfl⟩⟩
    · rw [if_neg (nI_ge (by omega) (by decide)), gR_n h1.1 h1.2.1, Option.bind_some, gR_n h2.1 h2.2.1, Option.bind_some, ldI_n h2.2.2.2.1 (by omega) (by decide), Option.bind_some, stI_n h1.2.2.2.1 (by omega) (by decide), Option.bind_some]
      have e1 : Ex (fun q => q = a + 1 ∨ q = a + 2) M (wI M (a + 1) i (rI M (b + 1) i)) := ex_wI Ex.rf (Or.inl rfl)
      have w1 := isW_ex e1 h1
      have w2 := isW_ex e1 h2
      rw [gR_n w1.1 w1.2.2.1, Option.bind_some, gR_n w2.1 w2.2.2.1, Option.bind_some, ldI_n w2.2.2.2.2 (by omega) (by decide), Option.bind_some, stI_n w1.2.2.2.2 (by omega) (by decide), Option.bind_some, nI_add]
      obtain ⟨N, q1, q2, q3, q4⟩ := ih (i + 1) _ (isW_ex (ex_wI e1 (Or.inr rfl)) h1) (isW_ex (ex_wI e1 (Or.inr rfl)) h2) (by omega) (by omega)
      refine ⟨N, q1, (ex_wI e1 (Or.inr rfl)).tr q2, fun k hk hik => ?_, fun k hk => ?_⟩
      · by_cases hki : k = i
        · subst hki
          rw [(q4 k (by omega)).1, (q4 k (by omega)).2]
          simp only [rI_wI]
          refine ⟨?_, ?_⟩
          · rw [if_neg (by omega)]; simp
          · simp only [and_self, if_true]; rw [if_neg (by omega)]
        · obtain ⟨p1, p2⟩ := q3 k hk (by omega)
          rw [p1, p2]
          simp only [rI_wI]
          refine ⟨?_, ?_⟩
          · rw [if_neg (by omega), if_neg (by omega)]
          · rw [if_neg (by omega), if_neg (by omega)]
      · rw [(q4 k (by omega)).1, (q4 k (by omega)).2]
        simp only [rI_wI]
        refine ⟨?_, ?_⟩
        · rw [if_neg (by omega), if_neg (by omega)]
        · rw [if_neg (by omega), if_neg (by omega)]
theorem w_become (ha : a ≠ b) (hab : a + 1 ≠ b + 2 ∧ a + 2 ≠ b + 1 ∧ a ≠ b + 1 ∧ a ≠ b + 2) (h : isW M a) (h2 : Wat M b u) : ∃ N, f_X9_become a b M = some ((), N) ∧ Wat N a u ∧ Ex (cW a) M N := by
  simp only [f_X9_become, gI_n h2.1.1, Option.bind_some, pI_n h.1, h2.2.1]
  have e1 : Ex (cW a) M (wI M a 0 (nI u.1)) := ex_wI Ex.rf (Or.inl rfl)
  obtain ⟨n0, hn0⟩ := jF_is
  obtain ⟨N, q1, q2, q3, -⟩ := become_l ha ⟨hab.1, hab.2.1⟩ jF0 0 _ (isW_ex e1 h) (isW_ex e1 h2.1) (by decide) (by omega)
  have e2 : Ex (cW a) M N := e1.tr (q2.mono (fun c hc => Or.inr hc))
  refine ⟨N, q1, ⟨isW_ex e2 h, ?_, fun k hk => ?_, fun k hk => ?_⟩, e2⟩
  · rw [ex_rI q2 (by omega), rI_wI]; simp
  · rw [(q3 k hk (Nat.zero_le _)).1, rI_wI, if_neg (by omega)]; exact h2.2.2.1 k hk
  · rw [(q3 k hk (Nat.zero_le _)).2, rI_wI, if_neg (by omega)]; exact h2.2.2.2 k hk
end W3
