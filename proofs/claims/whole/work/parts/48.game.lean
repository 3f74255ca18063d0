/-! THE GAME, in numbers; what tells things apart; the class's Match. -/
def allB (n : Nat) (f : Nat → Bool) : Bool := (List.range n).all f
def anyB (n : Nat) (f : Nat → Bool) : Bool := (List.range n).any f
theorem allB_iff {n : Nat} {f : Nat → Bool} : allB n f = true ↔ ∀ k, k < n → f k = true := by
  unfold allB; rw [List.all_eq_true]
  exact ⟨fun h k hk => h k (List.mem_range.mpr hk), fun h k hk => h k (List.mem_range.mp hk)⟩
theorem anyB_iff {n : Nat} {f : Nat → Bool} : anyB n f = true ↔ ∃ k, k < n ∧ f k = true := by
  unfold anyB; rw [List.any_eq_true]
  exact ⟨fun ⟨k, h1, h2⟩ => ⟨k, List.mem_range.mp h1, h2⟩, fun ⟨k, h1, h2⟩ => ⟨k, List.mem_range.mpr h1, h2⟩⟩
abbrev Rw : Type := List (Nat × Nat)
def pl1 (u v : Wd) (p q : Nat × Nat) : Bool := (decide (q.1 = p.1) == decide (q.2 = p.2)) && ((eb u q.1 p.1 == eb v q.2 p.2) && (eb u p.1 q.1 == eb v p.2 q.2))
/-- the pair p behind the rows r keeps them alike -/
def pla (u v : Wd) (r : Rw) (p : Nat × Nat) : Bool := decide (u.2.1 p.1 = v.2.1 p.2) && (pl1 u v p p && r.all (pl1 u v p))
def alk (u v : Wd) : Rw → Bool
  | [] => true
  | p :: r => alk u v r && pla u v r p
def kw (u v : Wd) : Nat → Rw → Bool
  | 0, r => alk u v r
  | k + 1, r => alk u v r && (allB u.1 (fun a => anyB v.1 (fun b => kw u v k ((a, b) :: r))) && allB v.1 (fun b => anyB u.1 (fun a => kw u v k ((a, b) :: r))))
theorem kw_alk {u v : Wd} {k : Nat} {r : Rw} (h : kw u v k r = true) : alk u v r = true := by
  cases k with
  | zero => exact h
  | succ k => unfold kw at h; rw [Bool.and_eq_true] at h; exact h.1
def rv (u v : Wd) (r : Rw) : Prop := ∀ p ∈ r, p.1 < u.1 ∧ p.2 < v.1
/-- the pair at place k, the oldest at 0 -/
def ro (r : Rw) (k : Nat) : Nat × Nat := r.getD (r.length - 1 - k) (0, 0)
theorem ro_cons {p : Nat × Nat} {r : Rw} {k : Nat} (h : k < r.length) : ro (p :: r) k = ro r k := by
  unfold ro
  rw [show (p :: r).length - 1 - k = (r.length - 1 - k) + 1 by simp; omega]
  rfl
theorem ro_last {p : Nat × Nat} {r : Rw} : ro (p :: r) r.length = p := by
  unfold ro
  rw [show (p :: r).length - 1 - r.length = 0 by simp]
  rfl
theorem ro_mem {r : Rw} {k : Nat} (h : k < r.length) : ro r k ∈ r := by
  unfold ro
  rw [List.getD_eq_getElem?_getD, List.getElem?_eq_getElem (by omega)]
  exact List.getElem_mem _
theorem all_ro {r : Rw} {f : Nat × Nat → Bool} : r.all f = true ↔ ∀ k, k < r.length → f (ro r k) = true := by
  rw [List.all_eq_true]
  constructor
  · intro h k hk; exact h _ (ro_mem hk)
  · intro h p hp
    obtain ⟨i, hi, rfl⟩ := List.mem_iff_getElem.mp hp
    have := h (r.length - 1 - i) (by omega)
    unfold ro at this
    rw [show r.length - 1 - (r.length - 1 - i) = i by omega, List.getD_eq_getElem?_getD, List.getElem?_eq_getElem hi] at this
    exact this
/-- looks, bonds, types -/
def lk (u : Wd) (i : Nat) : Nat := u.2.1 i ||| ((eb u i i).toNat <<< 2)
def bd (u : Wd) (i j : Nat) : Nat := if i < u.1 ∧ j < u.1 then ((decide (i = j)).toNat ||| ((eb u i j).toNat <<< 1)) ||| ((eb u j i).toNat <<< 2) else 0
def tyf (u : Wd) (row : Nat → Nat) (t : Nat) : Nat → Nat
  | 0 => lk u t
  | k + 1 => tyf u row t k ||| (bd u t (row k) <<< (3 * (k + 1)))
theorem lk8 : ∀ m, m < 4 → ∀ b : Bool, m ||| (b.toNat <<< 2) < 8 := by decide +kernel
theorem lk_inj : ∀ m, m < 4 → ∀ m', m' < 4 → ∀ b b' : Bool, (m ||| (b.toNat <<< 2) = m' ||| (b'.toNat <<< 2)) ↔ (m = m' ∧ b = b') := by decide +kernel
theorem bd8 : ∀ a b c : Bool, (a.toNat ||| (b.toNat <<< 1)) ||| (c.toNat <<< 2) < 8 := by decide +kernel
theorem bd_inj : ∀ a b c a' b' c' : Bool, ((a.toNat ||| (b.toNat <<< 1)) ||| (c.toNat <<< 2) = (a'.toNat ||| (b'.toNat <<< 1)) ||| (c'.toNat <<< 2)) ↔ (a = a' ∧ b = b' ∧ c = c') := by decide +kernel
theorem lk_lt {u : Wd} (hu : wwf u) (i : Nat) : lk u i < 8 := lk8 _ (hu.2.1 i) _
theorem bd_lt {u : Wd} (i j : Nat) : bd u i j < 8 := by
  unfold bd; split
  · exact bd8 _ _ _
  · decide
theorem or_add {x m d : Nat} (h : x < 2 ^ m) : x ||| (d <<< m) = 2 ^ m * d + x := by
  rw [Nat.shiftLeft_eq, Nat.mul_comm d, Nat.or_comm, ← Nat.two_pow_add_eq_or_of_lt h]
theorem tyf_lt {u : Wd} (hu : wwf u) (row : Nat → Nat) (t : Nat) : ∀ k, tyf u row t k < 2 ^ (3 * (k + 1))
  | 0 => lk_lt hu t
  | k + 1 => by
    show tyf u row t k ||| (bd u t (row k) <<< (3 * (k + 1))) < _
    have h1 := tyf_lt hu row t k
    rw [or_add h1]
    have h2 : bd u t (row k) < 8 := bd_lt _ _
    have e : 2 ^ (3 * (k + 1 + 1)) = 2 ^ (3 * (k + 1)) * 8 := by rw [show 3 * (k + 1 + 1) = 3 * (k + 1) + 3 by omega, Nat.pow_add]
    rw [e]
    calc 2 ^ (3 * (k + 1)) * bd u t (row k) + tyf u row t k < 2 ^ (3 * (k + 1)) * bd u t (row k) + 2 ^ (3 * (k + 1)) := by omega
      _ = 2 ^ (3 * (k + 1)) * (bd u t (row k) + 1) := (Nat.mul_succ _ _).symm
      _ ≤ 2 ^ (3 * (k + 1)) * 8 := Nat.mul_le_mul_left _ (by omega)
theorem tyf_inj {u v : Wd} (hu : wwf u) (hv : wwf v) {f g : Nat → Nat} {t s : Nat} : ∀ k, (tyf u f t k = tyf v g s k) ↔ (lk u t = lk v s ∧ ∀ i, i < k → bd u t (f i) = bd v s (g i))
  | 0 => ⟨fun h => ⟨h, fun i hi => by omega⟩, fun h => h.1⟩
  | k + 1 => by
    have h1 := tyf_lt hu f t k
    have h2 := tyf_lt hv g s k
    show tyf u f t k ||| (bd u t (f k) <<< (3 * (k + 1))) = tyf v g s k ||| (bd v s (g k) <<< (3 * (k + 1))) ↔ _
    rw [or_add h1, or_add h2]
    have ih := tyf_inj hu hv (f := f) (g := g) (t := t) (s := s) k
    constructor
    · intro h
      have hm : tyf u f t k = tyf v g s k := by
        have := congrArg (· % 2 ^ (3 * (k + 1))) h
        simpa [Nat.mul_add_mod, Nat.mod_eq_of_lt h1, Nat.mod_eq_of_lt h2] using this
      have hd : bd u t (f k) = bd v s (g k) := by
        rw [hm] at h
        have := Nat.add_right_cancel h
        exact Nat.eq_of_mul_eq_mul_left (Nat.two_pow_pos _) this
      obtain ⟨p1, p2⟩ := ih.mp hm
      refine ⟨p1, fun i hi => ?_⟩
      by_cases hik : i = k
      · rw [hik]; exact hd
      · exact p2 i (by omega)
    · rintro ⟨p1, p2⟩
      rw [ih.mpr ⟨p1, fun i hi => p2 i (by omega)⟩, p2 k (by omega)]
/-- things of one type keep rows alike, and no others -/
theorem ty_pla {u v : Wd} (hu : wwf u) (hv : wwf v) {r : Rw} (hr : rv u v r) {t s : Nat} (ht : t < u.1) (hs : s < v.1) : (tyf u (fun k => (ro r k).1) t r.length = tyf v (fun k => (ro r k).2) s r.length) ↔ pla u v r (t, s) = true := by
  rw [tyf_inj hu hv]
  unfold pla
  rw [Bool.and_eq_true, Bool.and_eq_true, decide_eq_true_eq, all_ro]
  unfold lk
  rw [lk_inj _ (hu.2.1 t) _ (hv.2.1 s)]
  constructor
  · rintro ⟨⟨h1, h2⟩, h3⟩
    refine ⟨h1, ?_, fun k hk => ?_⟩
    · simp [pl1, h2]
    · have hm := hr _ (ro_mem hk)
      have h4 := h3 k hk
      unfold bd at h4
      rw [if_pos ⟨ht, hm.1⟩, if_pos ⟨hs, hm.2⟩, bd_inj] at h4
      obtain ⟨g1, g2, g3⟩ := h4
      unfold pl1
      simp only [g2, g3]
      have : decide ((ro r k).1 = t) = decide ((ro r k).2 = s) := by
        have e1 : decide ((ro r k).1 = t) = decide (t = (ro r k).1) := by simp [eq_comm]
        have e2 : decide ((ro r k).2 = s) = decide (s = (ro r k).2) := by simp [eq_comm]
        rw [e1, e2]; exact g1
      rw [this]; simp
  · rintro ⟨h1, h2, h3⟩
    refine ⟨⟨h1, ?_⟩, fun k hk => ?_⟩
    · unfold pl1 at h2
      rw [Bool.and_eq_true, Bool.and_eq_true] at h2
      exact eq_of_beq h2.2.1
    · have hm := hr _ (ro_mem hk)
      have h4 := h3 k hk
      unfold pl1 at h4
      rw [Bool.and_eq_true, Bool.and_eq_true] at h4
      unfold bd
      rw [if_pos ⟨ht, hm.1⟩, if_pos ⟨hs, hm.2⟩, bd_inj]
      refine ⟨?_, (eq_of_beq h4.2.2), (eq_of_beq h4.2.1)⟩
      have := eq_of_beq h4.1
      have e1 : decide ((ro r k).1 = t) = decide (t = (ro r k).1) := by simp [eq_comm]
      have e2 : decide ((ro r k).2 = s) = decide (s = (ro r k).2) := by simp [eq_comm]
      rw [← e1, ← e2]; exact this
theorem bitN : ∀ x, x < 64 → ∀ j, j < 6 → nI (x >>> j) &&& nI 1 = nI (x.testBit j).toNat := by decide +kernel
theorem shN : ∀ b : Bool, nI b.toNat <<< (nI 1 &&& 31) = nI (b.toNat <<< 1) ∧ nI b.toNat <<< (nI 2 &&& 31) = nI (b.toNat <<< 2) := by decide +kernel
section G1
variable {M : jM} {a : Nat} {u v : Wd}
theorem w_looks (h : Wat M a u) (hu : wwf u) {i : Nat} (hi : i < 6) : f_X9_looks a (nI i) M = some (nI (lk u i), M) := by
  have h6 := hu.1
  simp only [f_X9_looks, jiv_n h.1.1, w_hasN h hu.1 (show i < 2 ^ 31 by omega), jb2_some, bI_z, decide_eq_false_iff_not]
  by_cases q : i < u.1
  · rw [if_neg (by simpa using q), gR_n h.1.1 h.1.2.1, Option.bind_some, ldI_n h.1.2.2.2.1 hi (by decide), Option.bind_some, gR_n h.1.1 h.1.2.2.1, Option.bind_some, ldI_n h.1.2.2.2.2 hi (by decide), Option.bind_some, h.2.2.1 i hi, h.2.2.2 i hi, nI_shr (Nat.lt_trans (wwf_64 hu i) (by decide)) (by omega), bitN _ (wwf_64 hu i) i hi, (shN _).2, nI_or]
    rfl
  · rw [if_pos q]
    have e : lk u i = 0 := by unfold lk eb; rw [(hu.2.2.2 i (by omega)).1, (hu.2.2.2 i (by omega)).2, Nat.zero_testBit]; rfl
    rw [e]; rfl
theorem w_bond (h : Wat M a u) (hu : wwf u) {i j : Nat} (hi : i < 6) (hj : j < 6) : f_X9_bond a (nI i) (nI j) M = some (nI (bd u i j), M) := by
  have h6 := hu.1
  simp only [f_X9_bond, jiv_n h.1.1, w_hasN h hu.1 (show i < 2 ^ 31 by omega), w_hasN h hu.1 (show j < 2 ^ 31 by omega), jb2_some, bI_z, decide_eq_false_iff_not]
  by_cases q : i < u.1
  · rw [if_neg (by simpa using q)]
    by_cases q2 : j < u.1
    · rw [if_neg (by simpa using q2)]
      have go : ∀ c : Bool, j_X9_bond_28 a (nI i) (nI j) (nI c.toNat) M = some (nI ((c.toNat ||| ((eb u i j).toNat <<< 1)) ||| ((eb u j i).toNat <<< 2)), M) := by
        intro c
        simp only [j_X9_bond_28, gR_n h.1.1 h.1.2.2.1, Option.bind_some]
        rw [ldI_n h.1.2.2.2.2 hi (by decide), Option.bind_some, ldI_n h.1.2.2.2.2 hj (by decide), Option.bind_some, h.2.2.2 i hi, h.2.2.2 j hj, nI_shr (Nat.lt_trans (wwf_64 hu i) (by decide)) (by omega), nI_shr (Nat.lt_trans (wwf_64 hu j) (by decide)) (by omega), bitN _ (wwf_64 hu i) j hj, bitN _ (wwf_64 hu j) i hi, (shN _).1, (shN _).2, nI_or, nI_or]
        rfl
      have hb : bd u i j = ((decide (i = j)).toNat ||| ((eb u i j).toNat <<< 1)) ||| ((eb u j i).toNat <<< 2) := if_pos ⟨q, q2⟩
      rw [hb]
      by_cases hij : i = j
      · subst hij
        rw [if_pos rfl, show nI 1 = nI (true.toNat) from rfl, go true]; simp
      · rw [if_neg (fun e => hij ((nI_eq (by omega) (by omega)).mp e)), show nI 0 = nI (false.toNat) from rfl, go false]; simp [hij]
    · rw [if_pos q2]; unfold bd; rw [if_neg (by omega)]; rfl
  · rw [if_pos q]; unfold bd; rw [if_neg (by omega)]; rfl
end G1
def isM (M : jM) (a : Nat) : Prop := tg M a = (3, 0) ∧ rR M a 0 = some (a + 1) ∧ rR M a 1 = some (a + 4) ∧ rR M a 2 = some (a + 7) ∧ rR M a 3 = some (a + 8) ∧ rR M a 4 = some (a + 9) ∧ rR M a 6 = some (a + 10) ∧ tg M (a + 7) = (100, 12) ∧ tg M (a + 8) = (100, 72) ∧ tg M (a + 9) = (100, 6) ∧ tg M (a + 10) = (100, 36) ∧ isW M (a + 1) ∧ isW M (a + 4)
theorem isM6 {M : jM} (h : Sh M) : isM M 6 := ⟨t6 h, r6_0 h, r6_1 h, r6_2 h, r6_3 h, r6_4 h, r6_6 h, t13 h, t14 h, t15 h, t16 h, iw7 h, iw10 h⟩
theorem isM18 {M : jM} (h : Sh M) : isM M 18 := ⟨t18 h, r18_0 h, r18_1 h, r18_2 h, r18_3 h, r18_4 h, r18_6 h, t25 h, t26 h, t27 h, t28 h, iw19 h, iw22 h⟩
theorem isM_ex {C : Nat → Prop} {M N : jM} {a : Nat} (h : Ex C M N) (k : isM M a) : isM N a := by
  obtain ⟨k1, k2, k3, k4, k5, k6, k7, k8, k9, k10, k11, k12, k13⟩ := k
  refine ⟨?_, ?_, ?_, ?_, ?_, ?_, ?_, ?_, ?_, ?_, ?_, isW_ex h k12, isW_ex h k13⟩
  all_goals first | (rw [ex_tg h]; assumption) | (rw [ex_rR h]; assumption)
/-- the two worlds, and what tells their things apart -/
def MS (M : jM) (a : Nat) (u v : Wd) : Prop := isM M a ∧ Wat M (a + 1) u ∧ Wat M (a + 4) v ∧ (∀ i, i < 6 → rI M (a + 7) i = nI (lk u i) ∧ rI M (a + 7) (6 + i) = nI (lk v i)) ∧ (∀ i, i < 6 → ∀ j, j < 6 → rI M (a + 8) (6 * i + j) = nI (bd u i j) ∧ rI M (a + 8) (6 * (6 + i) + j) = nI (bd v i j))
def MR (M : jM) (a : Nat) (r : Rw) : Prop := rI M a 5 = nI r.length ∧ r.length ≤ 3 ∧ ∀ k, k < r.length → rI M (a + 9) k = nI (ro r k).1 ∧ rI M (a + 9) (3 + k) = nI (ro r k).2
theorem MS_ex {C : Nat → Prop} {M N : jM} {a : Nat} {u v : Wd} (h : Ex C M N) (k : MS M a u v) (hc : ∀ c, a < c → c ≤ a + 8 → ¬ C c) : MS N a u v := by
  obtain ⟨k1, k2, k3, k4, k5⟩ := k
  refine ⟨isM_ex h k1, Wat_ex h k2 (hc _ (by omega) (by omega)) (hc _ (by omega) (by omega)) (hc _ (by omega) (by omega)), Wat_ex h k3 (hc _ (by omega) (by omega)) (hc _ (by omega) (by omega)) (hc _ (by omega) (by omega)), fun i hi => ?_, fun i hi j hj => ?_⟩
  · rw [ex_rI h (hc _ (by omega) (by omega)), ex_rI h (hc _ (by omega) (by omega))]; exact k4 i hi
  · rw [ex_rI h (hc _ (by omega) (by omega)), ex_rI h (hc _ (by omega) (by omega))]; exact k5 i hi j hj
theorem MR_ex {C : Nat → Prop} {M N : jM} {a : Nat} {r : Rw} (h : Ex C M N) (k : MR M a r) (h0 : ¬ C a) (h9 : ¬ C (a + 9)) : MR N a r := ⟨by rw [ex_rI h h0]; exact k.1, k.2.1, fun i hi => by rw [ex_rI h h9, ex_rI h h9]; exact k.2.2 i hi⟩
section G2
variable {a c b : Nat} {u : Wd}
theorem lookAt_43 (hu : wwf u) (hc : c ≠ a + 8 ∧ c + 1 ≠ a + 8 ∧ c + 2 ≠ a + 8) (hb : b = 0 ∨ b = 6) {k2 : Nat → Nat → Int32 → Int32 → jM → jO Unit} {i : Nat} (hi : i < 6) : ∀ (n j : Nat) (M : jM), isM M a → Wat M c u → j ≤ 6 → 6 - j < n → ∃ N, l_X3_lookAt_43 k2 n a c (nI b) (nI i) (nI (6 * (b + i))) (nI j) M = k2 a c (nI b) (nI (i + 1)) N ∧ Ex (fun q => q = a + 8) M N ∧ (∀ k, j ≤ k → k < 6 → rI N (a + 8) (6 * (b + i) + k) = nI (bd u i k)) ∧ (∀ k, (k < 6 * (b + i) + j ∨ 6 * (b + i) + 6 ≤ k) → rI N (a + 8) k = rI M (a + 8) k) := by
  intro n
  induction n with
  | zero => intro j M _ _ _ h; omega
  | succ n ih =>
    intro j M h w hj hn
    show ∃ N, b_X3_lookAt_43 k2 (l_X3_lookAt_43 k2 n) a c (nI b) (nI i) (nI (6 * (b + i))) (nI j) M = _ ∧ _
    unfold b_X3_lookAt_43 j_X3_lookAt_86
    by_cases hj6 : 6 ≤ j
    · rw [if_pos (nI_le hj6 (by omega)), nI_add]
      exact ⟨M, rfl, Ex.rf, fun k h1 h2 => by omega, fun _ _ => rfl⟩
    · rw [if_neg (nI_ge (by omega) (by decide)), gR_n h.1 h.2.2.2.2.1, Option.bind_some, ln_n h.2.2.2.2.2.2.2.2.1 (by decide) (by decide), Option.bind_some, nI_add, if_neg (nI_ge (by omega) (by decide)), Option.bind_some, jiv_n w.1.1, w_bond w hu hi (show j < 6 by omega), jb2_some, stI_n h.2.2.2.2.2.2.2.2.1 (by omega) (by decide), Option.bind_some, nI_add]
      have e1 : Ex (fun q => q = a + 8) M (wI M (a + 8) (6 * (b + i) + j) (nI (bd u i j))) := ex_wI Ex.rf rfl
      obtain ⟨N, q1, q2, q3, q4⟩ := ih (j + 1) _ (isM_ex e1 h) (Wat_ex e1 w (by omega) (by omega) (by omega)) (by omega) (by omega)
      refine ⟨N, q1, e1.tr q2, fun k h1 h2 => ?_, fun k hk => ?_⟩
      · by_cases hkj : k = j
        · subst hkj; rw [q4 _ (by omega), rI_wI]; simp
        · exact q3 k (by omega) h2
      · rw [q4 k (by omega), rI_wI, if_neg (by omega)]
theorem lookAt_2 (hu : wwf u) (hc : c ≠ a + 8 ∧ c + 1 ≠ a + 8 ∧ c + 2 ≠ a + 8 ∧ c ≠ a + 7 ∧ c + 1 ≠ a + 7 ∧ c + 2 ≠ a + 7) (hb : b = 0 ∨ b = 6) : ∀ (n i : Nat) (M : jM), isM M a → Wat M c u → i ≤ 6 → 6 - i < n → ∃ N, l_X3_lookAt_2 n a c (nI b) (nI i) M = some ((), N) ∧ Ex (fun q => q = a + 7 ∨ q = a + 8) M N ∧ (∀ k, i ≤ k → k < 6 → rI N (a + 7) (b + k) = nI (lk u k) ∧ ∀ j, j < 6 → rI N (a + 8) (6 * (b + k) + j) = nI (bd u k j)) ∧ (∀ k, (k < b + i ∨ b + 6 ≤ k) → rI N (a + 7) k = rI M (a + 7) k) ∧ (∀ k, (k < 6 * (b + i) ∨ 6 * (b + 6) ≤ k) → rI N (a + 8) k = rI M (a + 8) k) := by
  obtain ⟨n0, hn0⟩ := jF_is
  intro n
  induction n with
  | zero => intro i M _ _ _ h; omega
  | succ n ih =>
    intro i M h w hi hn
    show ∃ N, b_X3_lookAt_2 (l_X3_lookAt_2 n) a c (nI b) (nI i) M = _ ∧ _
    unfold b_X3_lookAt_2
    by_cases hi6 : 6 ≤ i
    · rw [if_pos (nI_le hi6 (by omega))]
      exact ⟨M, rfl, Ex.rf, fun k h1 h2 => by omega, fun _ _ => rfl, fun _ _ => rfl⟩
    · rw [if_neg (nI_ge (by omega) (by decide)), gR_n h.1 h.2.2.2.1, Option.bind_some, ln_n h.2.2.2.2.2.2.2.1 (by decide) (by decide), Option.bind_some, nI_add, if_neg (nI_ge (by omega) (by decide)), Option.bind_some, jiv_n w.1.1, w_looks w hu (show i < 6 by omega), jb2_some, stI_n h.2.2.2.2.2.2.2.1 (by omega) (by decide), Option.bind_some, pk_mul, Nat.mul_comm (b + i) 6]
      simp only [jv, Option.bind_some]
      have e1 : Ex (fun q => q = a + 7 ∨ q = a + 8) M (wI M (a + 7) (b + i) (nI (lk u i))) := ex_wI Ex.rf (Or.inl rfl)
      have w1 := Wat_ex e1 w (by omega) (by omega) (by omega)
      obtain ⟨N, q1, q2, q3, q4⟩ := lookAt_43 (b := b) hu ⟨hc.1, hc.2.1, hc.2.2.1⟩ hb (k2 := l_X3_lookAt_2 n) (show i < 6 by omega) jF0 0 _ (isM_ex e1 h) w1 (by decide) (by omega)
      rw [q1]
      have e2 := e1.tr (q2.mono (fun c hc => Or.inr hc))
      obtain ⟨N2, p1, p2, p3, p4, p5⟩ := ih (i + 1) N (isM_ex e2 h) (Wat_ex e2 w (by omega) (by omega) (by omega)) (by omega) (by omega)
      refine ⟨N2, p1, e2.tr p2, fun k h1 h2 => ?_, fun k hk => ?_, fun k hk => ?_⟩
      · by_cases hki : k = i
        · subst hki
          refine ⟨?_, fun j hj => ?_⟩
          · rw [p4 _ (by omega), ex_rI q2 (by omega), rI_wI]; simp
          · rw [p5 _ (by omega)]; exact q3 j (Nat.zero_le _) hj
        · exact p3 k (by omega) h2
      · rw [p4 k (by omega), ex_rI q2 (by omega), rI_wI, if_neg (by omega)]
      · rw [p5 k (by omega), q4 k (by omega), rI_wI, if_neg (by omega)]
end G2
/-- the cells of a match -/
def cM (a : Nat) : Nat → Prop := fun c => a ≤ c ∧ c ≤ a + 10
section G3
variable {M : jM} {a b c : Nat} {u v : Wd}
/-- begin: of two worlds elsewhere -/
theorem x_mbegin (hu : wwf u) (hv : wwf v) (h : isM M a) (w1 : Wat M b u) (w2 : Wat M c v) (hb : a + 10 < b ∨ b + 2 < a) (hc : a + 10 < c ∨ c + 2 < a) : ∃ N, f_X3_begin a b c M = some ((), N) ∧ MS N a u v ∧ MR N a [] ∧ Ex (cM a) M N := by
  obtain ⟨n0, hn0⟩ := jF_is
  have k12 := h.2.2.2.2.2.2.2.2.2.2.2.1
  have k13 := h.2.2.2.2.2.2.2.2.2.2.2.2
  unfold f_X3_begin
  rw [gR_n h.1 h.2.1, Option.bind_some, jiv_n k12.1]
  obtain ⟨N1, p1, p2, p3⟩ := w_become (a := a + 1) (b := b) (by omega) (by omega) k12 w1
  rw [p1, jb2_some]
  have m1 : Ex (cM a) M N1 := p3.mono (fun q hq => by unfold cW at hq; unfold cM; omega)
  have h1 := isM_ex m1 h
  rw [gR_n h1.1 h1.2.2.1, Option.bind_some, jiv_n (isW_ex m1 k13).1]
  obtain ⟨N2, s1, s2, s3⟩ := w_become (a := a + 4) (b := c) (by omega) (by omega) (isW_ex m1 k13) (Wat_ex p3 w2 (by unfold cW; omega) (by unfold cW; omega) (by unfold cW; omega))
  rw [s1, jb2_some]
  have m2 : Ex (cM a) M N2 := m1.tr (s3.mono (fun q hq => by unfold cW at hq; unfold cM; omega))
  have h2 := isM_ex m2 h
  rw [pI_n h2.1, Option.bind_some]
  have e3 : Ex (fun q => q = a) N2 (wI N2 a 5 (nI 0)) := ex_wI Ex.rf rfl
  have m3 : Ex (cM a) M (wI N2 a 5 (nI 0)) := m2.tr (e3.mono (fun q hq => by unfold cM; omega))
  have h3 := isM_ex m3 h
  have u3 : Wat (wI N2 a 5 (nI 0)) (a + 1) u := Wat_ex e3 (Wat_ex s3 p2 (by unfold cW; omega) (by unfold cW; omega) (by unfold cW; omega)) (by omega) (by omega) (by omega)
  have v3 : Wat (wI N2 a 5 (nI 0)) (a + 4) v := Wat_ex e3 s2 (by omega) (by omega) (by omega)
  have l3 : rI (wI N2 a 5 (nI 0)) a 5 = nI 0 := by rw [rI_wI]; simp
  generalize wI N2 a 5 (nI 0) = N3 at *
  rw [gR_n h3.1 h3.2.1, Option.bind_some, jiv_n h3.1]
  obtain ⟨N4, f1, f2, f3, f4, f5⟩ := lookAt_2 (b := 0) (a := a) (c := a + 1) hu (by omega) (Or.inl rfl) jF0 0 N3 h3 u3 (by decide) (by omega)
  rw [show f_X3_lookAt a (a + 1) (nI 0) N3 = some ((), N4) from f1, jb2_some]
  have m4 : Ex (cM a) M N4 := m3.tr (f2.mono (fun q hq => by unfold cM; omega))
  have h4 := isM_ex m4 h
  rw [gR_n h4.1 h4.2.2.1, Option.bind_some, jiv_n h4.1]
  have v4 := Wat_ex f2 v3 (by omega) (by omega) (by omega)
  obtain ⟨N5, g1, g2, g3, g4, g5⟩ := lookAt_2 (b := 6) (a := a) (c := a + 4) hv (by omega) (Or.inr rfl) jF0 0 N4 h4 v4 (by decide) (by omega)
  rw [show f_X3_lookAt a (a + 4) (nI 6) N4 = some ((), N5) from g1, jb2_some]
  have m5 : Ex (cM a) M N5 := m4.tr (g2.mono (fun q hq => by unfold cM; omega))
  refine ⟨N5, rfl, ⟨isM_ex m5 h, Wat_ex g2 (Wat_ex f2 u3 (by omega) (by omega) (by omega)) (by omega) (by omega) (by omega), Wat_ex g2 v4 (by omega) (by omega) (by omega), fun i hi => ⟨?_, (g3 i (Nat.zero_le _) hi).1⟩, fun i hi j hj => ⟨?_, (g3 i (Nat.zero_le _) hi).2 j hj⟩⟩, ⟨?_, by decide, fun k hk => by simp at hk⟩, m5⟩
  · rw [g4 i (by omega)]; have := (f3 i (Nat.zero_le _) hi).1; rw [Nat.zero_add] at this; exact this
  · rw [g5 _ (by omega)]; have := (f3 i (Nat.zero_le _) hi).2 j hj; rw [Nat.zero_add] at this; exact this
  · rw [ex_rI g2 (by omega), ex_rI f2 (by omega)]; exact l3
end G3
