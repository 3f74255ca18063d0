/-! The class's Match: types, and who wins. -/
section K1
variable {M : jM} {a : Nat} {u v : Wd} {r : Rw}
theorem typeOf_38 {W : Wd} {ρ : Nat → Nat} {t at_ row L : Nat} (h : isM M a) (hl : rI M a 5 = nI L) (hL : L ≤ 3) (hrow : row ≤ 3) (hat : at_ < 12) (hb : ∀ j, j < 6 → rI M (a + 8) (6 * at_ + j) = nI (bd W t j)) (hr : ∀ k, k < L → rI M (a + 9) (row + k) = nI (ρ k) ∧ ρ k < 6) : ∀ (n p : Nat), p ≤ L → L - p < n → l_X3_typeOf_38 n a (nI at_) (nI (tyf W ρ t p)) (nI row) (nI p) M = some (nI (tyf W ρ t L), M) := by
  intro n
  induction n with
  | zero => intro p _ h; omega
  | succ n ih =>
    intro p hp hn
    show b_X3_typeOf_38 (l_X3_typeOf_38 n) a (nI at_) _ (nI row) (nI p) M = _
    unfold b_X3_typeOf_38 j_X3_typeOf_116
    rw [gI_n h.1, Option.bind_some, hl]
    by_cases hpL : L ≤ p
    · rw [if_pos (nI_le hpL (by omega)), show p = L by omega]; rfl
    · have hq := hr p (by omega)
      have h8 : bd W t (ρ p) < 8 := bd_lt _ _
      rw [if_neg (nI_ge (by omega) (by omega)), if_neg (nI_pos (by omega)), gR_n h.1 h.2.2.2.2.2.1, Option.bind_some, ln_n h.2.2.2.2.2.2.2.2.2.1 (by decide) (by decide), Option.bind_some, nI_add, if_neg (nI_ge (by omega) (by decide)), Option.bind_some, ldI_n h.2.2.2.2.2.2.2.2.2.1 (by omega) (by decide), Option.bind_some, hq.1, pk_mul, nI_add]
      simp only [jv, Option.bind_some]
      rw [if_neg (nI_pos (by omega)), gR_n h.1 h.2.2.2.2.1, Option.bind_some, ln_n h.2.2.2.2.2.2.2.2.1 (by decide) (by decide), Option.bind_some, if_neg (nI_ge (by omega) (by decide)), Option.bind_some, ldI_n h.2.2.2.2.2.2.2.2.1 (by omega) (by decide), Option.bind_some, Nat.mul_comm at_ 6, hb _ hq.2, nI_add, pk_mul]
      have hsh : bd W t (ρ p) * 2 ^ (3 * (p + 1)) < 2 ^ 32 := by
        have h2 : 2 ^ (3 * (p + 1)) ≤ 2 ^ 9 := Nat.pow_le_pow_right (by decide) (by omega)
        have h3 : bd W t (ρ p) * 2 ^ (3 * (p + 1)) ≤ 8 * 2 ^ 9 := Nat.mul_le_mul (Nat.le_of_lt h8) h2
        omega
      rw [nI_shl (by omega) hsh, nI_or]
      exact ih (p + 1) (by omega) (by omega)
theorem x_typeOf0 (h : MS M a u v) (k : MR M a r) (hu : wwf u) (hv : wwf v) (hr : rv u v r) {t : Nat} (ht : t < 6) : f_X3_typeOf a (nI 0) (nI t) M = some (nI (tyf u (fun k => (ro r k).1) t r.length), M) := by
  obtain ⟨n0, hn0⟩ := jF_is
  have h6 := hu.1
  have hL := k.2.1
  unfold f_X3_typeOf
  rw [pk_mul, nI_add]
  simp only [jv, Option.bind_some, Nat.zero_mul, Nat.zero_add]
  rw [if_neg (nI_pos (by omega)), gR_n h.1.1 h.1.2.2.2.1, Option.bind_some, ln_n h.1.2.2.2.2.2.2.2.1 (by decide) (by decide), Option.bind_some, if_pos (nI_lt (by omega) (by decide)), Option.bind_some, ldI_n h.1.2.2.2.2.2.2.2.1 (by omega) (by decide), Option.bind_some, (h.2.2.2.1 t ht).1, pk_mul]
  simp only [Option.bind_some, Nat.zero_mul]
  exact typeOf_38 (W := u) (t := t) (at_ := t) (row := 0) h.1 k.1 k.2.1 (by decide) (by omega) (fun j hj => (h.2.2.2.2 t ht j hj).1) (fun q hq => by
    rw [Nat.zero_add]
    have := hr _ (ro_mem hq)
    exact ⟨(k.2.2 q hq).1, by omega⟩) jF0 0 (Nat.zero_le _) (by omega)
theorem x_typeOf1 (h : MS M a u v) (k : MR M a r) (hu : wwf u) (hv : wwf v) (hr : rv u v r) {t : Nat} (ht : t < 6) : f_X3_typeOf a (nI 1) (nI t) M = some (nI (tyf v (fun k => (ro r k).2) t r.length), M) := by
  obtain ⟨n0, hn0⟩ := jF_is
  have h6 := hv.1
  have hL := k.2.1
  unfold f_X3_typeOf
  rw [pk_mul, nI_add]
  simp only [jv, Option.bind_some, Nat.one_mul]
  rw [if_neg (nI_pos (by omega)), gR_n h.1.1 h.1.2.2.2.1, Option.bind_some, ln_n h.1.2.2.2.2.2.2.2.1 (by decide) (by decide), Option.bind_some, if_pos (nI_lt (by omega) (by decide)), Option.bind_some, ldI_n h.1.2.2.2.2.2.2.2.1 (by omega) (by decide), Option.bind_some, (h.2.2.2.1 t ht).2, pk_mul]
  simp only [Option.bind_some, Nat.one_mul]
  exact typeOf_38 (W := v) (t := t) (at_ := 6 + t) (row := 3) h.1 k.1 k.2.1 (by decide) (by omega) (fun j hj => (h.2.2.2.2 t ht j hj).2) (fun q hq => by
    have := hr _ (ro_mem hq)
    exact ⟨(k.2.2 q hq).2, by omega⟩) jF0 0 (Nat.zero_le _) (by omega)
/-- a pick of a side with a reply of the other, as a pair -/
def pr2 (side t s : Nat) : Nat × Nat := if side = 0 then (t, s) else (s, t)
theorem bI_dec {p : Prop} [Decidable p] {b : Bool} (h : p ↔ b = true) : decide p = b := by
  cases b with
  | true => exact decide_eq_true (h.mpr rfl)
  | false => exact decide_eq_false (fun q => by cases h.mp q)
theorem x_staysAlike (h : MS M a u v) (k : MR M a r) (hu : wwf u) (hv : wwf v) (hr : rv u v r) {side t s : Nat} (hs : side < 2) (ht : (pr2 side t s).1 < u.1) (hs2 : (pr2 side t s).2 < v.1) : f_X3_staysAlike a (nI side) (nI t) (nI s) M = some (bI (pla u v r (pr2 side t s)), M) := by
  have h6 := hu.1
  have h62 := hv.1
  unfold f_X3_staysAlike
  have key : ∀ x y : Nat, x < 2 ^ 31 → y < 2 ^ 31 → ∀ b : Bool, (x = y ↔ b = true) → (if nI x = nI y then rZ (nI 1) M else rZ (nI 0) M) = some (bI b, M) := by
    intro x y hx hy b hb
    cases b with
    | true => rw [if_pos (by rw [hb.mpr rfl])]; rfl
    | false => rw [if_neg (fun e => by cases hb.mp ((nI_eq hx hy).mp e))]; rfl
  have lt0 : ∀ t, tyf u (fun k => (ro r k).1) t r.length < 2 ^ 31 := fun t => Nat.lt_of_lt_of_le (tyf_lt hu _ t r.length) (Nat.pow_le_pow_right (by decide) (by have := k.2.1; omega))
  have lt1 : ∀ t, tyf v (fun k => (ro r k).2) t r.length < 2 ^ 31 := fun t => Nat.lt_of_lt_of_le (tyf_lt hv _ t r.length) (Nat.pow_le_pow_right (by decide) (by have := k.2.1; omega))
  rcases (show side = 0 ∨ side = 1 by omega) with rfl | rfl
  · have ht : t < u.1 := ht
    have hs2 : s < v.1 := hs2
    rw [jiv_n h.1.1, x_typeOf0 h k hu hv hr (show t < 6 by omega), jb2_some, pk_sub (by decide), jiv_n h.1.1, x_typeOf1 h k hu hv hr (show s < 6 by omega), jb2_some]
    exact key _ _ (lt0 _) (lt1 _) _ (ty_pla hu hv hr ht hs2)
  · have ht : s < u.1 := ht
    have hs2 : t < v.1 := hs2
    rw [jiv_n h.1.1, x_typeOf1 h k hu hv hr (show t < 6 by omega), jb2_some, pk_sub (by decide), jiv_n h.1.1, x_typeOf0 h k hu hv hr (show s < 6 by omega), jb2_some]
    exact key _ _ (lt1 _) (lt0 _) _ (by rw [eq_comm]; exact ty_pla hu hv hr ht hs2)
/-- the cells that who-wins writes -/
def cK (a : Nat) : Nat → Prop := fun c => c = a ∨ c = a + 9 ∨ c = a + 10
theorem MS_cK {N : jM} (e : Ex (cK a) M N) (h : MS M a u v) : MS N a u v := MS_ex e h (fun c h1 h2 => by unfold cK; omega)
theorem x_lengthen (h : MS M a u v) (k : MR M a r) {side t s : Nat} (hs : side < 2) (hL : r.length < 3) : ∃ N, f_X3_lengthen a (nI side) (nI t) (nI s) M = some (bI true, N) ∧ MS N a u v ∧ MR N a (pr2 side t s :: r) ∧ Ex (fun c => c = a ∨ c = a + 9) M N := by
  have m := h.1
  unfold f_X3_lengthen
  rw [gI_n m.1, Option.bind_some, k.1, if_neg (nI_pos (by omega)), Option.bind_some, if_pos (nI_lt (by omega) (by decide)), gR_n m.1 m.2.2.2.2.2.1, Option.bind_some, Option.bind_some]
  have go : ∀ x y, ∃ N, N = wI (wI (wI M (a + 9) r.length x) (a + 9) (3 + r.length) y) a 5 (nI (r.length + 1)) ∧ Ex (fun c => c = a ∨ c = a + 9) M N ∧ (j_X3_lengthen_54 a (a + 9) (nI 3 + nI r.length) y (wI M (a + 9) r.length x) = some (bI true, N)) := by
    intro x y
    refine ⟨_, rfl, ex_wI (ex_wI (ex_wI Ex.rf (Or.inr rfl)) (Or.inr rfl)) (Or.inl rfl), ?_⟩
    unfold j_X3_lengthen_54
    have m1 : isM (wI M (a + 9) r.length x) a := isM_ex (C := fun c => c = a + 9) (ex_wI Ex.rf rfl) m
    have m2 : isM (wI (wI M (a + 9) r.length x) (a + 9) (3 + r.length) y) a := isM_ex (C := fun c => c = a + 9) (ex_wI Ex.rf rfl) m1
    rw [nI_add, stI_n m1.2.2.2.2.2.2.2.2.2.1 (show 3 + r.length < 6 by omega) (by decide), Option.bind_some, gI_n m2.1, Option.bind_some, rI_wI, if_neg (by omega), rI_wI, if_neg (by omega), k.1, pI_n m2.1, Option.bind_some, nI_add]
    rfl
  have fin : ∀ x y N, N = wI (wI (wI M (a + 9) r.length (nI x)) (a + 9) (3 + r.length) (nI y)) a 5 (nI (r.length + 1)) → pr2 side t s = (x, y) → MR N a (pr2 side t s :: r) := by
    intro x y N hN hp
    subst hN
    refine ⟨by rw [rI_wI]; simp, by simp; omega, fun q hq => ?_⟩
    have hq : q < r.length + 1 := hq
    simp only [rI_wI]
    by_cases hql : q = r.length
    · subst hql
      rw [ro_last, hp]
      refine ⟨?_, ?_⟩
      · rw [if_neg (by omega), if_neg (by omega)]; simp
      · rw [if_neg (by omega)]; simp
    · rw [ro_cons (by omega)]
      refine ⟨?_, ?_⟩
      · rw [if_neg (by omega), if_neg (by omega), if_neg (by omega)]; exact (k.2.2 q (by omega)).1
      · rw [if_neg (by omega), if_neg (by omega), if_neg (by omega)]; exact (k.2.2 q (by omega)).2
  rcases (show side = 0 ∨ side = 1 by omega) with rfl | rfl
  · rw [if_pos (show nI 0 = 0 from rfl)]
    unfold j_X3_lengthen_34
    have m1 : isM (wI M (a + 9) r.length (nI t)) a := isM_ex (C := fun c => c = a + 9) (ex_wI Ex.rf rfl) m
    have l1 : rI (wI M (a + 9) r.length (nI t)) a 5 = nI r.length := by rw [rI_wI, if_neg (by omega)]; exact k.1
    rw [stI_n m.2.2.2.2.2.2.2.2.2.1 (show r.length < 6 by omega) (by decide), Option.bind_some, gR_n m1.1 m1.2.2.2.2.2.1, Option.bind_some, gI_n m1.1, Option.bind_some, l1, if_pos (show nI 0 = 0 from rfl)]
    obtain ⟨N, q1, q2, q3⟩ := go (nI t) (nI s)
    exact ⟨N, q3, MS_ex q2 h (fun c h1 h2 => by omega), fin t s N q1 rfl, q2⟩
  · rw [if_neg (show ¬ nI 1 = 0 by decide)]
    unfold j_X3_lengthen_34
    have m1 : isM (wI M (a + 9) r.length (nI s)) a := isM_ex (C := fun c => c = a + 9) (ex_wI Ex.rf rfl) m
    have l1 : rI (wI M (a + 9) r.length (nI s)) a 5 = nI r.length := by rw [rI_wI, if_neg (by omega)]; exact k.1
    rw [stI_n m.2.2.2.2.2.2.2.2.2.1 (show r.length < 6 by omega) (by decide), Option.bind_some, gR_n m1.1 m1.2.2.2.2.2.1, Option.bind_some, gI_n m1.1, Option.bind_some, l1, if_neg (show ¬ nI 1 = 0 by decide)]
    obtain ⟨N, q1, q2, q3⟩ := go (nI s) (nI t)
    exact ⟨N, q3, MS_ex q2 h (fun c h1 h2 => by omega), fin s t N q1 rfl, q2⟩
theorem x_shorten (h : MS M a u v) {p : Nat × Nat} (k : MR M a (p :: r)) : ∃ N, f_X3_shorten a M = some ((), N) ∧ MS N a u v ∧ MR N a r ∧ Ex (fun c => c = a) M N := by
  have hL := k.2.1
  have hL : r.length + 1 ≤ 3 := hL
  unfold f_X3_shorten
  rw [gI_n h.1.1, Option.bind_some, k.1, pI_n h.1.1, Option.bind_some, show (p :: r).length = r.length + 1 from rfl, pk_sub (by omega), Nat.add_sub_cancel]
  have e : jmx (nI 0) (nI r.length) = nI r.length := by
    unfold jmx
    by_cases q : r.length = 0
    · rw [q]; rfl
    · rw [if_pos (nI_lt (by omega) (by omega))]
  rw [e]
  have e1 : Ex (fun c => c = a) M (wI M a 5 (nI r.length)) := ex_wI Ex.rf rfl
  refine ⟨_, rfl, MS_ex e1 h (fun c h1 h2 => by omega), ⟨by rw [rI_wI]; simp, by omega, fun q hq => ?_⟩, e1⟩
  simp only [rI_wI]
  rw [if_neg (by omega), if_neg (by omega)]
  have := k.2.2 q (by show q < r.length + 1; omega)
  rw [ro_cons hq] at this
  exact this
end K1
section K2
variable {a : Nat} {u v : Wd} {r : Rw}
/-- the types of all things at this length -/
def TY (M : jM) (a : Nat) (u v : Wd) (r : Rw) : Prop := (∀ x, x < u.1 → rI M (a + 10) (12 * r.length + x) = nI (tyf u (fun k => (ro r k).1) x r.length)) ∧ (∀ y, y < v.1 → rI M (a + 10) (12 * r.length + 6 + y) = nI (tyf v (fun k => (ro r k).2) y r.length))
theorem fill_46 (hu : wwf u) (hv : wwf v) (hr : rv u v r) (hL : r.length < 3) : ∀ (n y : Nat) (M : jM), MS M a u v → MR M a r → y ≤ v.1 → v.1 - y < n → ∃ N, l_X3_fillTypes_46 n a (nI (12 * r.length)) (nI y) M = some ((), N) ∧ Ex (fun c => c = a + 10) M N ∧ (∀ k, y ≤ k → k < v.1 → rI N (a + 10) (12 * r.length + 6 + k) = nI (tyf v (fun k => (ro r k).2) k r.length)) ∧ (∀ k, k < 12 * r.length + 6 + y → rI N (a + 10) k = rI M (a + 10) k) := by
  have h6 := hv.1
  intro n
  induction n with
  | zero => intro y M _ _ _ h; omega
  | succ n ih =>
    intro y M h k hy hn
    show ∃ N, b_X3_fillTypes_46 (l_X3_fillTypes_46 n) a (nI (12 * r.length)) (nI y) M = _ ∧ _
    unfold b_X3_fillTypes_46
    rw [gR_n h.1.1 h.1.2.2.1, Option.bind_some, jiv_n h.2.2.1.1.1, w_size h.2.2.1, jb2_some]
    by_cases hyv : v.1 ≤ y
    · rw [if_pos (nI_le hyv (by omega))]
      exact ⟨M, rfl, Ex.rf, fun k h1 h2 => by omega, fun _ _ => rfl⟩
    · rw [if_neg (nI_ge (by omega) (by omega)), gR_n h.1.1 h.1.2.2.2.2.2.2.1, Option.bind_some, ln_n h.1.2.2.2.2.2.2.2.2.2.2.1 (by decide) (by decide), Option.bind_some, nI_add, nI_add, if_neg (nI_ge (by omega) (by decide)), Option.bind_some, jiv_n h.1.1, x_typeOf1 h k hu hv hr (show y < 6 by omega), jb2_some, stI_n h.1.2.2.2.2.2.2.2.2.2.2.1 (by omega) (by decide), Option.bind_some, nI_add]
      have e1 : Ex (fun c => c = a + 10) M (wI M (a + 10) (12 * r.length + 6 + y) (nI (tyf v (fun k => (ro r k).2) y r.length))) := ex_wI Ex.rf rfl
      obtain ⟨N, q1, q2, q3, q4⟩ := ih (y + 1) _ (MS_ex e1 h (fun c h1 h2 => by omega)) (MR_ex e1 k (by omega) (by omega)) (by omega) (by omega)
      refine ⟨N, q1, e1.tr q2, fun k h1 h2 => ?_, fun k hk => ?_⟩
      · by_cases hky : k = y
        · subst hky; rw [q4 _ (by omega), rI_wI]; simp
        · exact q3 k (by omega) h2
      · rw [q4 k (by omega), rI_wI, if_neg (by omega)]
theorem fill_2 (hu : wwf u) (hv : wwf v) (hr : rv u v r) (hL : r.length < 3) : ∀ (n x : Nat) (M : jM), MS M a u v → MR M a r → (∀ k, k < x → rI M (a + 10) (12 * r.length + k) = nI (tyf u (fun k => (ro r k).1) k r.length)) → x ≤ u.1 → u.1 - x < n → ∃ N, l_X3_fillTypes_2 n a (nI (12 * r.length)) (nI x) M = some ((), N) ∧ Ex (fun c => c = a + 10) M N ∧ TY N a u v r ∧ (∀ k, k < 12 * r.length → rI N (a + 10) k = rI M (a + 10) k) := by
  have h6 := hu.1
  have h62 := hv.1
  obtain ⟨n0, hn0⟩ := jF_is
  intro n
  induction n with
  | zero => intro y M _ _ _ _ h; omega
  | succ n ih =>
    intro x M h k hx0 hx hn
    show ∃ N, b_X3_fillTypes_2 (l_X3_fillTypes_2 n) a (nI (12 * r.length)) (nI x) M = _ ∧ _
    unfold b_X3_fillTypes_2
    rw [gR_n h.1.1 h.1.2.1, Option.bind_some, jiv_n h.2.1.1.1, w_size h.2.1, jb2_some]
    by_cases hxu : u.1 ≤ x
    · rw [if_pos (nI_le hxu (by omega))]
      unfold j_X3_fillTypes_44
      obtain ⟨N, q1, q2, q3, q4⟩ := fill_46 hu hv hr hL jF0 0 M h k (Nat.zero_le _) (by omega)
      refine ⟨N, q1, q2, ⟨fun x' hx' => ?_, fun y hy => q3 y (Nat.zero_le _) hy⟩, fun k hk => q4 k (by omega)⟩
      rw [q4 _ (by omega)]; exact hx0 x' (by omega)
    · rw [if_neg (nI_ge (by omega) (by omega)), gR_n h.1.1 h.1.2.2.2.2.2.2.1, Option.bind_some, ln_n h.1.2.2.2.2.2.2.2.2.2.2.1 (by decide) (by decide), Option.bind_some, nI_add, if_neg (nI_ge (by omega) (by decide)), Option.bind_some, jiv_n h.1.1, x_typeOf0 h k hu hv hr (show x < 6 by omega), jb2_some, stI_n h.1.2.2.2.2.2.2.2.2.2.2.1 (by omega) (by decide), Option.bind_some, nI_add]
      have e1 : Ex (fun c => c = a + 10) M (wI M (a + 10) (12 * r.length + x) (nI (tyf u (fun k => (ro r k).1) x r.length))) := ex_wI Ex.rf rfl
      obtain ⟨N, q1, q2, q3, q4⟩ := ih (x + 1) _ (MS_ex e1 h (fun c h1 h2 => by omega)) (MR_ex e1 k (by omega) (by omega)) (fun k hk => by
        rw [rI_wI]
        by_cases hkx : k = x
        · subst hkx; simp
        · rw [if_neg (by omega)]; exact hx0 k (by omega)) (by omega) (by omega)
      exact ⟨N, q1, e1.tr q2, q3, fun k hk => by rw [q4 k hk, rI_wI, if_neg (by omega)]⟩
theorem x_sameType {M : jM} (h : MS M a u v) (ty : TY M a u v r) (hu : wwf u) (hv : wwf v) (hr : rv u v r) (hL : r.length < 3) {x y : Nat} (hx : x < u.1) (hy : y < v.1) : f_X3_sameType a (nI (12 * r.length + x)) (nI (12 * r.length + 6 + y)) M = some (bI (pla u v r (x, y)), M) := by
  have h6 := hu.1
  have h62 := hv.1
  unfold f_X3_sameType
  rw [if_neg (nI_pos (by omega)), if_neg (nI_pos (by omega)), gR_n h.1.1 h.1.2.2.2.2.2.2.1, Option.bind_some, ln_n h.1.2.2.2.2.2.2.2.2.2.2.1 (by decide) (by decide), Option.bind_some, if_neg (nI_ge (by omega) (by decide)), Option.bind_some, ln_n h.1.2.2.2.2.2.2.2.2.2.2.1 (by decide) (by decide), Option.bind_some, if_neg (nI_ge (by omega) (by decide)), Option.bind_some, ldI_n h.1.2.2.2.2.2.2.2.2.2.2.1 (by omega) (by decide), Option.bind_some, Option.bind_some, ldI_n h.1.2.2.2.2.2.2.2.2.2.2.1 (by omega) (by decide), Option.bind_some, ty.1 x hx, ty.2 y hy]
  have key := ty_pla hu hv hr hx hy
  have l0 : tyf u (fun k => (ro r k).1) x r.length < 2 ^ 31 := Nat.lt_of_lt_of_le (tyf_lt hu _ x r.length) (Nat.pow_le_pow_right (by decide) (by omega))
  have l1 : tyf v (fun k => (ro r k).2) y r.length < 2 ^ 31 := Nat.lt_of_lt_of_le (tyf_lt hv _ y r.length) (Nat.pow_le_pow_right (by decide) (by omega))
  cases hb : pla u v r (x, y) with
  | true => rw [if_pos (by rw [key.mpr hb])]; rfl
  | false => rw [if_neg (fun e => by have := key.mp ((nI_eq l0 l1).mp e); rw [hb] at this; cases this)]; rfl
end K2
