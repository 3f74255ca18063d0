/-! COLOURS: what the class writes into its signatures. -/
def N0 : Nat → Prop := fun _ => False
def lcd (u : Wd) (i j : Nat) : Nat := (lk u i ||| (lk u j <<< 3)) ||| (bd u i j <<< 6)
theorem pr_lt {n i j c d : Nat} (h : i < c) (hj : j < n) : i * n + j < c * n + d := by
  have : (i + 1) * n ≤ c * n := Nat.mul_le_mul_right n h
  rw [Nat.add_mul, Nat.one_mul] at this
  omega
theorem pr_sq {n i j : Nat} (h : i < n) (hj : j < n) : i * n + j < n * n := by
  have := pr_lt (d := 0) h hj
  omega
section L3
variable {u : Wd} {wc base : Nat}
theorem look0_l (hu : wwf u) (hb : base + u.1 ≤ 72) : ∀ (f a : Nat) (M : jM), Sh M → Wat M wc u → a ≤ u.1 → u.1 - a < f → ∃ N, l_X1_lookAt_9 f 42 wc (nI base) (nI 0) (nI u.1) (nI a) M = some ((), N) ∧ El N0 M N ∧ (∀ i, a ≤ i → i < u.1 → rL N 45 (4 * (base + i)) = rL M 45 (4 * (base + i)) + (nI (lk u i)).toInt64) ∧ (∀ k, (∀ i, a ≤ i → i < u.1 → k ≠ 4 * (base + i)) → rL N 45 k = rL M 45 k) := by
  have h6 := hu.1
  intro f
  induction f with
  | zero => intro a M _ _ _ q; omega
  | succ f ih =>
    intro a M h w ha hf
    show ∃ N, b_X1_lookAt_9 (l_X1_lookAt_9 f) 42 wc (nI base) (nI 0) (nI u.1) (nI a) M = some ((), N) ∧ _
    unfold b_X1_lookAt_9
    by_cases hc : u.1 ≤ a
    · rw [if_pos (nI_le hc (by omega))]
      exact ⟨M, rfl, El.rf, fun i h1 h2 => by omega, fun k _ => rfl⟩
    · rw [if_neg (nI_ge (by omega) (by omega)), if_pos (show nI 0 = 0 from rfl), jiv_n w.1.1, w_looks w hu (by omega), jb2_some, jiv_n (t42 h), nI_add, x_add h (by omega) (by decide), jb2_some]
      unfold j_X1_lookAt_36
      obtain ⟨n0, hn0⟩ := jF_is
      rw [hn0]
      show ∃ N, b_X1_lookAt_39 (l_X1_lookAt_9 f) (l_X1_lookAt_39 (l_X1_lookAt_9 f) (n0 + 899999)) 42 wc (nI base) (nI 0) (nI u.1) (nI a) (nI 0) _ = some ((), N) ∧ _
      unfold b_X1_lookAt_39
      rw [if_pos (show nI 0 = 0 from rfl)]
      unfold j_X1_lookAt_99
      rw [nI_add, Nat.add_zero]
      have e1 : El N0 M (wL M 45 (4 * (base + a)) (rL M 45 (4 * (base + a)) + (nI (lk u a)).toInt64)) := el_wL El.rf
      obtain ⟨N, p1, p2, p3, p4⟩ := ih (a + 1) _ (Sh_el e1 h) (Wat_el e1 w id id id) (by omega) (by omega)
      refine ⟨N, p1, e1.tr p2, fun i h1 h2 => ?_, fun k hk => ?_⟩
      · by_cases hi : i = a
        · subst hi
          rw [p4 _ (fun q _ _ => by omega), rL_wL, if_pos ⟨rfl, rfl⟩]
        · rw [p3 i (by omega) h2, rL_wL, if_neg (by omega)]
      · rw [p4 k (fun q h1 h2 => hk q (by omega) h2), rL_wL, if_neg (fun q => hk a (Nat.le_refl _) (by omega) q.2)]
theorem look1_i (hu : wwf u) (hb : base + u.1 * u.1 ≤ 72) {k9 : Nat → Nat → Int32 → Int32 → Int32 → Int32 → jM → jO Unit} {a : Nat} (ha : a < u.1) : ∀ (f c : Nat) (M : jM), Sh M → Wat M wc u → c ≤ u.1 → u.1 - c < f → ∃ N, l_X1_lookAt_39 k9 f 42 wc (nI base) (nI 1) (nI u.1) (nI a) (nI c) M = k9 42 wc (nI base) (nI 1) (nI u.1) (nI (a + 1)) N ∧ El N0 M N ∧ (∀ j, c ≤ j → j < u.1 → rL N 45 (4 * (base + (a * u.1 + j))) = rL M 45 (4 * (base + (a * u.1 + j))) + (nI (lcd u a j)).toInt64) ∧ (∀ k, (∀ j, c ≤ j → j < u.1 → k ≠ 4 * (base + (a * u.1 + j))) → rL N 45 k = rL M 45 k) := by
  have h6 := hu.1
  intro f
  induction f with
  | zero => intro c M _ _ _ q; omega
  | succ f ih =>
    intro c M h w hc hf
    show ∃ N, b_X1_lookAt_39 k9 (l_X1_lookAt_39 k9 f) 42 wc (nI base) (nI 1) (nI u.1) (nI a) (nI c) M = _ ∧ _
    unfold b_X1_lookAt_39 j_X1_lookAt_99
    rw [if_neg (show ¬ nI 1 = 0 by decide)]
    by_cases hcc : u.1 ≤ c
    · rw [if_pos (nI_le hcc (by omega)), nI_add]
      exact ⟨M, rfl, El.rf, fun i h1 h2 => by omega, fun k _ => rfl⟩
    · have hs := pr_sq ha (show c < u.1 by omega)
      have l1 := lk_lt hu a
      have l2 := lk_lt hu c
      have l3 := bd_lt (u := u) a c
      rw [if_neg (nI_ge (by omega) (by omega)), jiv_n w.1.1, w_looks w hu (by omega), jb2_some, jiv_n w.1.1, w_looks w hu (by omega), jb2_some, jiv_n w.1.1, w_bond w hu (by omega) (by omega), jb2_some, jiv_n (t42 h), nm_mul, nI_add, nI_add, Nat.add_assoc, nI_shl (by decide) (by omega), nI_shl (by decide) (by omega), nI_or, nI_or, x_add h (by omega) (by decide), jb2_some, nI_add, Nat.add_zero]
      have e1 : El N0 M (wL M 45 (4 * (base + (a * u.1 + c))) (rL M 45 (4 * (base + (a * u.1 + c))) + (nI (lcd u a c)).toInt64)) := el_wL El.rf
      obtain ⟨N, p1, p2, p3, p4⟩ := ih (c + 1) _ (Sh_el e1 h) (Wat_el e1 w id id id) (by omega) (by omega)
      refine ⟨N, p1, e1.tr p2, fun j h1 h2 => ?_, fun k hk => ?_⟩
      · by_cases hi : j = c
        · subst hi
          rw [p4 _ (fun q _ _ => by omega), rL_wL, if_pos ⟨rfl, rfl⟩]
        · rw [p3 j (by omega) h2, rL_wL, if_neg (by omega)]
      · rw [p4 k (fun q h1 h2 => hk q (by omega) h2), rL_wL, if_neg (fun q => hk c (Nat.le_refl _) (by omega) q.2)]
theorem look1_l (hu : wwf u) (hb : base + u.1 * u.1 ≤ 72) : ∀ (f a : Nat) (M : jM), Sh M → Wat M wc u → a ≤ u.1 → u.1 - a < f → ∃ N, l_X1_lookAt_9 f 42 wc (nI base) (nI 1) (nI u.1) (nI a) M = some ((), N) ∧ El N0 M N ∧ (∀ i j, a ≤ i → i < u.1 → j < u.1 → rL N 45 (4 * (base + (i * u.1 + j))) = rL M 45 (4 * (base + (i * u.1 + j))) + (nI (lcd u i j)).toInt64) ∧ (∀ k, (∀ i j, a ≤ i → i < u.1 → j < u.1 → k ≠ 4 * (base + (i * u.1 + j))) → rL N 45 k = rL M 45 k) := by
  have h6 := hu.1
  intro f
  induction f with
  | zero => intro a M _ _ _ q; omega
  | succ f ih =>
    intro a M h w ha hf
    show ∃ N, b_X1_lookAt_9 (l_X1_lookAt_9 f) 42 wc (nI base) (nI 1) (nI u.1) (nI a) M = some ((), N) ∧ _
    unfold b_X1_lookAt_9
    by_cases hc : u.1 ≤ a
    · rw [if_pos (nI_le hc (by omega))]
      exact ⟨M, rfl, El.rf, fun i j h1 h2 => by omega, fun k _ => rfl⟩
    · rw [if_neg (nI_ge (by omega) (by omega)), if_neg (show ¬ nI 1 = 0 by decide)]
      unfold j_X1_lookAt_36
      obtain ⟨n0, hn0⟩ := jF_is
      obtain ⟨N1, q1, q2, q3, q4⟩ := look1_i (k9 := l_X1_lookAt_9 f) hu hb (show a < u.1 by omega) jF0 0 M h w (Nat.zero_le _) (by omega)
      rw [q1]
      obtain ⟨N, p1, p2, p3, p4⟩ := ih (a + 1) N1 (Sh_el q2 h) (Wat_el q2 w id id id) (by omega) (by omega)
      refine ⟨N, p1, q2.tr p2, fun i j h1 h2 h3 => ?_, fun k hk => ?_⟩
      · by_cases hi : i = a
        · subst hi
          rw [p4 _ (fun c d g1 g2 g3 => by have := pr_lt (d := d) (show i < c by omega) h3; omega), q3 j (Nat.zero_le _) h3]
        · rw [p3 i j (by omega) h2 h3, q4 _ (fun d _ g3 => by have := pr_lt (d := j) (show a < i by omega) g3; omega)]
      · rw [p4 k (fun i j h1 h2 h3 => hk i j (by omega) h2 h3), q4 k (fun j _ h3 => hk a j (Nat.le_refl _) (by omega) h3)]
/-- one tie's share of a count -/
def one (c : Nat) : Int64 := (1 : Int64) <<< (Int32.toInt64 (nI 4 * nI c) &&& 63)
def ctS (f : Nat → Bool) (g : Nat → Nat) : Nat → Int64
  | 0 => 0
  | x + 1 => if f x = true then ctS f g x + one (g x) else ctS f g x
def orS (g : Nat → Nat) (h : Nat) : Nat → Int64
  | 0 => 0
  | x + 1 => if g x / 64 = h then orS g h x ||| cbit (g x) else orS g h x
theorem count_l (hu : wwf u) (hb : base + u.1 ≤ 72) {g : Nat → Nat} {a : Nat} (ha : a < u.1) : ∀ (f x : Nat) (M : jM), Sh M → Wat M wc u → x ≤ u.1 → u.1 - x < f → (∀ y, y < u.1 → rI M 43 (base + y) = nI (g y)) → rL M 45 (4 * (base + a)) = ctS (fun y => eb u a y) g x → rL M 45 (4 * (base + a) + 1) = ctS (fun y => eb u y a) g x →
    ∃ N, l_X1_countTies_3 f 42 wc (nI base) (nI a) (nI x) M = some ((), N) ∧ El N0 M N ∧ rL N 45 (4 * (base + a)) = ctS (fun y => eb u a y) g u.1 ∧ rL N 45 (4 * (base + a) + 1) = ctS (fun y => eb u y a) g u.1 ∧ (∀ k, k ≠ 4 * (base + a) → k ≠ 4 * (base + a) + 1 → rL N 45 k = rL M 45 k) := by
  have h6 := hu.1
  intro f
  induction f with
  | zero => intro x M _ _ _ q; omega
  | succ f ih =>
    intro x M h w hx hf hg s0 s1
    show ∃ N, b_X1_countTies_3 (l_X1_countTies_3 f) 42 wc (nI base) (nI a) (nI x) M = some ((), N) ∧ _
    unfold b_X1_countTies_3
    rw [jiv_n w.1.1, w_size w, jb2_some]
    by_cases hc : u.1 ≤ x
    · obtain rfl : x = u.1 := by omega
      rw [if_pos (nI_le hc (by omega))]
      exact ⟨M, rfl, El.rf, s0, s1, fun k _ _ => rfl⟩
    · rw [if_neg (nI_ge (by omega) (by omega)), jiv_n (t42 h), nI_add, x_colourAt h (by omega), jb2_some, hg x (by omega)]
      show ∃ N, (jb2 (jiv 8 M wc (f_X9_isTied wc (nI a) (nI x) M)) fun x7 M6 => if x7 = 0 then j_X1_countTies_46 (l_X1_countTies_3 f) 42 wc (nI base) (nI a) (nI x) (one (g x)) M6 else jb2 (jiv 1 M6 42 (f_X1_add 42 (nI base + nI a) (nI 0) (one (g x)) M6)) fun _ M8 => j_X1_countTies_46 (l_X1_countTies_3 f) 42 wc (nI base) (nI a) (nI x) (one (g x)) M8) = some ((), N) ∧ _
      rw [jiv_n w.1.1, w_isTied w hu (by omega) (by omega), jb2_some, nI_add]
      have half : ∀ M1, El N0 M M1 → rL M1 45 (4 * (base + a)) = ctS (fun y => eb u a y) g (x + 1) → rL M1 45 (4 * (base + a) + 1) = ctS (fun y => eb u y a) g x → (∀ k, k ≠ 4 * (base + a) → rL M1 45 k = rL M 45 k) →
          ∃ N, j_X1_countTies_46 (l_X1_countTies_3 f) 42 wc (nI base) (nI a) (nI x) (one (g x)) M1 = some ((), N) ∧ El N0 M N ∧ rL N 45 (4 * (base + a)) = ctS (fun y => eb u a y) g u.1 ∧ rL N 45 (4 * (base + a) + 1) = ctS (fun y => eb u y a) g u.1 ∧ (∀ k, k ≠ 4 * (base + a) → k ≠ 4 * (base + a) + 1 → rL N 45 k = rL M 45 k) := by
        intro M1 e1 r0 r1 r2
        have w1 := Wat_el e1 w id id id
        have h1 := Sh_el e1 h
        unfold j_X1_countTies_46 j_X1_countTies_66
        rw [jiv_n w1.1.1, w_isTied w1 hu (by omega) (by omega), jb2_some]
        have hd : ctS (fun y => eb u y a) g (x + 1) = if eb u x a = true then ctS (fun y => eb u y a) g x + one (g x) else ctS (fun y => eb u y a) g x := rfl
        cases ht : eb u x a with
        | false =>
          rw [ht] at hd
          rw [if_pos (show bI false = 0 from rfl), nI_add]
          obtain ⟨N, p1, p2, p3, p4, p5⟩ := ih (x + 1) M1 h1 w1 (by omega) (by omega) (fun y hy => by rw [el_rI e1 id]; exact hg y hy) r0 (by rw [r1, hd, if_neg (by decide)])
          exact ⟨N, p1, e1.tr p2, p3, p4, fun k g1 g2 => by rw [p5 k g1 g2, r2 k g1]⟩
        | true =>
          rw [ht] at hd
          rw [if_neg (show ¬ bI true = 0 by decide), jiv_n (t42 h1), nI_add, x_add h1 (by omega) (by decide), jb2_some, nI_add]
          have e2 : El N0 M (wL M1 45 (4 * (base + a) + 1) (rL M1 45 (4 * (base + a) + 1) + one (g x))) := el_wL e1
          obtain ⟨N, p1, p2, p3, p4, p5⟩ := ih (x + 1) _ (Sh_el e2 h) (Wat_el e2 w id id id) (by omega) (by omega) (fun y hy => by rw [el_rI e2 id]; exact hg y hy) (by rw [rL_wL, if_neg (by omega), r0]) (by rw [rL_wL, if_pos ⟨rfl, rfl⟩, r1, hd, if_pos rfl])
          exact ⟨N, p1, e2.tr p2, p3, p4, fun k g1 g2 => by rw [p5 k g1 g2, rL_wL, if_neg (fun q => g2 q.2), r2 k g1]⟩
      have hd : ctS (fun y => eb u a y) g (x + 1) = if eb u a x = true then ctS (fun y => eb u a y) g x + one (g x) else ctS (fun y => eb u a y) g x := rfl
      cases ht : eb u a x with
      | false =>
        rw [ht] at hd
        rw [if_pos (show bI false = 0 from rfl)]
        exact half M El.rf (by rw [hd, if_neg (by decide), s0]) s1 (fun k _ => rfl)
      | true =>
        rw [ht] at hd
        rw [if_neg (show ¬ bI true = 0 by decide), jiv_n (t42 h), x_add h (by omega) (by decide), jb2_some, Nat.add_zero]
        exact half _ (el_wL El.rf) (by rw [rL_wL, if_pos ⟨rfl, rfl⟩, hd, if_pos rfl, s0]) (by rw [rL_wL, if_neg (by omega), s1]) (fun k hk => by rw [rL_wL, if_neg (fun q => hk q.2)])
theorem sign0_l (hu : wwf u) (hb : base + u.1 ≤ 72) {g : Nat → Nat} : ∀ (f a : Nat) (M : jM), Sh M → Wat M wc u → a ≤ u.1 → u.1 - a < f → (∀ y, y < u.1 → rI M 43 (base + y) = nI (g y)) → (∀ i w, a ≤ i → i < u.1 → w < 4 → rL M 45 (4 * (base + i) + w) = 0) →
    ∃ N, l_X1_sign_9 f 42 wc (nI base) (nI 0) (nI u.1) (nI a) M = some ((), N) ∧ El N0 M N ∧ (∀ i, a ≤ i → i < u.1 → rL N 45 (4 * (base + i)) = ctS (fun y => eb u i y) g u.1 ∧ rL N 45 (4 * (base + i) + 1) = ctS (fun y => eb u y i) g u.1) ∧ (∀ k, (∀ i, a ≤ i → i < u.1 → k ≠ 4 * (base + i) ∧ k ≠ 4 * (base + i) + 1) → rL N 45 k = rL M 45 k) := by
  have h6 := hu.1
  intro f
  induction f with
  | zero => intro a M _ _ _ q; omega
  | succ f ih =>
    intro a M h w ha hf hg hz
    show ∃ N, b_X1_sign_9 (l_X1_sign_9 f) 42 wc (nI base) (nI 0) (nI u.1) (nI a) M = some ((), N) ∧ _
    unfold b_X1_sign_9
    by_cases hc : u.1 ≤ a
    · rw [if_pos (nI_le hc (by omega))]
      exact ⟨M, rfl, El.rf, fun i h1 h2 => by omega, fun k _ => rfl⟩
    · rw [if_neg (nI_ge (by omega) (by omega)), if_pos (show nI 0 = 0 from rfl), jiv_n (t42 h)]
      obtain ⟨n0, hn0⟩ := jF_is
      obtain ⟨N1, q1, q2, q3, q4, q5⟩ := count_l (g := g) hu hb (show a < u.1 by omega) jF0 0 M h w (Nat.zero_le _) (by omega) hg (hz a 0 (Nat.le_refl _) (by omega) (by decide)) (hz a 1 (Nat.le_refl _) (by omega) (by decide))
      unfold f_X1_countTies
      rw [q1, jb2_some]
      unfold j_X1_sign_28
      rw [hn0]
      show ∃ N, b_X1_sign_31 (l_X1_sign_9 f) (l_X1_sign_31 (l_X1_sign_9 f) (n0 + 899999)) 42 wc (nI base) (nI 0) (nI u.1) (nI a) (nI 0) _ = some ((), N) ∧ _
      unfold b_X1_sign_31
      rw [if_pos (show nI 0 = 0 from rfl)]
      unfold j_X1_sign_59
      rw [nI_add]
      obtain ⟨N, p1, p2, p3, p4⟩ := ih (a + 1) N1 (Sh_el q2 h) (Wat_el q2 w id id id) (by omega) (by omega) (fun y hy => by rw [el_rI q2 id]; exact hg y hy) (fun i v h1 h2 h3 => by rw [q5 _ (by omega) (by omega)]; exact hz i v (by omega) h2 h3)
      refine ⟨N, p1, q2.tr p2, fun i h1 h2 => ?_, fun k hk => ?_⟩
      · by_cases hi : i = a
        · subst hi
          rw [p4 _ (fun q _ _ => by omega), p4 _ (fun q _ _ => by omega)]
          exact ⟨q3, q4⟩
        · exact p3 i (by omega) h2
      · rw [p4 k (fun q h1 h2 => hk q (by omega) h2), q5 k (hk a (Nat.le_refl _) (by omega)).1 (hk a (Nat.le_refl _) (by omega)).2]
end L3
