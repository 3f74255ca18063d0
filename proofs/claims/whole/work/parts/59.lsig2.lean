/-! COLOURS: what the class writes into its signatures, for pairs; settling. -/
def sg1 (n : Nat) (g : Nat → Nat) (a b w x : Nat) : Int64 := orS (fun y => if w < 2 then g (y * n + b) else g (a * n + y)) (w % 2) x
section L4
variable {u : Wd} {wc base : Nat}
theorem gather_l (hb : base + u.1 * u.1 ≤ 72) {g : Nat → Nat} (hg7 : ∀ p, p < u.1 * u.1 → g p < 72) {a b : Nat} (ha : a < u.1) (hb2 : b < u.1) (h6 : u.1 ≤ 6) : ∀ (f x : Nat) (M : jM), Sh M → x ≤ u.1 → u.1 - x < f → (∀ p, p < u.1 * u.1 → rI M 43 (base + p) = nI (g p)) → (∀ w, w < 4 → rL M 45 (4 * (base + (a * u.1 + b)) + w) = sg1 u.1 g a b w x) →
    ∃ N, l_X1_gatherColours_13 f 42 (nI base) (nI u.1) (nI a) (nI b) (nI (base + (a * u.1 + b))) (nI x) M = some ((), N) ∧ El N0 M N ∧ (∀ w, w < 4 → rL N 45 (4 * (base + (a * u.1 + b)) + w) = sg1 u.1 g a b w u.1) ∧ (∀ k, (∀ w, w < 4 → k ≠ 4 * (base + (a * u.1 + b)) + w) → rL N 45 k = rL M 45 k) := by
  intro f
  induction f with
  | zero => intro x M _ _ q; omega
  | succ f ih =>
    intro x M h hx hf hg hs
    show ∃ N, b_X1_gatherColours_13 (l_X1_gatherColours_13 f) 42 (nI base) (nI u.1) (nI a) (nI b) (nI (base + (a * u.1 + b))) (nI x) M = some ((), N) ∧ _
    unfold b_X1_gatherColours_13
    by_cases hc : u.1 ≤ x
    · obtain rfl : x = u.1 := by omega
      rw [if_pos (nI_le hc (by omega))]
      exact ⟨M, rfl, El.rf, hs, fun k _ => rfl⟩
    · have s1 := pr_sq (show x < u.1 by omega) hb2
      have s2 := pr_sq ha (show x < u.1 by omega)
      have s3 := pr_sq ha hb2
      have g1 := hg7 _ s1
      have g2 := hg7 _ s2
      rw [if_neg (nI_ge (by omega) (by omega)), jiv_n (t42 h), nm_mul, nI_add, nI_add, Nat.add_assoc, x_colourAt h (by omega), jb2_some, hg _ s1, jiv_n (t42 h), x_put h (by omega) (by decide) g1, jb2_some]
      generalize hM1 : wL M 45 (4 * (base + (a * u.1 + b)) + (0 + g (x * u.1 + b) / 64)) (rL M 45 (4 * (base + (a * u.1 + b)) + (0 + g (x * u.1 + b) / 64)) ||| cbit (g (x * u.1 + b))) = M1
      have e1 : El N0 M M1 := by rw [← hM1]; exact el_wL El.rf
      have h1 := Sh_el e1 h
      rw [jiv_n (t42 h1), nm_mul, nI_add, nI_add, Nat.add_assoc, x_colourAt h1 (by omega), jb2_some, el_rI e1 id, hg _ s2, jiv_n (t42 h1), x_put h1 (by omega) (by decide) g2, jb2_some, nI_add]
      generalize hM2 : wL M1 45 (4 * (base + (a * u.1 + b)) + (2 + g (a * u.1 + x) / 64)) (rL M1 45 (4 * (base + (a * u.1 + b)) + (2 + g (a * u.1 + x) / 64)) ||| cbit (g (a * u.1 + x))) = M2
      have e2 : El N0 M M2 := by rw [← hM2]; exact el_wL e1
      have hk : ∀ k, (∀ w, w < 4 → k ≠ 4 * (base + (a * u.1 + b)) + w) → rL M2 45 k = rL M 45 k := fun k hk => by
        have c1 := hk (0 + g (x * u.1 + b) / 64) (by omega)
        have c2 := hk (2 + g (a * u.1 + x) / 64) (by omega)
        rw [← hM2, rL_wL, if_neg (fun q => c2 q.2), ← hM1, rL_wL, if_neg (fun q => c1 q.2)]
      obtain ⟨N, p1, p2, p3, p4⟩ := ih (x + 1) M2 (Sh_el e2 h) (by omega) (by omega) (fun p hp => by rw [el_rI e2 id]; exact hg p hp) (fun w hw => by
        have ho := hs w hw
        have hd : sg1 u.1 g a b w (x + 1) = if (if w < 2 then g (x * u.1 + b) else g (a * u.1 + x)) / 64 = w % 2 then sg1 u.1 g a b w x ||| cbit (if w < 2 then g (x * u.1 + b) else g (a * u.1 + x)) else sg1 u.1 g a b w x := rfl
        by_cases hw2 : w < 2
        · rw [if_pos hw2] at hd
          rw [← hM2, rL_wL, if_neg (by omega), ← hM1, rL_wL, hd]
          by_cases hq : g (x * u.1 + b) / 64 = w % 2
          · have hqw : 0 + g (x * u.1 + b) / 64 = w := by omega
            rw [if_pos hq, hqw, if_pos ⟨rfl, rfl⟩, ho]
          · rw [if_neg hq, if_neg (by omega), ho]
        · rw [if_neg hw2] at hd
          have r1 : rL M1 45 (4 * (base + (a * u.1 + b)) + w) = sg1 u.1 g a b w x := by rw [← hM1, rL_wL, if_neg (by omega), ho]
          rw [← hM2, rL_wL, hd]
          by_cases hq : g (a * u.1 + x) / 64 = w % 2
          · have hqw : 2 + g (a * u.1 + x) / 64 = w := by omega
            rw [if_pos hq, hqw, if_pos ⟨rfl, rfl⟩, r1]
          · rw [if_neg hq, if_neg (by omega), r1])
      exact ⟨N, p1, e2.tr p2, p3, fun k hkk => by rw [p4 k hkk, hk k hkk]⟩
theorem sign1_i (hu : wwf u) (hb : base + u.1 * u.1 ≤ 72) {g : Nat → Nat} (hg7 : ∀ p, p < u.1 * u.1 → g p < 72) {k9 : Nat → Nat → Int32 → Int32 → Int32 → Int32 → jM → jO Unit} {a : Nat} (ha : a < u.1) : ∀ (f c : Nat) (M : jM), Sh M → c ≤ u.1 → u.1 - c < f → (∀ p, p < u.1 * u.1 → rI M 43 (base + p) = nI (g p)) → (∀ j w, c ≤ j → j < u.1 → w < 4 → rL M 45 (4 * (base + (a * u.1 + j)) + w) = 0) →
    ∃ N, l_X1_sign_31 k9 f 42 wc (nI base) (nI 1) (nI u.1) (nI a) (nI c) M = k9 42 wc (nI base) (nI 1) (nI u.1) (nI (a + 1)) N ∧ El N0 M N ∧ (∀ j w, c ≤ j → j < u.1 → w < 4 → rL N 45 (4 * (base + (a * u.1 + j)) + w) = sg1 u.1 g a j w u.1) ∧ (∀ k, (∀ j w, c ≤ j → j < u.1 → w < 4 → k ≠ 4 * (base + (a * u.1 + j)) + w) → rL N 45 k = rL M 45 k) := by
  have h6 := hu.1
  intro f
  induction f with
  | zero => intro c M _ _ q; omega
  | succ f ih =>
    intro c M h hc hf hg hz
    show ∃ N, b_X1_sign_31 k9 (l_X1_sign_31 k9 f) 42 wc (nI base) (nI 1) (nI u.1) (nI a) (nI c) M = _ ∧ _
    unfold b_X1_sign_31 j_X1_sign_59
    rw [if_neg (show ¬ nI 1 = 0 by decide)]
    by_cases hcc : u.1 ≤ c
    · rw [if_pos (nI_le hcc (by omega)), nI_add]
      exact ⟨M, rfl, El.rf, fun i w h1 h2 => by omega, fun k _ => rfl⟩
    · rw [if_neg (nI_ge (by omega) (by omega)), jiv_n (t42 h)]
      unfold f_X1_gatherColours
      rw [nm_mul, nI_add, nI_add, Nat.add_assoc]
      obtain ⟨n0, hn0⟩ := jF_is
      obtain ⟨N1, q1, q2, q3, q4⟩ := gather_l (g := g) hb hg7 ha (show c < u.1 by omega) h6 jF0 0 M h (Nat.zero_le _) (by omega) hg (fun w hw => hz c w (Nat.le_refl _) (by omega) hw)
      show ∃ N, (jb2 (l_X1_gatherColours_13 jF0 42 (nI base) (nI u.1) (nI a) (nI c) (nI (base + (a * u.1 + c))) (nI 0) M) fun _ M1 => l_X1_sign_31 k9 f 42 wc (nI base) (nI 1) (nI u.1) (nI a) (nI c + nI 1) M1) = _ ∧ _
      rw [q1, jb2_some, nI_add]
      obtain ⟨N, p1, p2, p3, p4⟩ := ih (c + 1) N1 (Sh_el q2 h) (by omega) (by omega) (fun p hp => by rw [el_rI q2 id]; exact hg p hp) (fun j w h1 h2 h3 => by rw [q4 _ (fun v hv => by omega)]; exact hz j w (by omega) h2 h3)
      refine ⟨N, p1, q2.tr p2, fun j w h1 h2 h3 => ?_, fun k hk => ?_⟩
      · by_cases hi : j = c
        · subst hi
          rw [p4 _ (fun q v _ _ _ => by omega)]
          exact q3 w h3
        · exact p3 j w (by omega) h2 h3
      · rw [p4 k (fun q v h1 h2 h3 => hk q v (by omega) h2 h3), q4 k (fun v hv => hk c v (Nat.le_refl _) (by omega) hv)]
theorem sign1_l (hu : wwf u) (hb : base + u.1 * u.1 ≤ 72) {g : Nat → Nat} (hg7 : ∀ p, p < u.1 * u.1 → g p < 72) : ∀ (f a : Nat) (M : jM), Sh M → a ≤ u.1 → u.1 - a < f → (∀ p, p < u.1 * u.1 → rI M 43 (base + p) = nI (g p)) → (∀ i j w, a ≤ i → i < u.1 → j < u.1 → w < 4 → rL M 45 (4 * (base + (i * u.1 + j)) + w) = 0) →
    ∃ N, l_X1_sign_9 f 42 wc (nI base) (nI 1) (nI u.1) (nI a) M = some ((), N) ∧ El N0 M N ∧ (∀ i j w, a ≤ i → i < u.1 → j < u.1 → w < 4 → rL N 45 (4 * (base + (i * u.1 + j)) + w) = sg1 u.1 g i j w u.1) ∧ (∀ k, (∀ i j w, a ≤ i → i < u.1 → j < u.1 → w < 4 → k ≠ 4 * (base + (i * u.1 + j)) + w) → rL N 45 k = rL M 45 k) := by
  have h6 := hu.1
  intro f
  induction f with
  | zero => intro a M _ _ q; omega
  | succ f ih =>
    intro a M h ha hf hg hz
    show ∃ N, b_X1_sign_9 (l_X1_sign_9 f) 42 wc (nI base) (nI 1) (nI u.1) (nI a) M = some ((), N) ∧ _
    unfold b_X1_sign_9
    by_cases hc : u.1 ≤ a
    · rw [if_pos (nI_le hc (by omega))]
      exact ⟨M, rfl, El.rf, fun i j w h1 h2 => by omega, fun k _ => rfl⟩
    · rw [if_neg (nI_ge (by omega) (by omega)), if_neg (show ¬ nI 1 = 0 by decide)]
      unfold j_X1_sign_28
      obtain ⟨n0, hn0⟩ := jF_is
      obtain ⟨N1, q1, q2, q3, q4⟩ := sign1_i (wc := wc) (k9 := l_X1_sign_9 f) hu hb hg7 (show a < u.1 by omega) jF0 0 M h (Nat.zero_le _) (by omega) hg (fun j w _ h2 h3 => hz a j w (Nat.le_refl _) (by omega) h2 h3)
      rw [q1]
      obtain ⟨N, p1, p2, p3, p4⟩ := ih (a + 1) N1 (Sh_el q2 h) (by omega) (by omega) (fun p hp => by rw [el_rI q2 id]; exact hg p hp) (fun i j w h1 h2 h3 h4 => by rw [q4 _ (fun d v _ g3 g4 => by have := pr_lt (d := j) (show a < i by omega) g3; omega)]; exact hz i j w (by omega) h2 h3 h4)
      refine ⟨N, p1, q2.tr p2, fun i j w h1 h2 h3 h4 => ?_, fun k hk => ?_⟩
      · by_cases hi : i = a
        · subst hi
          rw [p4 _ (fun c d v g1 g2 g3 g4 => by have := pr_lt (d := d) (show i < c by omega) h3; omega)]
          exact q3 j w (Nat.zero_le _) h3 h4
        · exact p3 i j w (by omega) h2 h3 h4
      · rw [p4 k (fun i j w h1 h2 h3 h4 => hk i j w (by omega) h2 h3 h4), q4 k (fun j w _ h3 h4 => hk a j w (Nat.le_refl _) (by omega) h3 h4)]
end L4
/-- how many items a world gives -/
def csz (b : Bool) (n : Nat) : Nat := if b = true then n * n else n
/-- an item's signature at the start, and later by the colours g of its world's items -/
def sgA (b : Bool) (u : Wd) (p : Nat) : Int64 := if b = true then (nI (lcd u (p / u.1) (p % u.1))).toInt64 else (nI (lk u p)).toInt64
def sgN (b : Bool) (u : Wd) (g : Nat → Nat) (p w : Nat) : Int64 := if b = true then sg1 u.1 g (p / u.1) (p % u.1) w u.1 else if w = 0 then ctS (fun y => eb u p y) g u.1 else if w = 1 then ctS (fun y => eb u y p) g u.1 else 0
theorem dv_mod {n p : Nat} (h : p < n * n) : p / n < n ∧ p % n < n ∧ p / n * n + p % n = p := by
  have hn : 0 < n := by
    rcases Nat.eq_zero_or_pos n with rfl | q
    · omega
    · exact q
  exact ⟨Nat.div_lt_of_lt_mul h, Nat.mod_lt _ hn, Nat.div_add_mod' p n⟩
theorem md_dv {n i j : Nat} (hj : j < n) : (i * n + j) / n = i ∧ (i * n + j) % n = j := by
  constructor
  · rw [Nat.mul_comm, Nat.mul_add_div (by omega), Nat.div_eq_of_lt hj, Nat.add_zero]
  · rw [Nat.mul_comm, Nat.mul_add_mod, Nat.mod_eq_of_lt hj]
section L5
variable {M : jM} {u : Wd} {wc base : Nat} {b : Bool}
theorem x_lookAt (h : Sh M) (w : Wat M wc u) (hu : wwf u) (hb : base + csz b u.1 ≤ 72) : ∃ N, f_X1_lookAt 42 wc (nI base) (bI b) M = some ((), N) ∧ El N0 M N ∧ (∀ p, p < csz b u.1 → rL N 45 (4 * (base + p)) = rL M 45 (4 * (base + p)) + sgA b u p) ∧ (∀ k, (∀ p, p < csz b u.1 → k ≠ 4 * (base + p)) → rL N 45 k = rL M 45 k) := by
  have h6 := hu.1
  unfold f_X1_lookAt
  rw [jiv_n w.1.1, w_size w, jb2_some]
  obtain ⟨n0, hn0⟩ := jF_is
  cases b with
  | false =>
    obtain ⟨N, p1, p2, p3, p4⟩ := look0_l (base := base) hu hb jF0 0 M h w (Nat.zero_le _) (by omega)
    exact ⟨N, p1, p2, fun p hp => p3 p (Nat.zero_le _) hp, fun k hk => p4 k (fun i _ hi => hk i hi)⟩
  | true =>
    obtain ⟨N, p1, p2, p3, p4⟩ := look1_l (base := base) hu hb jF0 0 M h w (Nat.zero_le _) (by omega)
    refine ⟨N, p1, p2, fun p hp => ?_, fun k hk => p4 k (fun i j _ hi hj => hk _ (pr_sq hi hj))⟩
    obtain ⟨d1, d2, d3⟩ := dv_mod (show p < u.1 * u.1 from hp)
    have := p3 (p / u.1) (p % u.1) (Nat.zero_le _) d1 d2
    rw [d3] at this
    exact this
theorem x_sign (h : Sh M) (w : Wat M wc u) (hu : wwf u) (hb : base + csz b u.1 ≤ 72) {g : Nat → Nat} (hg7 : ∀ p, p < csz b u.1 → g p < 72) (hg : ∀ p, p < csz b u.1 → rI M 43 (base + p) = nI (g p)) (hz : ∀ p v, p < csz b u.1 → v < 4 → rL M 45 (4 * (base + p) + v) = 0) : ∃ N, f_X1_sign 42 wc (nI base) (bI b) M = some ((), N) ∧ El N0 M N ∧ (∀ p v, p < csz b u.1 → v < 4 → rL N 45 (4 * (base + p) + v) = sgN b u g p v) ∧ (∀ k, (∀ p v, p < csz b u.1 → v < 4 → k ≠ 4 * (base + p) + v) → rL N 45 k = rL M 45 k) := by
  have h6 := hu.1
  unfold f_X1_sign
  rw [jiv_n w.1.1, w_size w, jb2_some]
  obtain ⟨n0, hn0⟩ := jF_is
  cases b with
  | false =>
    obtain ⟨N, p1, p2, p3, p4⟩ := sign0_l (base := base) (g := g) hu hb jF0 0 M h w (Nat.zero_le _) (by omega) hg (fun i v _ hi hv => hz i v hi hv)
    refine ⟨N, p1, p2, fun p v hp hv => ?_, fun k hk => p4 k (fun i _ hi => ⟨hk i 0 hi (by decide), hk i 1 hi (by decide)⟩)⟩
    show _ = if v = 0 then ctS (fun y => eb u p y) g u.1 else if v = 1 then ctS (fun y => eb u y p) g u.1 else 0
    by_cases v0 : v = 0
    · subst v0; rw [if_pos rfl]; exact (p3 p (Nat.zero_le _) hp).1
    · by_cases v1 : v = 1
      · subst v1; rw [if_neg v0, if_pos rfl]; exact (p3 p (Nat.zero_le _) hp).2
      · rw [if_neg v0, if_neg v1, p4 _ (fun i _ hi => ⟨by omega, by omega⟩)]
        exact hz p v hp hv
  | true =>
    obtain ⟨N, p1, p2, p3, p4⟩ := sign1_l (wc := wc) (base := base) hu hb hg7 jF0 0 M h (Nat.zero_le _) (by omega) hg (fun i j v _ hi hj hv => hz _ v (pr_sq hi hj) hv)
    refine ⟨N, p1, p2, fun p v hp hv => ?_, fun k hk => p4 k (fun i j v _ hi hj hv => hk _ v (pr_sq hi hj) hv)⟩
    obtain ⟨d1, d2, d3⟩ := dv_mod (show p < u.1 * u.1 from hp)
    have := p3 (p / u.1) (p % u.1) v (Nat.zero_le _) d1 d2 hv
    rw [d3] at this
    exact this
end L5
