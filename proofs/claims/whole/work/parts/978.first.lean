/-! THE LAW: the start. -/
def w0 : Wd := (0, fun _ => 0, fun _ => 0)
def st0 : St := (fun _ => w0, (0, 0, [], 0, 0), (0, fun _ => 0), (0, 0, 0, fun _ => 0), (0, fun _ => 0), [], 0)
theorem w0_wf : wwf w0 := ⟨by decide, fun _ => by show 0 < 4; decide, fun _ => by show 0 < 2 ^ 0; decide, fun _ _ => ⟨rfl, rfl⟩⟩
theorem pu0 : PU st0 := by
  refine ⟨fun _ => w0_wf, ⟨by decide, by decide, fun h => (h rfl).elim, fun h => absurd h (by decide), fun h => absurd h (by decide)⟩, fun h => (h rfl).elim, by decide, ⟨by decide, by decide, by decide, fun e h => absurd h (Nat.not_lt_zero _)⟩, ⟨by decide, fun k h => absurd h (Nat.not_lt_zero _)⟩, ⟨by decide, fun i h => absurd h (Nat.not_lt_zero _)⟩⟩
theorem jsl_0 {L : Nat} {xs : Nat → Int32} {M : jM} (h : IN L xs 103 W12 M) : jsl M ≤ 100000 := by
  unfold jsl
  rw [h.1, List.map_cons, List.sum_cons]
  have e : jsz (105, L) = 0 := rfl
  have : (((tgs.drop 1).take 103).map jsz).sum ≤ 100000 := by decide +kernel
  omega
theorem inv_0 {L : Nat} {xs : Nat → Int32} {M : jM} (h : IN L xs 103 W12 M) (h51 : rI M 65 51 = -1) : INV L xs st0 M := by
  have hS := in_Sh h
  have z : ∀ c i, 1 ≤ c → ¬ (c = 29 ∧ i = 3) → ¬ (c = 65 ∧ i = 51) → rI M c i = nI 0 := fun c i h1 h2 h3 => h.2.2.1 c i h1 h2 h3
  refine ⟨pu0, ⟨hS, by unfold tg; rw [h.1]; rfl, h.2.2.2⟩, ⟨⟨z _ _ (by omega) (by omega) (by omega), by rw [in_len h (by decide)]; rfl, fun i hi => absurd hi (Nat.not_lt_zero _)⟩, by have := jsl_0 h; show jsl M ≤ 100000 + 2000 * 0; omega⟩, ⟨fun w hw => ⟨iw hS hw, z _ _ (by omega) (by omega) (by omega), fun k hk => z _ _ (by omega) (by omega) (by omega), fun k hk => z _ _ (by omega) (by omega) (by omega)⟩, ⟨z _ _ (by omega) (by omega) (by omega), z _ _ (by omega) (by omega) (by omega), fun h => (h rfl).elim, fun h => absurd h (by decide)⟩, ⟨z _ _ (by omega) (by omega) (by omega), fun i hi => absurd hi (Nat.not_lt_zero _)⟩, ⟨z _ _ (by omega) (by omega) (by omega), z _ _ (by omega) (by omega) (by omega), z _ _ (by omega) (by omega) (by omega), fun i hi => absurd hi (Nat.not_lt_zero _)⟩, ⟨z _ _ (by omega) (by omega) (by omega), fun i hi => absurd hi (Nat.not_lt_zero _)⟩, z _ _ (by omega) (by omega) (by omega)⟩, ⟨fun w hw => ⟨z _ _ (by omega) (by omega) (by omega), fun k hk => z _ _ (by omega) (by omega) (by omega), fun k hk => z _ _ (by omega) (by omega) (by omega)⟩, ⟨z _ _ (by omega) (by omega) (by omega), z _ _ (by omega) (by omega) (by omega), fun h => (h rfl).elim, fun h => absurd h (by decide)⟩, ⟨z _ _ (by omega) (by omega) (by omega), fun i hi => absurd hi (Nat.not_lt_zero _)⟩, ⟨z _ _ (by omega) (by omega) (by omega), fun _ => h51, fun h => (h rfl).elim, fun i hi => absurd hi (Nat.not_lt_zero _)⟩, ⟨z _ _ (by omega) (by omega) (by omega), fun i hi => absurd hi (Nat.not_lt_zero _)⟩, ⟨z _ _ (by omega) (by omega) (by omega), fun i hi => absurd hi (Nat.not_lt_zero _)⟩, z _ _ (by omega) (by omega) (by omega)⟩⟩
theorem law_all (L : Nat) (xs : Nat → Int32) (hL : L ≤ 3072) : ∃ Mz, f_L_law 0 (jM0 L xs) = some (1, Mz) ∧ Mz.1.length ≤ 600001 ∧ jsl Mz ≤ 7302250 := by
  obtain ⟨n0, hn0⟩ := jF_is
  obtain ⟨A, a1, a2⟩ := in_nO (ci := 10) (in_0 (L := L) (xs := xs)) (by decide) (by decide)
  obtain ⟨B, b1, b2⟩ := i_X11 a2
  obtain ⟨C, c1, c2⟩ := in_nO (ci := 11) b2 (by decide) (by decide)
  obtain ⟨D, d1, d2, d3⟩ := i_X12 c2
  unfold f_L_law
  rw [show nO 10 (jM0 L xs) = some (1, A) from a1, jb2_some, b1, jb2_some, show nO 11 B = some (65, C) from c1, jb2_some, d1, jb2_some]
  exact law_loop hL jF0 0 D st0 (inv_0 d2 d3) (by decide) (by omega)
