/-! THE LAW: the loop. -/
section LAW
variable {L : Nat} {xs : Nat → Int32}
theorem rdS {M : jM} (b : B0 L xs M) (hL : L ≤ 3072) {i j : Nat} (h : i + j < L) : ldS M 0 (nI i + nI j) = some (xs (i + j)) := by
  rw [nI_add, ldS_n b.2.1 h (by omega), b.2.2]
/-- the loop behind a call -/
def Nxt (L : Nat) (xs : Nat → Int32) (k : Nat → Nat → Nat → Int32 → jM → jO Int32) (i : Nat) : Prop := ∀ (M : jM) (σ : St), INV L xs σ M → ∃ Mz, k 0 1 65 (nI (i + 6)) M = some (1, Mz) ∧ Mz.1.length ≤ 600001 ∧ jsl Mz ≤ 7302250
theorem law_end {σ : St} {M : jM} (I : INV L xs σ M) : ∃ Mz, rZ (nI 1) M = some (1, Mz) ∧ Mz.1.length ≤ 600001 ∧ jsl Mz ≤ 7302250 := by
  obtain ⟨pu, b0, ⟨sx, js⟩, -⟩ := I
  have := pu.2.2.2.2.2.2.1
  refine ⟨M, rfl, by rw [sx.2.1]; omega, by omega⟩
theorem law_def {σ : St} {M : jM} {i : Nat} {k : Nat → Nat → Nat → Int32 → jM → jO Int32} (nx : Nxt L xs k i) (I : INV L xs σ M) : ∃ Mz, j_L_law_1180 k 0 1 65 (nI i) M = some (1, Mz) ∧ Mz.1.length ≤ 600001 ∧ jsl Mz ≤ 7302250 := by
  unfold j_L_law_1180
  rw [nI_add]
  exact nx M σ I
theorem law_step (hL : L ≤ 3072) {i : Nat} (hi : i + 6 ≤ L) {σ : St} {M : jM} (I : INV L xs σ M) {k : Nat → Nat → Nat → Int32 → jM → jO Int32} (nx : Nxt L xs k i) : ∃ Mz, b_L_law_18 k 0 1 65 (nI i) M = some (1, Mz) ∧ Mz.1.length ≤ 600001 ∧ jsl Mz ≤ 7302250 := by
  have b0 : B0 L xs M := I.2.1
  have hS := b0.1
  have r : ∀ {N : jM}, B0 L xs N → ∀ j, j ≤ 5 → ldS N 0 (nI i + nI j) = some (xs (i + j)) := fun b j hj => rdS b hL (by omega)
  unfold b_L_law_18
  have h0 : lnS M 0 = some (nI L) := by unfold lnS; rw [if_pos ⟨rfl, by rw [b0.2.1]⟩, b0.2.1]
  rw [h0, Option.bind_some, pk_sub (by omega), if_neg (nI_nlt (by omega) (by omega)), ldS_n b0.2.1 (show i < L by omega) (by omega), Option.bind_some, b0.2.2]
  by_cases c0 : xs i &&& nI 31 = nI 0
  · rw [if_pos c0]
    obtain ⟨a, N, O, σ', h1, h2, b, I'⟩ := st_world (xs (i + 1)) (xs (i + 2)) I
    dsimp only at h1 h2
    rw [r b0 1 (by decide), Option.bind_some, r b0 2 (by decide), Option.bind_some, jiv_n (t1 hS), h1, jb2_some, r b 1 (by decide), Option.bind_some, r b 2 (by decide), Option.bind_some, jiv_n (t65 b.1), h2, jb2_some, if_pos rfl]
    exact law_def nx I'
  rw [if_neg c0]
  by_cases c1 : xs i &&& nI 31 = nI 1
  · rw [if_pos c1]
    rw [r b0 1 (by decide), Option.bind_some, r b0 2 (by decide), Option.bind_some, r b0 3 (by decide), Option.bind_some, r b0 4 (by decide), Option.bind_some]
    unfold j_L_law_230 j_L_law_262
    by_cases z4 : xs (i + 4) = 0
    · obtain ⟨a, N, O, σ', h1, h2, b, I'⟩ := st_mark (xs (i + 1)) (xs (i + 2)) (xs (i + 3)) (nI 0) I
      dsimp only at h1 h2
      rw [if_pos z4, jiv_n (t1 hS), h1, jb2_some, r b 1 (by decide), Option.bind_some, r b 2 (by decide), Option.bind_some, r b 3 (by decide), Option.bind_some, r b 4 (by decide), Option.bind_some, if_pos z4, jiv_n (t65 b.1), h2, jb2_some, if_pos rfl]
      exact law_def nx I'
    · obtain ⟨a, N, O, σ', h1, h2, b, I'⟩ := st_mark (xs (i + 1)) (xs (i + 2)) (xs (i + 3)) (nI 1) I
      dsimp only at h1 h2
      rw [if_neg z4, jiv_n (t1 hS), h1, jb2_some, r b 1 (by decide), Option.bind_some, r b 2 (by decide), Option.bind_some, r b 3 (by decide), Option.bind_some, r b 4 (by decide), Option.bind_some, if_neg z4, jiv_n (t65 b.1), h2, jb2_some, if_pos rfl]
      exact law_def nx I'
  rw [if_neg c1]
  by_cases c2 : xs i &&& nI 31 = nI 2
  · rw [if_pos c2]
    rw [r b0 1 (by decide), Option.bind_some, r b0 2 (by decide), Option.bind_some, r b0 3 (by decide), Option.bind_some, r b0 4 (by decide), Option.bind_some]
    unfold j_L_law_299 j_L_law_331
    by_cases z4 : xs (i + 4) = 0
    · obtain ⟨a, N, O, σ', h1, h2, b, I'⟩ := st_tie (xs (i + 1)) (xs (i + 2)) (xs (i + 3)) (nI 0) I
      dsimp only at h1 h2
      rw [if_pos z4, jiv_n (t1 hS), h1, jb2_some, r b 1 (by decide), Option.bind_some, r b 2 (by decide), Option.bind_some, r b 3 (by decide), Option.bind_some, r b 4 (by decide), Option.bind_some, if_pos z4, jiv_n (t65 b.1), h2, jb2_some, if_pos rfl]
      exact law_def nx I'
    · obtain ⟨a, N, O, σ', h1, h2, b, I'⟩ := st_tie (xs (i + 1)) (xs (i + 2)) (xs (i + 3)) (nI 1) I
      dsimp only at h1 h2
      rw [if_neg z4, jiv_n (t1 hS), h1, jb2_some, r b 1 (by decide), Option.bind_some, r b 2 (by decide), Option.bind_some, r b 3 (by decide), Option.bind_some, r b 4 (by decide), Option.bind_some, if_neg z4, jiv_n (t65 b.1), h2, jb2_some, if_pos rfl]
      exact law_def nx I'
  rw [if_neg c2]
  by_cases c3 : xs i &&& nI 31 = nI 3
  · rw [if_pos c3]
    obtain ⟨a, N, O, σ', h1, h2, b, I'⟩ := st_turn (xs (i + 1)) (xs (i + 2)) (xs (i + 3)) (xs (i + 4)) I
    dsimp only at h1 h2
    rw [r b0 1 (by decide), Option.bind_some, r b0 2 (by decide), Option.bind_some, r b0 3 (by decide), Option.bind_some, r b0 4 (by decide), Option.bind_some, jiv_n (t1 hS), h1, jb2_some, r b 1 (by decide), Option.bind_some, r b 2 (by decide), Option.bind_some, r b 3 (by decide), Option.bind_some, r b 4 (by decide), Option.bind_some, jiv_n (t65 b.1), h2, jb2_some, if_pos rfl]
    exact law_def nx I'
  rw [if_neg c3]
  by_cases c4 : xs i &&& nI 31 = nI 4
  · rw [if_pos c4]
    obtain ⟨a, N, O, σ', h1, h2, b, I'⟩ := st_join (xs (i + 1)) (xs (i + 2)) (xs (i + 3)) I
    dsimp only at h1 h2
    rw [r b0 1 (by decide), Option.bind_some, r b0 2 (by decide), Option.bind_some, r b0 3 (by decide), Option.bind_some, jiv_n (t1 hS), h1, jb2_some, r b 1 (by decide), Option.bind_some, r b 2 (by decide), Option.bind_some, r b 3 (by decide), Option.bind_some, jiv_n (t65 b.1), h2, jb2_some, if_pos rfl]
    exact law_def nx I'
  rw [if_neg c4]
  by_cases c5 : xs i &&& nI 31 = nI 5
  · rw [if_pos c5]
    obtain ⟨a, N, O, σ', h1, h2, b, I'⟩ := st_about (xs (i + 1)) (xs (i + 2)) I
    dsimp only at h1 h2
    rw [r b0 1 (by decide), Option.bind_some, r b0 2 (by decide), Option.bind_some, jiv_n (t1 hS), h1, jb2_some, r b 1 (by decide), Option.bind_some, r b 2 (by decide), Option.bind_some, jiv_n (t65 b.1), h2, jb2_some, if_pos rfl]
    exact law_def nx I'
  rw [if_neg c5]
  by_cases c6 : xs i &&& nI 31 = nI 6
  · rw [if_pos c6]
    obtain ⟨a, N, O, σ', h1, h2, b, I'⟩ := st_tied (xs (i + 1)) (xs (i + 2)) (xs (i + 3)) I
    dsimp only at h1 h2
    rw [r b0 1 (by decide), Option.bind_some, r b0 2 (by decide), Option.bind_some, r b0 3 (by decide), Option.bind_some, jiv_n (t1 hS), h1, jb2_some, r b 1 (by decide), Option.bind_some, r b 2 (by decide), Option.bind_some, r b 3 (by decide), Option.bind_some, jiv_n (t65 b.1), h2, jb2_some, if_pos rfl]
    exact law_def nx I'
  rw [if_neg c6]
  by_cases c7 : xs i &&& nI 31 = nI 7
  · rw [if_pos c7]
    obtain ⟨a, N, O, σ', h1, h2, b, I'⟩ := st_game (xs (i + 1)) (xs (i + 2)) (xs (i + 3)) I
    dsimp only at h1 h2
    rw [r b0 1 (by decide), Option.bind_some, r b0 2 (by decide), Option.bind_some, r b0 3 (by decide), Option.bind_some, jiv_n (t1 hS), h1, jb2_some, r b 1 (by decide), Option.bind_some, r b 2 (by decide), Option.bind_some, r b 3 (by decide), Option.bind_some, jiv_n (t65 b.1), h2, jb2_some, if_pos rfl]
    exact law_def nx I'
  rw [if_neg c7]
  by_cases c8 : xs i &&& nI 31 = nI 8
  · rw [if_pos c8]
    obtain ⟨a, N, O, σ', h1, h2, b, I'⟩ := st_rank (xs (i + 1)) (xs (i + 2)) I
    dsimp only at h1 h2
    rw [r b0 1 (by decide), Option.bind_some, r b0 2 (by decide), Option.bind_some, jiv_n (t1 hS), h1, jb2_some, r b 1 (by decide), Option.bind_some, r b 2 (by decide), Option.bind_some, jiv_n (t65 b.1), h2, jb2_some, if_pos rfl]
    exact law_def nx I'
  rw [if_neg c8]
  by_cases c9 : xs i &&& nI 31 = nI 9
  · rw [if_pos c9]
    obtain ⟨a, N, O, σ', h1, h2, b, I'⟩ := st_play (xs (i + 1)) (xs (i + 2)) (xs (i + 3)) I
    dsimp only at h1 h2
    rw [r b0 1 (by decide), Option.bind_some, r b0 2 (by decide), Option.bind_some, r b0 3 (by decide), Option.bind_some, jiv_n (t1 hS), h1, jb2_some, r b 1 (by decide), Option.bind_some, r b 2 (by decide), Option.bind_some, r b 3 (by decide), Option.bind_some, jiv_n (t65 b.1), h2, jb2_some, if_pos rfl]
    exact law_def nx I'
  rw [if_neg c9]
  by_cases c10 : xs i &&& nI 31 = nI 10
  · rw [if_pos c10]
    obtain ⟨a, N, O, σ', h1, h2, b, I'⟩ := st_pick (xs (i + 1)) (xs (i + 2)) I
    dsimp only at h1 h2
    rw [r b0 1 (by decide), Option.bind_some, r b0 2 (by decide), Option.bind_some, jiv_n (t1 hS), h1, jb2_some, r b 1 (by decide), Option.bind_some, r b 2 (by decide), Option.bind_some, jiv_n (t65 b.1), h2, jb2_some, if_pos rfl]
    exact law_def nx I'
  rw [if_neg c10]
  by_cases c11 : xs i &&& nI 31 = nI 11
  · rw [if_pos c11]
    obtain ⟨a, N, O, σ', h1, h2, b, I'⟩ := st_answer (xs (i + 1)) I
    dsimp only at h1 h2
    rw [r b0 1 (by decide), Option.bind_some, jiv_n (t1 hS), h1, jb2_some, r b 1 (by decide), Option.bind_some, jiv_n (t65 b.1), h2, jb2_some, if_pos rfl]
    exact law_def nx I'
  rw [if_neg c11]
  by_cases c12 : xs i &&& nI 31 = nI 12
  · rw [if_pos c12]
    obtain ⟨a, N, O, σ', h1, h2, b, I'⟩ := st_best  I
    dsimp only at h1 h2
    rw [jiv_n (t1 hS), h1, jb2_some, jiv_n (t65 b.1), h2, jb2_some, if_pos rfl]
    exact law_def nx I'
  rw [if_neg c12]
  by_cases c13 : xs i &&& nI 31 = nI 13
  · rw [if_pos c13]
    obtain ⟨a, N, O, σ', h1, h2, b, I'⟩ := st_state  I
    dsimp only at h1 h2
    rw [jiv_n (t1 hS), h1, jb2_some, jiv_n (t65 b.1), h2, jb2_some, if_pos rfl]
    exact law_def nx I'
  rw [if_neg c13]
  by_cases c14 : xs i &&& nI 31 = nI 14
  · rw [if_pos c14]
    obtain ⟨a, N, O, σ', h1, h2, b, I'⟩ := st_left  I
    dsimp only at h1 h2
    rw [jiv_n (t1 hS), h1, jb2_some, jiv_n (t65 b.1), h2, jb2_some, if_pos rfl]
    exact law_def nx I'
  rw [if_neg c14]
  by_cases c15 : xs i &&& nI 31 = nI 15
  · rw [if_pos c15]
    obtain ⟨a, N, O, σ', h1, h2, b, I'⟩ := st_feed (xs (i + 1)) (xs (i + 2)) (xs (i + 3)) (xs (i + 4)) (xs (i + 5)) I
    dsimp only at h1 h2
    rw [r b0 1 (by decide), Option.bind_some, r b0 2 (by decide), Option.bind_some, r b0 3 (by decide), Option.bind_some, r b0 4 (by decide), Option.bind_some, r b0 5 (by decide), Option.bind_some, jiv_n (t1 hS), h1, jb2_some, r b 1 (by decide), Option.bind_some, r b 2 (by decide), Option.bind_some, r b 3 (by decide), Option.bind_some, r b 4 (by decide), Option.bind_some, r b 5 (by decide), Option.bind_some, jiv_n (t65 b.1), h2, jb2_some, if_pos rfl]
    exact law_def nx I'
  rw [if_neg c15]
  by_cases c16 : xs i &&& nI 31 = nI 16
  · rw [if_pos c16]
    obtain ⟨a, N, O, σ', h1, h2, b, I'⟩ := st_trim (xs (i + 1)) I
    dsimp only at h1 h2
    rw [r b0 1 (by decide), Option.bind_some, jiv_n (t1 hS), h1, jb2_some, r b 1 (by decide), Option.bind_some, jiv_n (t65 b.1), h2, jb2_some, if_pos rfl]
    exact law_def nx I'
  rw [if_neg c16]
  by_cases c17 : xs i &&& nI 31 = nI 17
  · rw [if_pos c17]
    obtain ⟨a, N, O, σ', h1, h2, b, I'⟩ := st_read  I
    dsimp only at h1 h2
    rw [jiv_n (t1 hS), h1, jb2_some, jiv_n (t65 b.1), h2, jb2_some, if_pos rfl]
    exact law_def nx I'
  rw [if_neg c17]
  by_cases c18 : xs i &&& nI 31 = nI 18
  · rw [if_pos c18]
    obtain ⟨a, N, O, σ', h1, h2, b, I'⟩ := st_sentence (xs (i + 1)) (xs (i + 2)) I
    dsimp only at h1 h2
    rw [r b0 1 (by decide), Option.bind_some, r b0 2 (by decide), Option.bind_some, jiv_n (t1 hS), h1, jb2_some, r b 1 (by decide), Option.bind_some, r b 2 (by decide), Option.bind_some, jiv_n (t65 b.1), h2, jb2_some, if_pos rfl]
    exact law_def nx I'
  rw [if_neg c18]
  by_cases c19 : xs i &&& nI 31 = nI 19
  · rw [if_pos c19]
    obtain ⟨a, N, O, σ', h1, h2, b, I'⟩ := st_written (xs (i + 1)) (xs (i + 2)) I
    dsimp only at h1 h2
    rw [r b0 1 (by decide), Option.bind_some, r b0 2 (by decide), Option.bind_some, jiv_n (t1 hS), h1, jb2_some, r b 1 (by decide), Option.bind_some, r b 2 (by decide), Option.bind_some, jiv_n (t65 b.1), h2, jb2_some, if_pos rfl]
    exact law_def nx I'
  rw [if_neg c19]
  by_cases c20 : xs i &&& nI 31 = nI 20
  · rw [if_pos c20]
    obtain ⟨a, N, O, σ', h1, h2, b, I'⟩ := st_holds (xs (i + 1)) (xs (i + 2)) I
    dsimp only at h1 h2
    rw [r b0 1 (by decide), Option.bind_some, r b0 2 (by decide), Option.bind_some, jiv_n (t1 hS), h1, jb2_some, r b 1 (by decide), Option.bind_some, r b 2 (by decide), Option.bind_some, jiv_n (t65 b.1), h2, jb2_some, if_pos rfl]
    exact law_def nx I'
  rw [if_neg c20]
  by_cases c21 : xs i &&& nI 31 = nI 21
  · rw [if_pos c21]
    obtain ⟨a, N, O, σ', h1, h2, b, I'⟩ := st_asked  I
    dsimp only at h1 h2
    rw [jiv_n (t1 hS), h1, jb2_some, jiv_n (t65 b.1), h2, jb2_some, if_pos rfl]
    exact law_def nx I'
  rw [if_neg c21]
  by_cases c22 : xs i &&& nI 31 = nI 22
  · rw [if_pos c22]
    obtain ⟨a, N, O, σ', h1, h2, b, I'⟩ := st_same (xs (i + 1)) (xs (i + 2)) I
    dsimp only at h1 h2
    rw [r b0 1 (by decide), Option.bind_some, r b0 2 (by decide), Option.bind_some, jiv_n (t1 hS), h1, jb2_some, r b 1 (by decide), Option.bind_some, r b 2 (by decide), Option.bind_some, jiv_n (t65 b.1), h2, jb2_some, if_pos rfl]
    exact law_def nx I'
  rw [if_neg c22]
  by_cases c23 : xs i &&& nI 31 = nI 23
  · rw [if_pos c23]
    obtain ⟨a, N, O, σ', h1, h2, b, I'⟩ := st_part (xs (i + 1)) (xs (i + 2)) I
    dsimp only at h1 h2
    rw [r b0 1 (by decide), Option.bind_some, r b0 2 (by decide), Option.bind_some, jiv_n (t1 hS), h1, jb2_some, r b 1 (by decide), Option.bind_some, r b 2 (by decide), Option.bind_some, jiv_n (t65 b.1), h2, jb2_some, if_pos rfl]
    exact law_def nx I'
  rw [if_neg c23]
  by_cases c24 : xs i &&& nI 31 = nI 24
  · rw [if_pos c24]
    obtain ⟨a, N, O, σ', h1, h2, b, I'⟩ := st_kinds (xs (i + 1)) (xs (i + 2)) (xs (i + 3)) I
    dsimp only at h1 h2
    rw [r b0 1 (by decide), Option.bind_some, r b0 2 (by decide), Option.bind_some, r b0 3 (by decide), Option.bind_some, jiv_n (t1 hS), h1, jb2_some, r b 1 (by decide), Option.bind_some, r b 2 (by decide), Option.bind_some, r b 3 (by decide), Option.bind_some, jiv_n (t65 b.1), h2, jb2_some, if_pos rfl]
    exact law_def nx I'
  rw [if_neg c24]
  by_cases c25 : xs i &&& nI 31 = nI 25
  · rw [if_pos c25]
    obtain ⟨a, N, O, σ', h1, h2, b, I'⟩ := st_kind (xs (i + 1)) I
    dsimp only at h1 h2
    rw [r b0 1 (by decide), Option.bind_some, jiv_n (t1 hS), h1, jb2_some, r b 1 (by decide), Option.bind_some, jiv_n (t65 b.1), h2, jb2_some, if_pos rfl]
    exact law_def nx I'
  rw [if_neg c25]
  by_cases c26 : xs i &&& nI 31 = nI 26
  · rw [if_pos c26]
    obtain ⟨a, N, O, σ', h1, h2, b, I'⟩ := st_colour (xs (i + 1)) (xs (i + 2)) (xs (i + 3)) I
    dsimp only at h1 h2
    rw [r b0 1 (by decide), Option.bind_some, r b0 2 (by decide), Option.bind_some, r b0 3 (by decide), Option.bind_some, jiv_n (t1 hS), h1, jb2_some, r b 1 (by decide), Option.bind_some, r b 2 (by decide), Option.bind_some, r b 3 (by decide), Option.bind_some, jiv_n (t65 b.1), h2, jb2_some, if_pos rfl]
    exact law_def nx I'
  rw [if_neg c26]
  by_cases c27 : xs i &&& nI 31 = nI 27
  · rw [if_pos c27]
    obtain ⟨a, N, O, σ', h1, h2, b, I'⟩ := st_coloured (xs (i + 1)) I
    dsimp only at h1 h2
    rw [r b0 1 (by decide), Option.bind_some, jiv_n (t1 hS), h1, jb2_some, r b 1 (by decide), Option.bind_some, jiv_n (t65 b.1), h2, jb2_some, if_pos rfl]
    exact law_def nx I'
  rw [if_neg c27]
  by_cases c28 : xs i &&& nI 31 = nI 28
  · rw [if_pos c28]
    obtain ⟨a, N, O, σ', h1, h2, b, I'⟩ := st_still (xs (i + 1)) I
    dsimp only at h1 h2
    rw [r b0 1 (by decide), Option.bind_some, jiv_n (t1 hS), h1, jb2_some, r b 1 (by decide), Option.bind_some, jiv_n (t65 b.1), h2, jb2_some, if_pos rfl]
    exact law_def nx I'
  rw [if_neg c28]
  by_cases c29 : xs i &&& nI 31 = nI 29
  · rw [if_pos c29]
    obtain ⟨a, N, O, σ', h1, h2, b, I'⟩ := st_told (xs (i + 1)) I
    dsimp only at h1 h2
    rw [r b0 1 (by decide), Option.bind_some, jiv_n (t1 hS), h1, jb2_some, r b 1 (by decide), Option.bind_some, jiv_n (t65 b.1), h2, jb2_some, if_pos rfl]
    exact law_def nx I'
  rw [if_neg c29]
  exact law_def nx I
theorem law_loop (hL : L ≤ 3072) : ∀ (F i : Nat) (M : jM) (σ : St), INV L xs σ M → i ≤ 4000 → L - i < F → ∃ Mz, l_L_law_18 F 0 1 65 (nI i) M = some (1, Mz) ∧ Mz.1.length ≤ 600001 ∧ jsl Mz ≤ 7302250 := by
  intro F
  induction F with
  | zero => intro i M σ _ _ z; omega
  | succ F ih =>
    intro i M σ I hi4 hF
    show ∃ Mz, b_L_law_18 (l_L_law_18 F) 0 1 65 (nI i) M = _ ∧ _
    by_cases hi : i + 6 ≤ L
    · exact law_step hL hi I (fun N σ' I' => ih (i + 6) N σ' I' (by omega) (by omega))
    · have b0 : B0 L xs M := I.2.1
      have h0 : lnS M 0 = some (nI L) := by unfold lnS; rw [if_pos ⟨rfl, by rw [b0.2.1]⟩, b0.2.1]
      have hlt : nI L - nI 6 < nI i := by
        by_cases h6 : 6 ≤ L
        · rw [pk_sub h6]; exact nI_lt (by omega) (by omega)
        · have small : ∀ l, l < 6 → nI l - nI 6 < 0 := by decide
          exact Int32.lt_of_lt_of_le (small L (by omega)) (nI_pos' (by omega))
      unfold b_L_law_18
      rw [h0, Option.bind_some, if_pos hlt]
      exact law_end I
end LAW
