/-! SENTENCES: the class's keepSentence. -/
/-- below cell 104 only the ints at C, and the refs of cell 38, have changed -/
def Lo (C : Nat → Nat → Prop) (M N : jM) : Prop := (∀ c, c < 104 → tg N c = tg M c) ∧ (∀ c k, c < 104 → c ≠ 38 → rR N c k = rR M c k) ∧ (∀ c k, c < 104 → ¬ C c k → rI N c k = rI M c k)
def CK (c k : Nat) : Prop := c = 34 ∨ c = 35 ∨ (c = 1 ∧ k = 9)
theorem gs_lt {S : List Fm} {f : Fm} {i : Nat} (h : i < S.length) : gs (S ++ [f]) i = gs S i := by
  unfold gs
  rw [List.getD_eq_getElem?_getD, List.getD_eq_getElem?_getD, List.getElem?_append_left h]
theorem gs_eq {S : List Fm} {f : Fm} : gs (S ++ [f]) S.length = f := by
  unfold gs
  rw [List.getD_eq_getElem?_getD, List.getElem?_append_right (Nat.le_refl _), Nat.sub_self]
  rfl
theorem SV_app {S : List Fm} {f : Fm} (h : SV S) (hl : S.length < 20) (h1 : wf 0 0 f) (h2 : sz f ≤ 600) (h3 : dp f ≤ 30) (h4 : (tx f).length ≤ 1299) : SV (S ++ [f]) := by
  refine ⟨by rw [List.length_append]; show S.length + 1 ≤ 20; omega, fun i hi => ?_⟩
  rw [List.length_append] at hi
  have hi : i < S.length + 1 := hi
  by_cases hc : i < S.length
  · rw [gs_lt hc]; exact h.2 i hc
  · obtain rfl : i = S.length := by omega
    rw [gs_eq]; exact ⟨h1, h2, h3, h4⟩
theorem x_keep {M : jM} {S : List Fm} {f : Fm} (h : Sh M) (x : XS S M) (hl : S.length < 20) (hf : wf 0 0 f) (hsz : sz f ≤ 600) (hdp : dp f ≤ 30) (hL : (tx f).length ≤ 1299) (hn : rI M 32 1 = nI (sz f)) (hN : Nx (rI M 33) 0 0 f) :
    ∃ N, f_X11_keepSentence 1 M = some (nI S.length, N) ∧ Sh N ∧ XS (S ++ [f]) N ∧ Lo CK M N ∧ N.1 = M.1 ++ [(100, sz f), (6, 0), (101, (tx f).length)] := by
  have h104 := h.2.2
  obtain ⟨x1, x2, x3⟩ := x
  unfold f_X11_keepSentence f_X7_init
  rw [gI_n (t1 h), Option.bind_some, x1, if_neg (nI_pos (by omega)), q1_8 h, Option.bind_some, ln_n (t38 h) (by decide) (by decide), Option.bind_some, if_pos (nI_lt hl (by decide)), q1_5 h, Option.bind_some, jiv_n (t32 h)]
  -- the nodes' copy
  obtain ⟨M5, p1, p2, p3⟩ := x_copy h hn (by omega)
  generalize hA : M.1.length = A at *
  have h5 := Sh_nw1 p2 h
  have l5 : M5.1.length = A + 1 := by rw [nw1_ln p2, hA]
  have o5 : ∀ c k, c ≠ A → rI M5 c k = rI M c k ∧ rR M5 c k = rR M c k ∧ rL M5 c k = rL M c k := fun c k hc => p2.2 c k (by rw [hA]; exact hc)
  have t5A : tg M5 A = (100, sz f) := by have := nw1_tn p2; rw [hA] at this; exact this
  rw [p1, jb2_some, q1_8 h5, Option.bind_some]
  -- the Sentence
  unfold nO
  rw [jb2_some, l5]
  generalize hM9 : nw M5 (6, 0) = M9
  have n9 : Nw1 (6, 0) M5 M9 := by
    rw [← hM9]
    refine ⟨rfl, fun c k hc => ⟨?_, ?_, ?_⟩⟩
    · rw [rI_nw, if_neg hc]
    · rw [rR_nw, if_neg hc]
    · rw [rL_nw, if_neg hc]
  have h9 := Sh_nw1 n9 h5
  have l9 : M9.1.length = A + 2 := by rw [nw1_ln n9, l5]
  have o9 : ∀ c k, c ≠ A + 1 → rI M9 c k = rI M5 c k ∧ rR M9 c k = rR M5 c k ∧ rL M9 c k = rL M5 c k := fun c k hc => n9.2 c k (by rw [l5]; exact hc)
  have t9A : tg M9 A = (100, sz f) := by rw [nw1_tg n9 (by omega)]; exact t5A
  have t9B : tg M9 (A + 1) = (6, 0) := by have := nw1_tn n9; rw [l5] at this; exact this
  have N9 : Nx (rI M9 A) 0 0 f := Nx_congr f 0 0 0 (fun i hi => by rw [(o9 A _ (by omega)).1, p3 _ (by omega)]) hN
  rw [q1_6 h9, Option.bind_some, jiv_n (t34 h9)]
  -- the text
  obtain ⟨M11, M10, r1, r2, r3, r4⟩ := x_write (M := M9) (nc := A) h9 (by omega) (by omega) hf hsz hdp hL t9A N9
  rw [l9] at r1 r4
  have h10 := Sh_ex r2 h9
  have l10 : M10.1.length = A + 2 := by rw [r2.1, l9]
  have h11 := Sh_nw1 r3 h10
  have l11 : M11.1.length = A + 3 := by rw [nw1_ln r3, l10]
  have o11 : ∀ c k, c ≠ A + 2 → rI M11 c k = rI M10 c k ∧ rR M11 c k = rR M10 c k ∧ rL M11 c k = rL M10 c k := fun c k hc => r3.2 c k (by rw [l10]; exact hc)
  have i11 : ∀ c k, c ≠ A + 2 → ¬ CY c → rI M11 c k = rI M9 c k := fun c k hc hy => by rw [(o11 c k hc).1, ex_rI r2 hy]
  have q11 : ∀ c k, c ≠ A + 2 → rR M11 c k = rR M9 c k := fun c k hc => by rw [(o11 c k hc).2.1, ex_rR r2]
  have g11 : ∀ c, c < A + 2 → tg M11 c = tg M9 c := fun c hc => by rw [nw1_tg r3 (by omega), ex_tg r2]
  have t11C : tg M11 (A + 2) = (101, (tx f).length) := by have := nw1_tn r3; rw [l10] at this; exact this
  rw [r1, jb2_some, q1_5 h11, Option.bind_some, jiv_n (t32 h11)]
  -- the depth
  have n11 : rI M11 32 1 = nI (sz f) := by rw [i11 _ _ (by omega) (by unfold CY; omega), (o9 _ _ (by omega)).1, (o5 _ _ (by omega)).1]; exact hn
  have N11 : Nx (rI M11 33) 0 0 f := Nx_congr f 0 0 0 (fun i hi => by rw [i11 _ _ (by omega) (by unfold CY; omega), (o9 _ _ (by omega)).1, (o5 _ _ (by omega)).1]) hN
  rw [x_depth h11 hf (by omega) n11 N11, jb2_some]
  have t11B : tg M11 (A + 1) = (6, 0) := by rw [g11 _ (by omega)]; exact t9B
  have pRn : ∀ (M : jM) (a k b : Nat), tg M a = (6, 0) → pR 6 M a k b = some (wR M a k (some b)) := fun M a k b ht => by unfold pR; rw [if_pos ht]
  rw [pRn _ _ _ _ t11B, Option.bind_some, pRn _ _ _ _ (show tg (wR M11 (A + 1) 0 (some A)) (A + 1) = (6, 0) from t11B), Option.bind_some, pI_n (show tg (wR (wR M11 (A + 1) 0 (some A)) (A + 1) 1 (some (A + 2))) (A + 1) = (6, 0) from t11B), Option.bind_some]
  generalize hM16 : wI (wR (wR M11 (A + 1) 0 (some A)) (A + 1) 1 (some (A + 2))) (A + 1) 2 (nI (qd f)) = M16
  have g16 : ∀ c, tg M16 c = tg M11 c := fun c => by rw [← hM16]; rfl
  have q16 : ∀ c k, rR M16 c k = if c = A + 1 ∧ k = 1 then some (A + 2) else if c = A + 1 ∧ k = 0 then some A else rR M11 c k := fun c k => by rw [← hM16, rR_wI, rR_wR, rR_wR]
  have i16 : ∀ c k, rI M16 c k = if c = A + 1 ∧ k = 2 then nI (qd f) else rI M11 c k := fun c k => by rw [← hM16, rI_wI, rI_wR, rI_wR]
  have l16 : M16.1 = M11.1 := by rw [← hM16]; rfl
  show ∃ N, ((stA 104 6 M16 38 (nI S.length) (A + 1)).bind fun M17 => _) = _ ∧ _
  have st : stA 104 6 M16 38 (nI S.length) (A + 1) = some (wR M16 38 S.length (some (A + 1))) := by
    unfold stA
    rw [g16, g16, t38 h11, t11B, nI_clamp (by omega), if_pos ⟨rfl, rfl, jok_n (by omega) (by decide)⟩]
  rw [st, Option.bind_some]
  generalize hM17 : wR M16 38 S.length (some (A + 1)) = M17
  have g17 : ∀ c, tg M17 c = tg M11 c := fun c => by rw [← hM17, ← g16 c]; rfl
  have i17 : ∀ c k, rI M17 c k = rI M16 c k := fun c k => by rw [← hM17, rI_wR]
  have q17 : ∀ c k, rR M17 c k = if c = 38 ∧ k = S.length then some (A + 1) else rR M16 c k := fun c k => by rw [← hM17, rR_wR]
  have t17 : tg M17 1 = (10, 0) := by rw [g17]; exact t1 h11
  have c17 : rI M17 1 9 = nI S.length := by rw [i17, i16, if_neg (by omega), i11 _ _ (by omega) (by unfold CY; omega), (o9 _ _ (by omega)).1, (o5 _ _ (by omega)).1]; exact x1
  rw [gI_n t17, Option.bind_some, c17, nI_add, pI_n t17, Option.bind_some]
  generalize hN' : wI M17 1 9 (nI (S.length + 1)) = N
  have gN : ∀ c, tg N c = tg M11 c := fun c => by rw [← hN', ← g17 c]; rfl
  have iN : ∀ c k, rI N c k = if c = 1 ∧ k = 9 then nI (S.length + 1) else rI M16 c k := fun c k => by rw [← hN', rI_wI, i17]
  have qN : ∀ c k, rR N c k = if c = 38 ∧ k = S.length then some (A + 1) else rR M16 c k := fun c k => by rw [← hN', rR_wI, q17]
  have lN : N.1 = M11.1 := by rw [← hN', ← hM17]; exact l16
  -- what holds at the end
  have old_t : ∀ c, c < A → tg N c = tg M c := fun c hc => by rw [gN, g11 c (by omega), nw1_tg n9 (by omega), nw1_tg p2 (by omega)]
  have old_r : ∀ c k, c < A → ¬ (c = 38 ∧ k = S.length) → rR N c k = rR M c k := fun c k hc h38 => by rw [qN, if_neg h38, q16, if_neg (by omega), if_neg (by omega), q11 _ _ (by omega), (o9 _ _ (by omega)).2.1, (o5 _ _ (by omega)).2.1]
  have old_i : ∀ c k, c < A → ¬ CK c k → rI N c k = rI M c k := fun c k hc hk => by
    unfold CK at hk
    rw [iN, if_neg (by omega), i16, if_neg (by omega), i11 _ _ (by omega) (by unfold CY; omega), (o9 _ _ (by omega)).1, (o5 _ _ (by omega)).1]
  have lo : Lo CK M N := ⟨fun c hc => old_t c (by omega), fun c k hc h38 => old_r c k (by omega) (by omega), fun c k hc hk => old_i c k (by omega) hk⟩
  have hAeq : A = 104 + 3 * S.length := by omega
  have l3 : N.1 = M.1 ++ [(100, sz f), (6, 0), (101, (tx f).length)] := by
    rw [lN, r3.1, r2.1, n9.1, p2.1]
    simp
  refine ⟨N, rfl, ⟨fun c h1 h2 => by rw [old_t c (by omega)]; exact h.1 c h1 h2, fun q hq => ?_, by rw [l3, List.length_append]; omega⟩, ⟨?_, ?_, fun i hi => ?_⟩, lo, l3⟩
  · have hb : q.1 < 104 ∧ q.1 ≠ 38 := by
      have : ∀ q ∈ rfs, q.1 < 104 ∧ q.1 ≠ 38 := by decide
      exact this q hq
    rw [old_r _ _ (by omega) (by omega)]
    exact h.2.1 q hq
  · rw [iN, if_pos ⟨rfl, rfl⟩, List.length_append]; rfl
  · rw [l3, List.length_append, List.length_append, hA]; show A + 3 = 104 + 3 * (S.length + 1); omega
  · rw [List.length_append] at hi
    have hi : i < S.length + 1 := hi
    by_cases hc : i < S.length
    · rw [gs_lt hc]
      obtain ⟨a1, a2⟩ := x3 i hc
      refine ⟨by rw [old_r _ _ (by omega) (by omega)]; exact a1, XS1_same (fun c hc' => old_t c (by omega)) (fun c k h1 h2 => old_r c k (by omega) (by omega)) (fun c k h1 h2 => old_i c k (by omega) (by unfold CK; omega)) a2⟩
    · obtain rfl : i = S.length := by omega
      rw [gs_eq, ← hAeq]
      refine ⟨by rw [qN, if_pos ⟨rfl, rfl⟩], by rw [gN]; exact t11B, by rw [qN, if_neg (by omega), q16, if_neg (by omega), if_pos ⟨rfl, rfl⟩], by rw [qN, if_neg (by omega), q16, if_pos ⟨rfl, rfl⟩], by rw [iN, if_neg (by omega), i16, if_pos ⟨rfl, rfl⟩], by rw [gN, g11 _ (by omega)]; exact t9A, Nx_congr f 0 0 0 (fun j hj => by rw [iN, if_neg (by omega), i16, if_neg (by omega), i11 _ _ (by omega) (by unfold CY; omega)]) N9, by rw [gN]; exact t11C, fun k hk => by rw [iN, if_neg (by omega), i16, if_neg (by omega)]; exact r4 k hk⟩
