/-! THE START: what the two constructors leave. -/
def jM0 (L : Nat) (xs : Nat → Int32) : jM := ([(105, L)], fun a k => if a = 0 then xs k else 0, fun _ _ => 0, fun _ _ => none)
/-- k cells made; the refs W stand; all else is 0 (but two places) -/
def IN (L : Nat) (xs : Nat → Int32) (k : Nat) (W : List (Nat × Nat × Nat)) (M : jM) : Prop := M.1 = (105, L) :: (tgs.drop 1).take k ∧ (∀ q ∈ W, q.1 ≤ k ∧ rR M q.1 q.2.1 = some q.2.2) ∧ (∀ c i, 1 ≤ c → ¬ (c = 29 ∧ i = 3) → ¬ (c = 65 ∧ i = 51) → rI M c i = 0) ∧ (∀ i, rI M 0 i = xs i)
section IN1
variable {L : Nat} {xs : Nat → Int32} {k : Nat} {W : List (Nat × Nat × Nat)} {M : jM}
theorem in_len (h : IN L xs k W M) (hk : k ≤ 103) : M.1.length = k + 1 := by
  rw [h.1, List.length_cons, List.length_take]
  have : (tgs.drop 1).length = 103 := by decide
  omega
theorem in_tg (h : IN L xs k W M) {a : Nat} (ha : 1 ≤ a) (hk : a ≤ k) (hk3 : k ≤ 103) : tg M a = tgs.getD a (999, 0) := by
  obtain ⟨a, rfl⟩ : ∃ b, a = b + 1 := ⟨a - 1, by omega⟩
  unfold tg
  rw [h.1, List.getD_cons_succ, List.getD_eq_getElem?_getD, List.getElem?_take, if_pos (by omega), List.getElem?_drop, List.getD_eq_getElem?_getD, Nat.add_comm]
theorem in_nw (h : IN L xs k W M) (hk : k < 103) {t : jT} (ht : tgs.getD (k + 1) (999, 0) = t) : IN L xs (k + 1) W (nw M t) := by
  have hl := in_len h (by omega)
  have hlen : (tgs.drop 1).length = 103 := by decide
  refine ⟨?_, fun q hq => ?_, fun c i h1 h2 h3 => ?_, fun i => ?_⟩
  · show M.1 ++ [t] = _
    rw [h.1, List.cons_append, List.take_succ]
    congr 2
    rw [← ht, List.getD_eq_getElem?_getD, List.getElem?_drop, Nat.add_comm 1]
    rw [List.getElem?_eq_getElem (by have : tgs.length = 104 := by decide
                                     omega)]
    rfl
  · obtain ⟨q1, q2⟩ := h.2.1 q hq
    refine ⟨by omega, ?_⟩
    rw [rR_nw, if_neg (by omega)]
    exact q2
  · rw [rI_nw]
    by_cases hc : c = M.1.length
    · rw [if_pos hc]
    · rw [if_neg hc]; exact h.2.2.1 c i h1 h2 h3
  · rw [rI_nw, if_neg (by omega)]; exact h.2.2.2 i
theorem in_nA (h : IN L xs k W M) (hk : k < 103) {t n : Nat} (ht : tgs.getD (k + 1) (999, 0) = (t, n)) (hn : n ≤ 100000) : ∃ N, nA t M (nI n) = some (k + 1, N) ∧ IN L xs (k + 1) W N := by
  refine ⟨nw M (t, n), ?_, in_nw h hk ht⟩
  unfold nA
  rw [if_pos ⟨nI_pos (by omega), by rw [nI_clamp (by omega)]; exact hn⟩, nI_clamp (by omega), in_len h (by omega)]
theorem in_nO (h : IN L xs k W M) (hk : k < 103) {ci : Nat} (ht : tgs.getD (k + 1) (999, 0) = (ci, 0)) : ∃ N, nO ci M = some (k + 1, N) ∧ IN L xs (k + 1) W N := by
  refine ⟨nw M (ci, 0), ?_, in_nw h hk ht⟩
  unfold nO
  rw [in_len h (by omega)]
theorem in_pR (h : IN L xs k W M) {ci a j b : Nat} (ha : 1 ≤ a) (hk : a ≤ k) (hk3 : k ≤ 103) (ht : tgs.getD a (999, 0) = (ci, 0)) (hf : ∀ q ∈ W, ¬ (q.1 = a ∧ q.2.1 = j)) : ∃ N, pR ci M a j b = some N ∧ IN L xs k ((a, j, b) :: W) N := by
  refine ⟨wR M a j (some b), ?_, h.1, fun q hq => ?_, h.2.2.1, h.2.2.2⟩
  · unfold pR
    rw [in_tg h ha hk hk3, ht, if_pos rfl]
  · rcases List.mem_cons.mp hq with e | e
    · rw [e]
      exact ⟨hk, by rw [rR_wR, if_pos ⟨rfl, rfl⟩]⟩
    · exact ⟨(h.2.1 q e).1, by rw [rR_wR, if_neg (hf q e)]; exact (h.2.1 q e).2⟩
theorem in_pI (h : IN L xs k W M) {ci a j : Nat} {v : Int32} (ha : 1 ≤ a) (hk : a ≤ k) (hk3 : k ≤ 103) (ht : tgs.getD a (999, 0) = (ci, 0)) (hv : v = 0 ∨ (a = 29 ∧ j = 3) ∨ (a = 65 ∧ j = 51)) : ∃ N, pI ci M a j v = some N ∧ IN L xs k W N ∧ N = wI M a j v := by
  refine ⟨wI M a j v, ?_, ⟨h.1, h.2.1, fun c i h1 h2 h3 => ?_, fun i => ?_⟩, rfl⟩
  · unfold pI
    rw [in_tg h ha hk hk3, ht, if_pos rfl]
  · rw [rI_wI]
    by_cases hc : c = a ∧ i = j
    · rw [if_pos hc]
      rcases hv with hv | hv | hv
      · exact hv
      · exact absurd ⟨hc.1.trans hv.1, hc.2.trans hv.2⟩ h2
      · exact absurd ⟨hc.1.trans hv.1, hc.2.trans hv.2⟩ h3
    · rw [if_neg hc]; exact h.2.2.1 c i h1 h2 h3
  · rw [rI_wI, if_neg (by omega)]; exact h.2.2.2 i
theorem in_stA (h : IN L xs k W M) {a j b t ci n : Nat} (ha : 1 ≤ a) (hk : a ≤ k) (hb : 1 ≤ b) (hkb : b ≤ k) (hk3 : k ≤ 103) (ht : tgs.getD a (999, 0) = (t, n)) (htb : tgs.getD b (999, 0) = (ci, 0)) (hj : j < n) (hn : n ≤ 1000) (hf : ∀ q ∈ W, ¬ (q.1 = a ∧ q.2.1 = j)) : ∃ N, stA t ci M a (nI j) b = some N ∧ IN L xs k ((a, j, b) :: W) N := by
  refine ⟨wR M a j (some b), ?_, h.1, fun q hq => ?_, h.2.2.1, h.2.2.2⟩
  · unfold stA
    rw [in_tg h ha hk hk3, in_tg h hb hkb hk3, ht, htb, if_pos ⟨rfl, rfl, jok_n hj (by omega)⟩, nI_clamp (by omega)]
  · rcases List.mem_cons.mp hq with e | e
    · rw [e]
      exact ⟨hk, by rw [rR_wR, if_pos ⟨rfl, rfl⟩]⟩
    · exact ⟨(h.2.1 q e).1, by rw [rR_wR, if_neg (hf q e)]; exact (h.2.1 q e).2⟩
theorem rt_some {τ : Type} {x : τ} {M : jM} : rt x M = some (x, M) := rfl
end IN1

def W11 : List (Nat × Nat × Nat) := [(2, 5, 62), (62, 2, 64), (62, 1, 63), (2, 4, 59), (59, 2, 61), (59, 1, 60), (2, 3, 56), (56, 2, 58), (56, 1, 57), (2, 2, 53), (53, 2, 55), (53, 1, 54), (2, 1, 50), (50, 2, 52), (50, 1, 51), (2, 0, 47), (47, 2, 49), (47, 1, 48), (1, 11, 42), (42, 3, 46), (42, 2, 45), (42, 1, 44), (42, 0, 43), (1, 10, 39), (39, 1, 41), (39, 0, 40), (1, 8, 38), (1, 7, 36), (36, 0, 37), (1, 6, 34), (34, 0, 35), (1, 5, 32), (32, 0, 33), (1, 4, 29), (29, 4, 31), (29, 0, 30), (1, 3, 17), (17, 0, 18), (18, 6, 28), (18, 4, 27), (18, 3, 26), (18, 2, 25), (18, 1, 22), (22, 2, 24), (22, 1, 23), (18, 0, 19), (19, 2, 21), (19, 1, 20), (1, 2, 6), (6, 6, 16), (6, 4, 15), (6, 3, 14), (6, 2, 13), (6, 1, 10), (10, 2, 12), (10, 1, 11), (6, 0, 7), (7, 2, 9), (7, 1, 8), (1, 1, 3), (3, 2, 5), (3, 1, 4), (1, 0, 2)]
set_option maxHeartbeats 4000000 in
theorem i_X11 {L : Nat} {xs : Nat → Int32} {M0 : jM} (h0 : IN L xs 1 [] M0) : ∃ N, f_X11_init 1 M0 = some ((), N) ∧ IN L xs 64 W11 N := by
  unfold f_X11_init f_X9_init f_X3_init f_X6_init f_X8_init f_X4_init f_X10_init f_X0_init f_X2_init f_X1_init
  unfold f_X3_init f_X9_init
  obtain ⟨M1, e1, h1⟩ := in_nA h0 (by decide) (t := 103) (n := 6) (by decide) (by decide)
  rw [e1, jb2_some]
  obtain ⟨M2, e2, h2⟩ := in_pR h1 (ci := 10) (a := 1) (j := 0) (b := 2) (by decide) (by decide) (by decide) (by decide) (by decide)
  rw [e2, Option.bind_some]
  obtain ⟨M3, e3, h3⟩ := in_nO h2 (by decide) (ci := 8) (by decide)
  rw [e3, jb2_some]
  obtain ⟨M4, e4, h4, d4⟩ := in_pI h3 (ci := 8) (a := 3) (j := 0) (v := nI 0) (by decide) (by decide) (by decide) (by decide) (Or.inl rfl)
  rw [e4, Option.bind_some]
  obtain ⟨M5, e5, h5⟩ := in_nA h4 (by decide) (t := 100) (n := 6) (by decide) (by decide)
  rw [e5, jb2_some]
  obtain ⟨M6, e6, h6⟩ := in_pR h5 (ci := 8) (a := 3) (j := 1) (b := 4) (by decide) (by decide) (by decide) (by decide) (by decide)
  rw [e6, Option.bind_some]
  obtain ⟨M7, e7, h7⟩ := in_nA h6 (by decide) (t := 100) (n := 6) (by decide) (by decide)
  rw [e7, jb2_some]
  obtain ⟨M8, e8, h8⟩ := in_pR h7 (ci := 8) (a := 3) (j := 2) (b := 5) (by decide) (by decide) (by decide) (by decide) (by decide)
  rw [e8, Option.bind_some]
  rw [rt_some, jb2_some]
  obtain ⟨M9, e9, h9⟩ := in_pR h8 (ci := 10) (a := 1) (j := 1) (b := 3) (by decide) (by decide) (by decide) (by decide) (by decide)
  rw [e9, Option.bind_some]
  obtain ⟨M10, e10, h10⟩ := in_nO h9 (by decide) (ci := 3) (by decide)
  rw [e10, jb2_some]
  obtain ⟨M11, e11, h11⟩ := in_nO h10 (by decide) (ci := 8) (by decide)
  rw [e11, jb2_some]
  obtain ⟨M12, e12, h12, d12⟩ := in_pI h11 (ci := 8) (a := 7) (j := 0) (v := nI 0) (by decide) (by decide) (by decide) (by decide) (Or.inl rfl)
  rw [e12, Option.bind_some]
  obtain ⟨M13, e13, h13⟩ := in_nA h12 (by decide) (t := 100) (n := 6) (by decide) (by decide)
  rw [e13, jb2_some]
  obtain ⟨M14, e14, h14⟩ := in_pR h13 (ci := 8) (a := 7) (j := 1) (b := 8) (by decide) (by decide) (by decide) (by decide) (by decide)
  rw [e14, Option.bind_some]
  obtain ⟨M15, e15, h15⟩ := in_nA h14 (by decide) (t := 100) (n := 6) (by decide) (by decide)
  rw [e15, jb2_some]
  obtain ⟨M16, e16, h16⟩ := in_pR h15 (ci := 8) (a := 7) (j := 2) (b := 9) (by decide) (by decide) (by decide) (by decide) (by decide)
  rw [e16, Option.bind_some]
  rw [rt_some, jb2_some]
  obtain ⟨M17, e17, h17⟩ := in_pR h16 (ci := 3) (a := 6) (j := 0) (b := 7) (by decide) (by decide) (by decide) (by decide) (by decide)
  rw [e17, Option.bind_some]
  obtain ⟨M18, e18, h18⟩ := in_nO h17 (by decide) (ci := 8) (by decide)
  rw [e18, jb2_some]
  obtain ⟨M19, e19, h19, d19⟩ := in_pI h18 (ci := 8) (a := 10) (j := 0) (v := nI 0) (by decide) (by decide) (by decide) (by decide) (Or.inl rfl)
  rw [e19, Option.bind_some]
  obtain ⟨M20, e20, h20⟩ := in_nA h19 (by decide) (t := 100) (n := 6) (by decide) (by decide)
  rw [e20, jb2_some]
  obtain ⟨M21, e21, h21⟩ := in_pR h20 (ci := 8) (a := 10) (j := 1) (b := 11) (by decide) (by decide) (by decide) (by decide) (by decide)
  rw [e21, Option.bind_some]
  obtain ⟨M22, e22, h22⟩ := in_nA h21 (by decide) (t := 100) (n := 6) (by decide) (by decide)
  rw [e22, jb2_some]
  obtain ⟨M23, e23, h23⟩ := in_pR h22 (ci := 8) (a := 10) (j := 2) (b := 12) (by decide) (by decide) (by decide) (by decide) (by decide)
  rw [e23, Option.bind_some]
  rw [rt_some, jb2_some]
  obtain ⟨M24, e24, h24⟩ := in_pR h23 (ci := 3) (a := 6) (j := 1) (b := 10) (by decide) (by decide) (by decide) (by decide) (by decide)
  rw [e24, Option.bind_some]
  obtain ⟨M25, e25, h25⟩ := in_nA h24 (by decide) (t := 100) (n := 12) (by decide) (by decide)
  rw [e25, jb2_some]
  obtain ⟨M26, e26, h26⟩ := in_pR h25 (ci := 3) (a := 6) (j := 2) (b := 13) (by decide) (by decide) (by decide) (by decide) (by decide)
  rw [e26, Option.bind_some]
  obtain ⟨M27, e27, h27⟩ := in_nA h26 (by decide) (t := 100) (n := 72) (by decide) (by decide)
  rw [e27, jb2_some]
  obtain ⟨M28, e28, h28⟩ := in_pR h27 (ci := 3) (a := 6) (j := 3) (b := 14) (by decide) (by decide) (by decide) (by decide) (by decide)
  rw [e28, Option.bind_some]
  obtain ⟨M29, e29, h29⟩ := in_nA h28 (by decide) (t := 100) (n := 6) (by decide) (by decide)
  rw [e29, jb2_some]
  obtain ⟨M30, e30, h30⟩ := in_pR h29 (ci := 3) (a := 6) (j := 4) (b := 15) (by decide) (by decide) (by decide) (by decide) (by decide)
  rw [e30, Option.bind_some]
  obtain ⟨M31, e31, h31, d31⟩ := in_pI h30 (ci := 3) (a := 6) (j := 5) (v := nI 0) (by decide) (by decide) (by decide) (by decide) (Or.inl rfl)
  rw [e31, Option.bind_some]
  obtain ⟨M32, e32, h32⟩ := in_nA h31 (by decide) (t := 100) (n := 36) (by decide) (by decide)
  rw [e32, jb2_some]
  obtain ⟨M33, e33, h33⟩ := in_pR h32 (ci := 3) (a := 6) (j := 6) (b := 16) (by decide) (by decide) (by decide) (by decide) (by decide)
  rw [e33, Option.bind_some]
  rw [rt_some, jb2_some]
  obtain ⟨M34, e34, h34⟩ := in_pR h33 (ci := 10) (a := 1) (j := 2) (b := 6) (by decide) (by decide) (by decide) (by decide) (by decide)
  rw [e34, Option.bind_some]
  obtain ⟨M35, e35, h35⟩ := in_nO h34 (by decide) (ci := 5) (by decide)
  rw [e35, jb2_some]
  obtain ⟨M36, e36, h36⟩ := in_nO h35 (by decide) (ci := 3) (by decide)
  rw [e36, jb2_some]
  obtain ⟨M37, e37, h37⟩ := in_nO h36 (by decide) (ci := 8) (by decide)
  rw [e37, jb2_some]
  obtain ⟨M38, e38, h38, d38⟩ := in_pI h37 (ci := 8) (a := 19) (j := 0) (v := nI 0) (by decide) (by decide) (by decide) (by decide) (Or.inl rfl)
  rw [e38, Option.bind_some]
  obtain ⟨M39, e39, h39⟩ := in_nA h38 (by decide) (t := 100) (n := 6) (by decide) (by decide)
  rw [e39, jb2_some]
  obtain ⟨M40, e40, h40⟩ := in_pR h39 (ci := 8) (a := 19) (j := 1) (b := 20) (by decide) (by decide) (by decide) (by decide) (by decide)
  rw [e40, Option.bind_some]
  obtain ⟨M41, e41, h41⟩ := in_nA h40 (by decide) (t := 100) (n := 6) (by decide) (by decide)
  rw [e41, jb2_some]
  obtain ⟨M42, e42, h42⟩ := in_pR h41 (ci := 8) (a := 19) (j := 2) (b := 21) (by decide) (by decide) (by decide) (by decide) (by decide)
  rw [e42, Option.bind_some]
  rw [rt_some, jb2_some]
  obtain ⟨M43, e43, h43⟩ := in_pR h42 (ci := 3) (a := 18) (j := 0) (b := 19) (by decide) (by decide) (by decide) (by decide) (by decide)
  rw [e43, Option.bind_some]
  obtain ⟨M44, e44, h44⟩ := in_nO h43 (by decide) (ci := 8) (by decide)
  rw [e44, jb2_some]
  obtain ⟨M45, e45, h45, d45⟩ := in_pI h44 (ci := 8) (a := 22) (j := 0) (v := nI 0) (by decide) (by decide) (by decide) (by decide) (Or.inl rfl)
  rw [e45, Option.bind_some]
  obtain ⟨M46, e46, h46⟩ := in_nA h45 (by decide) (t := 100) (n := 6) (by decide) (by decide)
  rw [e46, jb2_some]
  obtain ⟨M47, e47, h47⟩ := in_pR h46 (ci := 8) (a := 22) (j := 1) (b := 23) (by decide) (by decide) (by decide) (by decide) (by decide)
  rw [e47, Option.bind_some]
  obtain ⟨M48, e48, h48⟩ := in_nA h47 (by decide) (t := 100) (n := 6) (by decide) (by decide)
  rw [e48, jb2_some]
  obtain ⟨M49, e49, h49⟩ := in_pR h48 (ci := 8) (a := 22) (j := 2) (b := 24) (by decide) (by decide) (by decide) (by decide) (by decide)
  rw [e49, Option.bind_some]
  rw [rt_some, jb2_some]
  obtain ⟨M50, e50, h50⟩ := in_pR h49 (ci := 3) (a := 18) (j := 1) (b := 22) (by decide) (by decide) (by decide) (by decide) (by decide)
  rw [e50, Option.bind_some]
  obtain ⟨M51, e51, h51⟩ := in_nA h50 (by decide) (t := 100) (n := 12) (by decide) (by decide)
  rw [e51, jb2_some]
  obtain ⟨M52, e52, h52⟩ := in_pR h51 (ci := 3) (a := 18) (j := 2) (b := 25) (by decide) (by decide) (by decide) (by decide) (by decide)
  rw [e52, Option.bind_some]
  obtain ⟨M53, e53, h53⟩ := in_nA h52 (by decide) (t := 100) (n := 72) (by decide) (by decide)
  rw [e53, jb2_some]
  obtain ⟨M54, e54, h54⟩ := in_pR h53 (ci := 3) (a := 18) (j := 3) (b := 26) (by decide) (by decide) (by decide) (by decide) (by decide)
  rw [e54, Option.bind_some]
  obtain ⟨M55, e55, h55⟩ := in_nA h54 (by decide) (t := 100) (n := 6) (by decide) (by decide)
  rw [e55, jb2_some]
  obtain ⟨M56, e56, h56⟩ := in_pR h55 (ci := 3) (a := 18) (j := 4) (b := 27) (by decide) (by decide) (by decide) (by decide) (by decide)
  rw [e56, Option.bind_some]
  obtain ⟨M57, e57, h57, d57⟩ := in_pI h56 (ci := 3) (a := 18) (j := 5) (v := nI 0) (by decide) (by decide) (by decide) (by decide) (Or.inl rfl)
  rw [e57, Option.bind_some]
  obtain ⟨M58, e58, h58⟩ := in_nA h57 (by decide) (t := 100) (n := 36) (by decide) (by decide)
  rw [e58, jb2_some]
  obtain ⟨M59, e59, h59⟩ := in_pR h58 (ci := 3) (a := 18) (j := 6) (b := 28) (by decide) (by decide) (by decide) (by decide) (by decide)
  rw [e59, Option.bind_some]
  rw [rt_some, jb2_some]
  obtain ⟨M60, e60, h60⟩ := in_pR h59 (ci := 5) (a := 17) (j := 0) (b := 18) (by decide) (by decide) (by decide) (by decide) (by decide)
  rw [e60, Option.bind_some]
  obtain ⟨M61, e61, h61, d61⟩ := in_pI h60 (ci := 5) (a := 17) (j := 1) (v := nI 0) (by decide) (by decide) (by decide) (by decide) (Or.inl rfl)
  rw [e61, Option.bind_some]
  obtain ⟨M62, e62, h62, d62⟩ := in_pI h61 (ci := 5) (a := 17) (j := 2) (v := nI 0) (by decide) (by decide) (by decide) (by decide) (Or.inl rfl)
  rw [e62, Option.bind_some]
  obtain ⟨M63, e63, h63, d63⟩ := in_pI h62 (ci := 5) (a := 17) (j := 3) (v := nI 0) (by decide) (by decide) (by decide) (by decide) (Or.inl rfl)
  rw [e63, Option.bind_some]
  obtain ⟨M64, e64, h64, d64⟩ := in_pI h63 (ci := 5) (a := 17) (j := 4) (v := nI 0) (by decide) (by decide) (by decide) (by decide) (Or.inl rfl)
  rw [e64, Option.bind_some]
  rw [rt_some, jb2_some]
  obtain ⟨M65, e65, h65⟩ := in_pR h64 (ci := 10) (a := 1) (j := 3) (b := 17) (by decide) (by decide) (by decide) (by decide) (by decide)
  rw [e65, Option.bind_some]
  obtain ⟨M66, e66, h66⟩ := in_nO h65 (by decide) (ci := 7) (by decide)
  rw [e66, jb2_some]
  obtain ⟨M67, e67, h67⟩ := in_nA h66 (by decide) (t := 101) (n := 800) (by decide) (by decide)
  rw [e67, jb2_some]
  obtain ⟨M68, e68, h68⟩ := in_pR h67 (ci := 7) (a := 29) (j := 0) (b := 30) (by decide) (by decide) (by decide) (by decide) (by decide)
  rw [e68, Option.bind_some]
  obtain ⟨M69, e69, h69, d69⟩ := in_pI h68 (ci := 7) (a := 29) (j := 1) (v := nI 0) (by decide) (by decide) (by decide) (by decide) (Or.inl rfl)
  rw [e69, Option.bind_some]
  obtain ⟨M70, e70, h70, d70⟩ := in_pI h69 (ci := 7) (a := 29) (j := 2) (v := nI 0) (by decide) (by decide) (by decide) (by decide) (Or.inl rfl)
  rw [e70, Option.bind_some]
  obtain ⟨M71, e71, h71, d71⟩ := in_pI h70 (ci := 7) (a := 29) (j := 3) (v := -1) (by decide) (by decide) (by decide) (by decide) (Or.inr (Or.inl ⟨rfl, rfl⟩))
  rw [e71, Option.bind_some]
  obtain ⟨M72, e72, h72⟩ := in_nA h71 (by decide) (t := 100) (n := 8) (by decide) (by decide)
  rw [e72, jb2_some]
  obtain ⟨M73, e73, h73⟩ := in_pR h72 (ci := 7) (a := 29) (j := 4) (b := 31) (by decide) (by decide) (by decide) (by decide) (by decide)
  rw [e73, Option.bind_some]
  rw [rt_some, jb2_some]
  obtain ⟨M74, e74, h74⟩ := in_pR h73 (ci := 10) (a := 1) (j := 4) (b := 29) (by decide) (by decide) (by decide) (by decide) (by decide)
  rw [e74, Option.bind_some]
  obtain ⟨M75, e75, h75⟩ := in_nO h74 (by decide) (ci := 4) (by decide)
  rw [e75, jb2_some]
  obtain ⟨M76, e76, h76⟩ := in_nA h75 (by decide) (t := 100) (n := 800) (by decide) (by decide)
  rw [e76, jb2_some]
  obtain ⟨M77, e77, h77⟩ := in_pR h76 (ci := 4) (a := 32) (j := 0) (b := 33) (by decide) (by decide) (by decide) (by decide) (by decide)
  rw [e77, Option.bind_some]
  obtain ⟨M78, e78, h78, d78⟩ := in_pI h77 (ci := 4) (a := 32) (j := 1) (v := nI 0) (by decide) (by decide) (by decide) (by decide) (Or.inl rfl)
  rw [e78, Option.bind_some]
  rw [rt_some, jb2_some]
  obtain ⟨M79, e79, h79⟩ := in_pR h78 (ci := 10) (a := 1) (j := 5) (b := 32) (by decide) (by decide) (by decide) (by decide) (by decide)
  rw [e79, Option.bind_some]
  obtain ⟨M80, e80, h80⟩ := in_nO h79 (by decide) (ci := 9) (by decide)
  rw [e80, jb2_some]
  obtain ⟨M81, e81, h81⟩ := in_nA h80 (by decide) (t := 101) (n := 1300) (by decide) (by decide)
  rw [e81, jb2_some]
  obtain ⟨M82, e82, h82⟩ := in_pR h81 (ci := 9) (a := 34) (j := 0) (b := 35) (by decide) (by decide) (by decide) (by decide) (by decide)
  rw [e82, Option.bind_some]
  obtain ⟨M83, e83, h83, d83⟩ := in_pI h82 (ci := 9) (a := 34) (j := 1) (v := nI 0) (by decide) (by decide) (by decide) (by decide) (Or.inl rfl)
  rw [e83, Option.bind_some]
  rw [rt_some, jb2_some]
  obtain ⟨M84, e84, h84⟩ := in_pR h83 (ci := 10) (a := 1) (j := 6) (b := 34) (by decide) (by decide) (by decide) (by decide) (by decide)
  rw [e84, Option.bind_some]
  obtain ⟨M85, e85, h85⟩ := in_nO h84 (by decide) (ci := 0) (by decide)
  rw [e85, jb2_some]
  obtain ⟨M86, e86, h86⟩ := in_nA h85 (by decide) (t := 100) (n := 9) (by decide) (by decide)
  rw [e86, jb2_some]
  obtain ⟨M87, e87, h87⟩ := in_pR h86 (ci := 0) (a := 36) (j := 0) (b := 37) (by decide) (by decide) (by decide) (by decide) (by decide)
  rw [e87, Option.bind_some]
  obtain ⟨M88, e88, h88, d88⟩ := in_pI h87 (ci := 0) (a := 36) (j := 1) (v := nI 0) (by decide) (by decide) (by decide) (by decide) (Or.inl rfl)
  rw [e88, Option.bind_some]
  obtain ⟨M89, e89, h89, d89⟩ := in_pI h88 (ci := 0) (a := 36) (j := 2) (v := nI 0) (by decide) (by decide) (by decide) (by decide) (Or.inl rfl)
  rw [e89, Option.bind_some]
  rw [rt_some, jb2_some]
  obtain ⟨M90, e90, h90⟩ := in_pR h89 (ci := 10) (a := 1) (j := 7) (b := 36) (by decide) (by decide) (by decide) (by decide) (by decide)
  rw [e90, Option.bind_some]
  obtain ⟨M91, e91, h91⟩ := in_nA h90 (by decide) (t := 104) (n := 20) (by decide) (by decide)
  rw [e91, jb2_some]
  obtain ⟨M92, e92, h92⟩ := in_pR h91 (ci := 10) (a := 1) (j := 8) (b := 38) (by decide) (by decide) (by decide) (by decide) (by decide)
  rw [e92, Option.bind_some]
  obtain ⟨M93, e93, h93, d93⟩ := in_pI h92 (ci := 10) (a := 1) (j := 9) (v := nI 0) (by decide) (by decide) (by decide) (by decide) (Or.inl rfl)
  rw [e93, Option.bind_some]
  obtain ⟨M94, e94, h94⟩ := in_nO h93 (by decide) (ci := 2) (by decide)
  rw [e94, jb2_some]
  obtain ⟨M95, e95, h95⟩ := in_nA h94 (by decide) (t := 100) (n := 12) (by decide) (by decide)
  rw [e95, jb2_some]
  obtain ⟨M96, e96, h96⟩ := in_pR h95 (ci := 2) (a := 39) (j := 0) (b := 40) (by decide) (by decide) (by decide) (by decide) (by decide)
  rw [e96, Option.bind_some]
  obtain ⟨M97, e97, h97⟩ := in_nA h96 (by decide) (t := 100) (n := 12) (by decide) (by decide)
  rw [e97, jb2_some]
  obtain ⟨M98, e98, h98⟩ := in_pR h97 (ci := 2) (a := 39) (j := 1) (b := 41) (by decide) (by decide) (by decide) (by decide) (by decide)
  rw [e98, Option.bind_some]
  obtain ⟨M99, e99, h99, d99⟩ := in_pI h98 (ci := 2) (a := 39) (j := 2) (v := nI 0) (by decide) (by decide) (by decide) (by decide) (Or.inl rfl)
  rw [e99, Option.bind_some]
  rw [rt_some, jb2_some]
  obtain ⟨M100, e100, h100⟩ := in_pR h99 (ci := 10) (a := 1) (j := 10) (b := 39) (by decide) (by decide) (by decide) (by decide) (by decide)
  rw [e100, Option.bind_some]
  obtain ⟨M101, e101, h101⟩ := in_nO h100 (by decide) (ci := 1) (by decide)
  rw [e101, jb2_some]
  obtain ⟨M102, e102, h102⟩ := in_nA h101 (by decide) (t := 100) (n := 72) (by decide) (by decide)
  rw [e102, jb2_some]
  obtain ⟨M103, e103, h103⟩ := in_pR h102 (ci := 1) (a := 42) (j := 0) (b := 43) (by decide) (by decide) (by decide) (by decide) (by decide)
  rw [e103, Option.bind_some]
  obtain ⟨M104, e104, h104⟩ := in_nA h103 (by decide) (t := 100) (n := 72) (by decide) (by decide)
  rw [e104, jb2_some]
  obtain ⟨M105, e105, h105⟩ := in_pR h104 (ci := 1) (a := 42) (j := 1) (b := 44) (by decide) (by decide) (by decide) (by decide) (by decide)
  rw [e105, Option.bind_some]
  obtain ⟨M106, e106, h106⟩ := in_nA h105 (by decide) (t := 102) (n := 288) (by decide) (by decide)
  rw [e106, jb2_some]
  obtain ⟨M107, e107, h107⟩ := in_pR h106 (ci := 1) (a := 42) (j := 2) (b := 45) (by decide) (by decide) (by decide) (by decide) (by decide)
  rw [e107, Option.bind_some]
  obtain ⟨M108, e108, h108⟩ := in_nA h107 (by decide) (t := 100) (n := 72) (by decide) (by decide)
  rw [e108, jb2_some]
  obtain ⟨M109, e109, h109⟩ := in_pR h108 (ci := 1) (a := 42) (j := 3) (b := 46) (by decide) (by decide) (by decide) (by decide) (by decide)
  rw [e109, Option.bind_some]
  obtain ⟨M110, e110, h110, d110⟩ := in_pI h109 (ci := 1) (a := 42) (j := 4) (v := nI 0) (by decide) (by decide) (by decide) (by decide) (Or.inl rfl)
  rw [e110, Option.bind_some]
  obtain ⟨M111, e111, h111, d111⟩ := in_pI h110 (ci := 1) (a := 42) (j := 5) (v := nI 0) (by decide) (by decide) (by decide) (by decide) (Or.inl rfl)
  rw [e111, Option.bind_some]
  obtain ⟨M112, e112, h112, d112⟩ := in_pI h111 (ci := 1) (a := 42) (j := 6) (v := nI 0) (by decide) (by decide) (by decide) (by decide) (Or.inl rfl)
  rw [e112, Option.bind_some]
  obtain ⟨M113, e113, h113, d113⟩ := in_pI h112 (ci := 1) (a := 42) (j := 7) (v := nI 0) (by decide) (by decide) (by decide) (by decide) (Or.inl rfl)
  rw [e113, Option.bind_some]
  rw [rt_some, jb2_some]
  obtain ⟨M114, e114, h114⟩ := in_pR h113 (ci := 10) (a := 1) (j := 11) (b := 42) (by decide) (by decide) (by decide) (by decide) (by decide)
  rw [e114, Option.bind_some]
  obtain ⟨n0, hn0⟩ := jF_is
  obtain ⟨F, hF⟩ : ∃ F, jF0 = F + 7 := ⟨jF0 - 7, by omega⟩
  rw [hF]
  show ∃ N, b_X11_init_128 (l_X11_init_128 (F + 6)) 1 (nI 0) M114 = _ ∧ _
  unfold b_X11_init_128 f_X9_init
  rw [if_neg (by decide), gR_n (by rw [in_tg h114 (by decide) (by decide) (by decide)]; rfl) ((h114.2.1 (1, 0, 2) (by decide)).2), Option.bind_some]
  obtain ⟨M115, e115, h115⟩ := in_nO h114 (by decide) (ci := 8) (by decide)
  rw [e115, jb2_some]
  obtain ⟨M116, e116, h116, d116⟩ := in_pI h115 (ci := 8) (a := 47) (j := 0) (v := nI 0) (by decide) (by decide) (by decide) (by decide) (Or.inl rfl)
  rw [e116, Option.bind_some]
  obtain ⟨M117, e117, h117⟩ := in_nA h116 (by decide) (t := 100) (n := 6) (by decide) (by decide)
  rw [e117, jb2_some]
  obtain ⟨M118, e118, h118⟩ := in_pR h117 (ci := 8) (a := 47) (j := 1) (b := 48) (by decide) (by decide) (by decide) (by decide) (by decide)
  rw [e118, Option.bind_some]
  obtain ⟨M119, e119, h119⟩ := in_nA h118 (by decide) (t := 100) (n := 6) (by decide) (by decide)
  rw [e119, jb2_some]
  obtain ⟨M120, e120, h120⟩ := in_pR h119 (ci := 8) (a := 47) (j := 2) (b := 49) (by decide) (by decide) (by decide) (by decide) (by decide)
  rw [e120, Option.bind_some]
  rw [rt_some, jb2_some]
  obtain ⟨M121, e121, h121⟩ := in_stA h120 (a := 2) (j := 0) (b := 47) (t := 103) (ci := 8) (n := 6) (by decide) (by decide) (by decide) (by decide) (by decide) (by decide) (by decide) (by decide) (by decide) (by decide)
  rw [e121, Option.bind_some, nI_add]
  show ∃ N, b_X11_init_128 (l_X11_init_128 (F + 5)) 1 (nI 1) M121 = _ ∧ _
  unfold b_X11_init_128 f_X9_init
  rw [if_neg (by decide), gR_n (by rw [in_tg h121 (by decide) (by decide) (by decide)]; rfl) ((h121.2.1 (1, 0, 2) (by decide)).2), Option.bind_some]
  obtain ⟨M122, e122, h122⟩ := in_nO h121 (by decide) (ci := 8) (by decide)
  rw [e122, jb2_some]
  obtain ⟨M123, e123, h123, d123⟩ := in_pI h122 (ci := 8) (a := 50) (j := 0) (v := nI 0) (by decide) (by decide) (by decide) (by decide) (Or.inl rfl)
  rw [e123, Option.bind_some]
  obtain ⟨M124, e124, h124⟩ := in_nA h123 (by decide) (t := 100) (n := 6) (by decide) (by decide)
  rw [e124, jb2_some]
  obtain ⟨M125, e125, h125⟩ := in_pR h124 (ci := 8) (a := 50) (j := 1) (b := 51) (by decide) (by decide) (by decide) (by decide) (by decide)
  rw [e125, Option.bind_some]
  obtain ⟨M126, e126, h126⟩ := in_nA h125 (by decide) (t := 100) (n := 6) (by decide) (by decide)
  rw [e126, jb2_some]
  obtain ⟨M127, e127, h127⟩ := in_pR h126 (ci := 8) (a := 50) (j := 2) (b := 52) (by decide) (by decide) (by decide) (by decide) (by decide)
  rw [e127, Option.bind_some]
  rw [rt_some, jb2_some]
  obtain ⟨M128, e128, h128⟩ := in_stA h127 (a := 2) (j := 1) (b := 50) (t := 103) (ci := 8) (n := 6) (by decide) (by decide) (by decide) (by decide) (by decide) (by decide) (by decide) (by decide) (by decide) (by decide)
  rw [e128, Option.bind_some, nI_add]
  show ∃ N, b_X11_init_128 (l_X11_init_128 (F + 4)) 1 (nI 2) M128 = _ ∧ _
  unfold b_X11_init_128 f_X9_init
  rw [if_neg (by decide), gR_n (by rw [in_tg h128 (by decide) (by decide) (by decide)]; rfl) ((h128.2.1 (1, 0, 2) (by decide)).2), Option.bind_some]
  obtain ⟨M129, e129, h129⟩ := in_nO h128 (by decide) (ci := 8) (by decide)
  rw [e129, jb2_some]
  obtain ⟨M130, e130, h130, d130⟩ := in_pI h129 (ci := 8) (a := 53) (j := 0) (v := nI 0) (by decide) (by decide) (by decide) (by decide) (Or.inl rfl)
  rw [e130, Option.bind_some]
  obtain ⟨M131, e131, h131⟩ := in_nA h130 (by decide) (t := 100) (n := 6) (by decide) (by decide)
  rw [e131, jb2_some]
  obtain ⟨M132, e132, h132⟩ := in_pR h131 (ci := 8) (a := 53) (j := 1) (b := 54) (by decide) (by decide) (by decide) (by decide) (by decide)
  rw [e132, Option.bind_some]
  obtain ⟨M133, e133, h133⟩ := in_nA h132 (by decide) (t := 100) (n := 6) (by decide) (by decide)
  rw [e133, jb2_some]
  obtain ⟨M134, e134, h134⟩ := in_pR h133 (ci := 8) (a := 53) (j := 2) (b := 55) (by decide) (by decide) (by decide) (by decide) (by decide)
  rw [e134, Option.bind_some]
  rw [rt_some, jb2_some]
  obtain ⟨M135, e135, h135⟩ := in_stA h134 (a := 2) (j := 2) (b := 53) (t := 103) (ci := 8) (n := 6) (by decide) (by decide) (by decide) (by decide) (by decide) (by decide) (by decide) (by decide) (by decide) (by decide)
  rw [e135, Option.bind_some, nI_add]
  show ∃ N, b_X11_init_128 (l_X11_init_128 (F + 3)) 1 (nI 3) M135 = _ ∧ _
  unfold b_X11_init_128 f_X9_init
  rw [if_neg (by decide), gR_n (by rw [in_tg h135 (by decide) (by decide) (by decide)]; rfl) ((h135.2.1 (1, 0, 2) (by decide)).2), Option.bind_some]
  obtain ⟨M136, e136, h136⟩ := in_nO h135 (by decide) (ci := 8) (by decide)
  rw [e136, jb2_some]
  obtain ⟨M137, e137, h137, d137⟩ := in_pI h136 (ci := 8) (a := 56) (j := 0) (v := nI 0) (by decide) (by decide) (by decide) (by decide) (Or.inl rfl)
  rw [e137, Option.bind_some]
  obtain ⟨M138, e138, h138⟩ := in_nA h137 (by decide) (t := 100) (n := 6) (by decide) (by decide)
  rw [e138, jb2_some]
  obtain ⟨M139, e139, h139⟩ := in_pR h138 (ci := 8) (a := 56) (j := 1) (b := 57) (by decide) (by decide) (by decide) (by decide) (by decide)
  rw [e139, Option.bind_some]
  obtain ⟨M140, e140, h140⟩ := in_nA h139 (by decide) (t := 100) (n := 6) (by decide) (by decide)
  rw [e140, jb2_some]
  obtain ⟨M141, e141, h141⟩ := in_pR h140 (ci := 8) (a := 56) (j := 2) (b := 58) (by decide) (by decide) (by decide) (by decide) (by decide)
  rw [e141, Option.bind_some]
  rw [rt_some, jb2_some]
  obtain ⟨M142, e142, h142⟩ := in_stA h141 (a := 2) (j := 3) (b := 56) (t := 103) (ci := 8) (n := 6) (by decide) (by decide) (by decide) (by decide) (by decide) (by decide) (by decide) (by decide) (by decide) (by decide)
  rw [e142, Option.bind_some, nI_add]
  show ∃ N, b_X11_init_128 (l_X11_init_128 (F + 2)) 1 (nI 4) M142 = _ ∧ _
  unfold b_X11_init_128 f_X9_init
  rw [if_neg (by decide), gR_n (by rw [in_tg h142 (by decide) (by decide) (by decide)]; rfl) ((h142.2.1 (1, 0, 2) (by decide)).2), Option.bind_some]
  obtain ⟨M143, e143, h143⟩ := in_nO h142 (by decide) (ci := 8) (by decide)
  rw [e143, jb2_some]
  obtain ⟨M144, e144, h144, d144⟩ := in_pI h143 (ci := 8) (a := 59) (j := 0) (v := nI 0) (by decide) (by decide) (by decide) (by decide) (Or.inl rfl)
  rw [e144, Option.bind_some]
  obtain ⟨M145, e145, h145⟩ := in_nA h144 (by decide) (t := 100) (n := 6) (by decide) (by decide)
  rw [e145, jb2_some]
  obtain ⟨M146, e146, h146⟩ := in_pR h145 (ci := 8) (a := 59) (j := 1) (b := 60) (by decide) (by decide) (by decide) (by decide) (by decide)
  rw [e146, Option.bind_some]
  obtain ⟨M147, e147, h147⟩ := in_nA h146 (by decide) (t := 100) (n := 6) (by decide) (by decide)
  rw [e147, jb2_some]
  obtain ⟨M148, e148, h148⟩ := in_pR h147 (ci := 8) (a := 59) (j := 2) (b := 61) (by decide) (by decide) (by decide) (by decide) (by decide)
  rw [e148, Option.bind_some]
  rw [rt_some, jb2_some]
  obtain ⟨M149, e149, h149⟩ := in_stA h148 (a := 2) (j := 4) (b := 59) (t := 103) (ci := 8) (n := 6) (by decide) (by decide) (by decide) (by decide) (by decide) (by decide) (by decide) (by decide) (by decide) (by decide)
  rw [e149, Option.bind_some, nI_add]
  show ∃ N, b_X11_init_128 (l_X11_init_128 (F + 1)) 1 (nI 5) M149 = _ ∧ _
  unfold b_X11_init_128 f_X9_init
  rw [if_neg (by decide), gR_n (by rw [in_tg h149 (by decide) (by decide) (by decide)]; rfl) ((h149.2.1 (1, 0, 2) (by decide)).2), Option.bind_some]
  obtain ⟨M150, e150, h150⟩ := in_nO h149 (by decide) (ci := 8) (by decide)
  rw [e150, jb2_some]
  obtain ⟨M151, e151, h151, d151⟩ := in_pI h150 (ci := 8) (a := 62) (j := 0) (v := nI 0) (by decide) (by decide) (by decide) (by decide) (Or.inl rfl)
  rw [e151, Option.bind_some]
  obtain ⟨M152, e152, h152⟩ := in_nA h151 (by decide) (t := 100) (n := 6) (by decide) (by decide)
  rw [e152, jb2_some]
  obtain ⟨M153, e153, h153⟩ := in_pR h152 (ci := 8) (a := 62) (j := 1) (b := 63) (by decide) (by decide) (by decide) (by decide) (by decide)
  rw [e153, Option.bind_some]
  obtain ⟨M154, e154, h154⟩ := in_nA h153 (by decide) (t := 100) (n := 6) (by decide) (by decide)
  rw [e154, jb2_some]
  obtain ⟨M155, e155, h155⟩ := in_pR h154 (ci := 8) (a := 62) (j := 2) (b := 64) (by decide) (by decide) (by decide) (by decide) (by decide)
  rw [e155, Option.bind_some]
  rw [rt_some, jb2_some]
  obtain ⟨M156, e156, h156⟩ := in_stA h155 (a := 2) (j := 5) (b := 62) (t := 103) (ci := 8) (n := 6) (by decide) (by decide) (by decide) (by decide) (by decide) (by decide) (by decide) (by decide) (by decide) (by decide)
  rw [e156, Option.bind_some, nI_add]
  refine ⟨M156, ?_, h156⟩
  show b_X11_init_128 (l_X11_init_128 F) 1 (nI 6) M156 = _
  unfold b_X11_init_128
  rw [if_pos (by decide)]
  rfl
def W12 : List (Nat × Nat × Nat) := [(65, 63, 103), (65, 62, 102), (65, 61, 101), (65, 60, 100), (65, 59, 99), (65, 58, 98), (65, 57, 97), (65, 56, 96), (65, 55, 95), (65, 50, 94), (65, 49, 93), (65, 46, 92), (65, 43, 91), (65, 41, 90), (65, 40, 89), (65, 39, 88), (65, 35, 87), (65, 32, 86), (65, 31, 85), (65, 30, 84), (65, 27, 83), (65, 26, 82), (65, 25, 81), (65, 24, 80), (65, 22, 79), (65, 21, 78), (65, 20, 77), (65, 19, 76), (65, 18, 75), (65, 14, 74), (65, 13, 73), (65, 9, 72), (65, 8, 71), (65, 4, 70), (65, 3, 69), (65, 2, 68), (65, 1, 67), (65, 0, 66), (2, 5, 62), (62, 2, 64), (62, 1, 63), (2, 4, 59), (59, 2, 61), (59, 1, 60), (2, 3, 56), (56, 2, 58), (56, 1, 57), (2, 2, 53), (53, 2, 55), (53, 1, 54), (2, 1, 50), (50, 2, 52), (50, 1, 51), (2, 0, 47), (47, 2, 49), (47, 1, 48), (1, 11, 42), (42, 3, 46), (42, 2, 45), (42, 1, 44), (42, 0, 43), (1, 10, 39), (39, 1, 41), (39, 0, 40), (1, 8, 38), (1, 7, 36), (36, 0, 37), (1, 6, 34), (34, 0, 35), (1, 5, 32), (32, 0, 33), (1, 4, 29), (29, 4, 31), (29, 0, 30), (1, 3, 17), (17, 0, 18), (18, 6, 28), (18, 4, 27), (18, 3, 26), (18, 2, 25), (18, 1, 22), (22, 2, 24), (22, 1, 23), (18, 0, 19), (19, 2, 21), (19, 1, 20), (1, 2, 6), (6, 6, 16), (6, 4, 15), (6, 3, 14), (6, 2, 13), (6, 1, 10), (10, 2, 12), (10, 1, 11), (6, 0, 7), (7, 2, 9), (7, 1, 8), (1, 1, 3), (3, 2, 5), (3, 1, 4), (1, 0, 2)]
set_option maxHeartbeats 4000000 in
theorem i_X12 {L : Nat} {xs : Nat → Int32} {M0 : jM} (h0 : IN L xs 65 W11 M0) : ∃ N, f_X12_init 65 M0 = some ((), N) ∧ IN L xs 103 W12 N ∧ rI N 65 51 = -1 := by
  unfold f_X12_init
  obtain ⟨M1, e1, h1⟩ := in_nA h0 (by decide) (t := 100) (n := 8) (by decide) (by decide)
  rw [e1, jb2_some]
  obtain ⟨M2, e2, h2⟩ := in_pR h1 (ci := 11) (a := 65) (j := 0) (b := 66) (by decide) (by decide) (by decide) (by decide) (by decide)
  rw [e2, Option.bind_some]
  obtain ⟨M3, e3, h3⟩ := in_nA h2 (by decide) (t := 100) (n := 48) (by decide) (by decide)
  rw [e3, jb2_some]
  obtain ⟨M4, e4, h4⟩ := in_pR h3 (ci := 11) (a := 65) (j := 1) (b := 67) (by decide) (by decide) (by decide) (by decide) (by decide)
  rw [e4, Option.bind_some]
  obtain ⟨M5, e5, h5⟩ := in_nA h4 (by decide) (t := 100) (n := 48) (by decide) (by decide)
  rw [e5, jb2_some]
  obtain ⟨M6, e6, h6⟩ := in_pR h5 (ci := 11) (a := 65) (j := 2) (b := 68) (by decide) (by decide) (by decide) (by decide) (by decide)
  rw [e6, Option.bind_some]
  obtain ⟨M7, e7, h7⟩ := in_nA h6 (by decide) (t := 100) (n := 6) (by decide) (by decide)
  rw [e7, jb2_some]
  obtain ⟨M8, e8, h8⟩ := in_pR h7 (ci := 11) (a := 65) (j := 3) (b := 69) (by decide) (by decide) (by decide) (by decide) (by decide)
  rw [e8, Option.bind_some]
  obtain ⟨M9, e9, h9⟩ := in_nA h8 (by decide) (t := 100) (n := 6) (by decide) (by decide)
  rw [e9, jb2_some]
  obtain ⟨M10, e10, h10⟩ := in_pR h9 (ci := 11) (a := 65) (j := 4) (b := 70) (by decide) (by decide) (by decide) (by decide) (by decide)
  rw [e10, Option.bind_some]
  obtain ⟨M11, e11, h11⟩ := in_nA h10 (by decide) (t := 100) (n := 5) (by decide) (by decide)
  rw [e11, jb2_some]
  obtain ⟨M12, e12, h12⟩ := in_pR h11 (ci := 11) (a := 65) (j := 8) (b := 71) (by decide) (by decide) (by decide) (by decide) (by decide)
  rw [e12, Option.bind_some]
  obtain ⟨M13, e13, h13⟩ := in_nA h12 (by decide) (t := 100) (n := 5) (by decide) (by decide)
  rw [e13, jb2_some]
  obtain ⟨M14, e14, h14⟩ := in_pR h13 (ci := 11) (a := 65) (j := 9) (b := 72) (by decide) (by decide) (by decide) (by decide) (by decide)
  rw [e14, Option.bind_some]
  obtain ⟨M15, e15, h15⟩ := in_nA h14 (by decide) (t := 100) (n := 5) (by decide) (by decide)
  rw [e15, jb2_some]
  obtain ⟨M16, e16, h16⟩ := in_pR h15 (ci := 11) (a := 65) (j := 13) (b := 73) (by decide) (by decide) (by decide) (by decide) (by decide)
  rw [e16, Option.bind_some]
  obtain ⟨M17, e17, h17⟩ := in_nA h16 (by decide) (t := 100) (n := 5) (by decide) (by decide)
  rw [e17, jb2_some]
  obtain ⟨M18, e18, h18⟩ := in_pR h17 (ci := 11) (a := 65) (j := 14) (b := 74) (by decide) (by decide) (by decide) (by decide) (by decide)
  rw [e18, Option.bind_some]
  obtain ⟨M19, e19, h19⟩ := in_nA h18 (by decide) (t := 100) (n := 20) (by decide) (by decide)
  rw [e19, jb2_some]
  obtain ⟨M20, e20, h20⟩ := in_pR h19 (ci := 11) (a := 65) (j := 18) (b := 75) (by decide) (by decide) (by decide) (by decide) (by decide)
  rw [e20, Option.bind_some]
  obtain ⟨M21, e21, h21⟩ := in_nA h20 (by decide) (t := 101) (n := 12000) (by decide) (by decide)
  rw [e21, jb2_some]
  obtain ⟨M22, e22, h22⟩ := in_pR h21 (ci := 11) (a := 65) (j := 19) (b := 76) (by decide) (by decide) (by decide) (by decide) (by decide)
  rw [e22, Option.bind_some]
  obtain ⟨M23, e23, h23⟩ := in_nA h22 (by decide) (t := 100) (n := 12000) (by decide) (by decide)
  rw [e23, jb2_some]
  obtain ⟨M24, e24, h24⟩ := in_pR h23 (ci := 11) (a := 65) (j := 20) (b := 77) (by decide) (by decide) (by decide) (by decide) (by decide)
  rw [e24, Option.bind_some]
  obtain ⟨M25, e25, h25⟩ := in_nA h24 (by decide) (t := 101) (n := 12000) (by decide) (by decide)
  rw [e25, jb2_some]
  obtain ⟨M26, e26, h26⟩ := in_pR h25 (ci := 11) (a := 65) (j := 21) (b := 78) (by decide) (by decide) (by decide) (by decide) (by decide)
  rw [e26, Option.bind_some]
  obtain ⟨M27, e27, h27⟩ := in_nA h26 (by decide) (t := 100) (n := 12000) (by decide) (by decide)
  rw [e27, jb2_some]
  obtain ⟨M28, e28, h28⟩ := in_pR h27 (ci := 11) (a := 65) (j := 22) (b := 79) (by decide) (by decide) (by decide) (by decide) (by decide)
  rw [e28, Option.bind_some]
  obtain ⟨M29, e29, h29⟩ := in_nA h28 (by decide) (t := 101) (n := 1000) (by decide) (by decide)
  rw [e29, jb2_some]
  obtain ⟨M30, e30, h30⟩ := in_pR h29 (ci := 11) (a := 65) (j := 24) (b := 80) (by decide) (by decide) (by decide) (by decide) (by decide)
  rw [e30, Option.bind_some]
  obtain ⟨M31, e31, h31⟩ := in_nA h30 (by decide) (t := 100) (n := 1000) (by decide) (by decide)
  rw [e31, jb2_some]
  obtain ⟨M32, e32, h32⟩ := in_pR h31 (ci := 11) (a := 65) (j := 25) (b := 81) (by decide) (by decide) (by decide) (by decide) (by decide)
  rw [e32, Option.bind_some]
  obtain ⟨M33, e33, h33⟩ := in_nA h32 (by decide) (t := 101) (n := 1000) (by decide) (by decide)
  rw [e33, jb2_some]
  obtain ⟨M34, e34, h34⟩ := in_pR h33 (ci := 11) (a := 65) (j := 26) (b := 82) (by decide) (by decide) (by decide) (by decide) (by decide)
  rw [e34, Option.bind_some]
  obtain ⟨M35, e35, h35⟩ := in_nA h34 (by decide) (t := 101) (n := 800) (by decide) (by decide)
  rw [e35, jb2_some]
  obtain ⟨M36, e36, h36⟩ := in_pR h35 (ci := 11) (a := 65) (j := 27) (b := 83) (by decide) (by decide) (by decide) (by decide) (by decide)
  rw [e36, Option.bind_some]
  obtain ⟨M37, e37, h37⟩ := in_nA h36 (by decide) (t := 100) (n := 32) (by decide) (by decide)
  rw [e37, jb2_some]
  obtain ⟨M38, e38, h38⟩ := in_pR h37 (ci := 11) (a := 65) (j := 30) (b := 84) (by decide) (by decide) (by decide) (by decide) (by decide)
  rw [e38, Option.bind_some]
  obtain ⟨M39, e39, h39⟩ := in_nA h38 (by decide) (t := 100) (n := 32) (by decide) (by decide)
  rw [e39, jb2_some]
  obtain ⟨M40, e40, h40⟩ := in_pR h39 (ci := 11) (a := 65) (j := 31) (b := 85) (by decide) (by decide) (by decide) (by decide) (by decide)
  rw [e40, Option.bind_some]
  obtain ⟨M41, e41, h41⟩ := in_nA h40 (by decide) (t := 100) (n := 32) (by decide) (by decide)
  rw [e41, jb2_some]
  obtain ⟨M42, e42, h42⟩ := in_pR h41 (ci := 11) (a := 65) (j := 32) (b := 86) (by decide) (by decide) (by decide) (by decide) (by decide)
  rw [e42, Option.bind_some]
  obtain ⟨M43, e43, h43⟩ := in_nA h42 (by decide) (t := 100) (n := 10) (by decide) (by decide)
  rw [e43, jb2_some]
  obtain ⟨M44, e44, h44⟩ := in_pR h43 (ci := 11) (a := 65) (j := 35) (b := 87) (by decide) (by decide) (by decide) (by decide) (by decide)
  rw [e44, Option.bind_some]
  obtain ⟨M45, e45, h45⟩ := in_nA h44 (by decide) (t := 100) (n := 64) (by decide) (by decide)
  rw [e45, jb2_some]
  obtain ⟨M46, e46, h46⟩ := in_pR h45 (ci := 11) (a := 65) (j := 39) (b := 88) (by decide) (by decide) (by decide) (by decide) (by decide)
  rw [e46, Option.bind_some]
  obtain ⟨M47, e47, h47⟩ := in_nA h46 (by decide) (t := 100) (n := 64) (by decide) (by decide)
  rw [e47, jb2_some]
  obtain ⟨M48, e48, h48⟩ := in_pR h47 (ci := 11) (a := 65) (j := 40) (b := 89) (by decide) (by decide) (by decide) (by decide) (by decide)
  rw [e48, Option.bind_some]
  obtain ⟨M49, e49, h49⟩ := in_nA h48 (by decide) (t := 100) (n := 64) (by decide) (by decide)
  rw [e49, jb2_some]
  obtain ⟨M50, e50, h50⟩ := in_pR h49 (ci := 11) (a := 65) (j := 41) (b := 90) (by decide) (by decide) (by decide) (by decide) (by decide)
  rw [e50, Option.bind_some]
  obtain ⟨M51, e51, h51⟩ := in_nA h50 (by decide) (t := 101) (n := 8000) (by decide) (by decide)
  rw [e51, jb2_some]
  obtain ⟨M52, e52, h52⟩ := in_pR h51 (ci := 11) (a := 65) (j := 43) (b := 91) (by decide) (by decide) (by decide) (by decide) (by decide)
  rw [e52, Option.bind_some]
  obtain ⟨M53, e53, h53⟩ := in_nA h52 (by decide) (t := 100) (n := 10) (by decide) (by decide)
  rw [e53, jb2_some]
  obtain ⟨M54, e54, h54⟩ := in_pR h53 (ci := 11) (a := 65) (j := 46) (b := 92) (by decide) (by decide) (by decide) (by decide) (by decide)
  rw [e54, Option.bind_some]
  obtain ⟨M55, e55, h55⟩ := in_nA h54 (by decide) (t := 100) (n := 12) (by decide) (by decide)
  rw [e55, jb2_some]
  obtain ⟨M56, e56, h56⟩ := in_pR h55 (ci := 11) (a := 65) (j := 49) (b := 93) (by decide) (by decide) (by decide) (by decide) (by decide)
  rw [e56, Option.bind_some]
  obtain ⟨M57, e57, h57⟩ := in_nA h56 (by decide) (t := 100) (n := 72) (by decide) (by decide)
  rw [e57, jb2_some]
  obtain ⟨M58, e58, h58⟩ := in_pR h57 (ci := 11) (a := 65) (j := 50) (b := 94) (by decide) (by decide) (by decide) (by decide) (by decide)
  rw [e58, Option.bind_some]
  obtain ⟨M59, e59, h59⟩ := in_nA h58 (by decide) (t := 100) (n := 72) (by decide) (by decide)
  rw [e59, jb2_some]
  obtain ⟨M60, e60, h60⟩ := in_pR h59 (ci := 11) (a := 65) (j := 55) (b := 95) (by decide) (by decide) (by decide) (by decide) (by decide)
  rw [e60, Option.bind_some]
  obtain ⟨M61, e61, h61⟩ := in_nA h60 (by decide) (t := 100) (n := 72) (by decide) (by decide)
  rw [e61, jb2_some]
  obtain ⟨M62, e62, h62⟩ := in_pR h61 (ci := 11) (a := 65) (j := 56) (b := 96) (by decide) (by decide) (by decide) (by decide) (by decide)
  rw [e62, Option.bind_some]
  obtain ⟨M63, e63, h63⟩ := in_nA h62 (by decide) (t := 100) (n := 72) (by decide) (by decide)
  rw [e63, jb2_some]
  obtain ⟨M64, e64, h64⟩ := in_pR h63 (ci := 11) (a := 65) (j := 57) (b := 97) (by decide) (by decide) (by decide) (by decide) (by decide)
  rw [e64, Option.bind_some]
  obtain ⟨M65, e65, h65⟩ := in_nA h64 (by decide) (t := 100) (n := 72) (by decide) (by decide)
  rw [e65, jb2_some]
  obtain ⟨M66, e66, h66⟩ := in_pR h65 (ci := 11) (a := 65) (j := 58) (b := 98) (by decide) (by decide) (by decide) (by decide) (by decide)
  rw [e66, Option.bind_some]
  obtain ⟨M67, e67, h67⟩ := in_nA h66 (by decide) (t := 100) (n := 72) (by decide) (by decide)
  rw [e67, jb2_some]
  obtain ⟨M68, e68, h68⟩ := in_pR h67 (ci := 11) (a := 65) (j := 59) (b := 99) (by decide) (by decide) (by decide) (by decide) (by decide)
  rw [e68, Option.bind_some]
  obtain ⟨M69, e69, h69⟩ := in_nA h68 (by decide) (t := 102) (n := 72) (by decide) (by decide)
  rw [e69, jb2_some]
  obtain ⟨M70, e70, h70⟩ := in_pR h69 (ci := 11) (a := 65) (j := 60) (b := 100) (by decide) (by decide) (by decide) (by decide) (by decide)
  rw [e70, Option.bind_some]
  obtain ⟨M71, e71, h71⟩ := in_nA h70 (by decide) (t := 102) (n := 72) (by decide) (by decide)
  rw [e71, jb2_some]
  obtain ⟨M72, e72, h72⟩ := in_pR h71 (ci := 11) (a := 65) (j := 61) (b := 101) (by decide) (by decide) (by decide) (by decide) (by decide)
  rw [e72, Option.bind_some]
  obtain ⟨M73, e73, h73⟩ := in_nA h72 (by decide) (t := 102) (n := 72) (by decide) (by decide)
  rw [e73, jb2_some]
  obtain ⟨M74, e74, h74⟩ := in_pR h73 (ci := 11) (a := 65) (j := 62) (b := 102) (by decide) (by decide) (by decide) (by decide) (by decide)
  rw [e74, Option.bind_some]
  obtain ⟨M75, e75, h75⟩ := in_nA h74 (by decide) (t := 102) (n := 72) (by decide) (by decide)
  rw [e75, jb2_some]
  obtain ⟨M76, e76, h76⟩ := in_pR h75 (ci := 11) (a := 65) (j := 63) (b := 103) (by decide) (by decide) (by decide) (by decide) (by decide)
  rw [e76, Option.bind_some]
  obtain ⟨M77, e77, h77, d77⟩ := in_pI h76 (ci := 11) (a := 65) (j := 10) (v := nI 0) (by decide) (by decide) (by decide) (by decide) (Or.inl rfl)
  rw [e77, Option.bind_some]
  obtain ⟨M78, e78, h78, d78⟩ := in_pI h77 (ci := 11) (a := 65) (j := 51) (v := -1) (by decide) (by decide) (by decide) (by decide) (Or.inr (Or.inr ⟨rfl, rfl⟩))
  rw [e78, Option.bind_some]
  exact ⟨M78, rfl, h78, by rw [d78, rI_wI, if_pos ⟨rfl, rfl⟩]⟩
theorem W12_rfs : ∀ q ∈ rfs, q ∈ W12 := by decide +kernel
/-- at the start -/
theorem in_Sh {L : Nat} {xs : Nat → Int32} {M : jM} (h : IN L xs 103 W12 M) : Sh M := ⟨fun c h1 h2 => in_tg h h1 (by omega) (by omega), fun q hq => (h.2.1 q (W12_rfs q hq)).2, by rw [in_len h (by omega)]; omega⟩
theorem in_0 {L : Nat} {xs : Nat → Int32} : IN L xs 0 [] (jM0 L xs) := ⟨rfl, fun q hq => absurd hq (by simp), fun c i h1 _ _ => by show (if c = 0 then xs i else 0) = 0; rw [if_neg (by omega)], fun i => rfl⟩
