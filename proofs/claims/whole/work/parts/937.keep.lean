/-! SENTENCES: the class keeps one. -/
/-- a cell more, t; nothing else changed, but for that cell -/
def Nw1 (t : jT) (M N : jM) : Prop := N.1 = M.1 ++ [t] ∧ ∀ c k, c ≠ M.1.length → rI N c k = rI M c k ∧ rR N c k = rR M c k ∧ rL N c k = rL M c k
theorem nw1_tg {t : jT} {M N : jM} (h : Nw1 t M N) {c : Nat} (hc : c < M.1.length) : tg N c = tg M c := by
  rw [← tg_nw_lt (t := t) hc]
  unfold tg
  rw [h.1]
  rfl
theorem nw1_tn {t : jT} {M N : jM} (h : Nw1 t M N) : tg N M.1.length = t := by
  rw [← tg_nw_eq (M := M) (t := t)]
  unfold tg
  rw [h.1]
  rfl
theorem nw1_ln {t : jT} {M N : jM} (h : Nw1 t M N) : N.1.length = M.1.length + 1 := by rw [h.1]; simp
theorem Sh_nw1 {t : jT} {M N : jM} (h : Nw1 t M N) (k : Sh M) : Sh N := by
  have h104 := k.2.2
  refine ⟨fun c h1 h2 => by rw [nw1_tg h (by omega)]; exact k.1 c h1 h2, fun q hq => ?_, by rw [nw1_ln h]; omega⟩
  have hb : q.1 < 104 := by
    have : ∀ q ∈ rfs, q.1 < 104 := by decide
    exact this q hq
  rw [(h.2 _ _ (by omega)).2.1]
  exact k.2.1 q hq
theorem fit8 : ∀ v, v < 128 → jfit 101 (nI v) = true := by decide +kernel
section KP
variable {M : jM}
theorem copy_100 {c L n : Nat} (hc : c < M.1.length) (ht : tg M c = (100, L)) (hn : n < L) (hL : L ≤ 2000) : ∃ N, f_J7_copyOf_59c91 c (nI n) M = some (M.1.length, N) ∧ Nw1 (100, n) M N ∧ ∀ k, k < n → rI N M.1.length k = rI M c k := by
  unfold f_J7_copyOf_59c91 nA
  rw [ln_n ht (by decide) (by decide), Option.bind_some, if_neg (fun z => by have := (nI_eq (by omega) (by omega)).mp z; omega), if_pos ⟨nI_pos (by omega), by rw [nI_clamp (by omega)]; omega⟩, jb2_some, nI_clamp (by omega)]
  have t1 : tg (nw M (100, n)) c = (100, L) := by rw [tg_nw_lt hc]; exact ht
  have t2 : tg (nw M (100, n)) M.1.length = (100, n) := tg_nw_eq
  rw [ln_n t1 (by decide) (by decide), Option.bind_some, jmn_n (by omega) (by omega), Nat.min_eq_right (by omega)]
  unfold cpI
  rw [t1, t2, if_pos ⟨rfl, rfl, by decide, by decide, nI_pos (by omega), by rw [nI_clamp (by omega), nI_clamp (by omega)]; show 0 + n ≤ L; omega, by rw [nI_clamp (by omega), nI_clamp (by omega)]; show 0 + n ≤ n; omega, fun _ _ => rfl⟩, Option.bind_some, nI_clamp (by omega), nI_clamp (by omega)]
  refine ⟨_, rfl, ⟨rfl, fun x k hx => ⟨?_, ?_, ?_⟩⟩, fun k hk => ?_⟩
  · rw [rI_aI, if_neg hx, rI_nw, if_neg hx]
  · show rR (nw M (100, n)) x k = _
    rw [rR_nw, if_neg hx]
  · show rL (nw M (100, n)) x k = _
    rw [rL_nw, if_neg hx]
  · rw [rI_aI, if_pos rfl, pk_cpy_in (Nat.zero_le _) (by omega), rI_nw, if_neg (by omega), Nat.zero_add, Nat.sub_zero]
theorem copy_101 {c L n : Nat} (hc : c < M.1.length) (ht : tg M c = (101, L)) (hn : n < L) (hL : L ≤ 2000) (hv : ∀ k, k < n → ∃ v, v < 128 ∧ rI M c k = nI v) : ∃ N, f_J7_copyOf_9075b c (nI n) M = some (M.1.length, N) ∧ Nw1 (101, n) M N ∧ ∀ k, k < n → rI N M.1.length k = rI M c k := by
  unfold f_J7_copyOf_9075b nA
  rw [ln_n ht (by decide) (by decide), Option.bind_some, if_neg (fun z => by have := (nI_eq (by omega) (by omega)).mp z; omega), if_pos ⟨nI_pos (by omega), by rw [nI_clamp (by omega)]; omega⟩, jb2_some, nI_clamp (by omega)]
  have t1 : tg (nw M (101, n)) c = (101, L) := by rw [tg_nw_lt hc]; exact ht
  have t2 : tg (nw M (101, n)) M.1.length = (101, n) := tg_nw_eq
  rw [ln_n t1 (by decide) (by decide), Option.bind_some, jmn_n (by omega) (by omega), Nat.min_eq_right (by omega)]
  unfold cpI
  rw [t1, t2, if_pos ⟨rfl, rfl, by decide, by decide, nI_pos (by omega), by rw [nI_clamp (by omega), nI_clamp (by omega)]; show 0 + n ≤ L; omega, by rw [nI_clamp (by omega), nI_clamp (by omega)]; show 0 + n ≤ n; omega, fun i hi => by
    rw [nI_clamp (by omega)] at hi ⊢
    rw [rI_nw, if_neg (by omega), Nat.zero_add]
    obtain ⟨v, h1, h2⟩ := hv i hi
    rw [h2]
    exact fit8 v h1⟩, Option.bind_some, nI_clamp (by omega), nI_clamp (by omega)]
  refine ⟨_, rfl, ⟨rfl, fun x k hx => ⟨?_, ?_, ?_⟩⟩, fun k hk => ?_⟩
  · rw [rI_aI, if_neg hx, rI_nw, if_neg hx]
  · show rR (nw M (101, n)) x k = _
    rw [rR_nw, if_neg hx]
  · show rL (nw M (101, n)) x k = _
    rw [rL_nw, if_neg hx]
  · rw [rI_aI, if_pos rfl, pk_cpy_in (Nat.zero_le _) (by omega), rI_nw, if_neg (by omega), Nat.zero_add, Nat.sub_zero]
theorem jmx_0 {n : Nat} (h : n < 2 ^ 31) : jmx (nI 0) (nI n) = nI n := by rw [jmx_n (by decide) h, Nat.max_eq_right (Nat.zero_le _)]
theorem x_copy (h : Sh M) {n : Nat} (hn : rI M 32 1 = nI n) (h8 : n < 800) : ∃ N, f_X4_copy 32 M = some (M.1.length, N) ∧ Nw1 (100, n) M N ∧ ∀ k, k < n → rI N M.1.length k = rI M 33 k := by
  have h104 := h.2.2
  unfold f_X4_copy
  obtain ⟨N, p1, p2, p3⟩ := copy_100 (c := 33) (by omega) (t33 h) h8 (by decide)
  rw [q32_0 h, Option.bind_some, gI_n (t32 h), Option.bind_some, hn, Option.bind_some, ln_n (t33 h) (by decide) (by decide), Option.bind_some, jmn_n (by omega) (by omega), Nat.min_eq_left (by omega), jmx_0 (by omega), p1, jb2_some]
  exact ⟨N, rfl, p2, p3⟩
theorem x_write (h : Sh M) {nc : Nat} {f : Fm} (hnc : 104 ≤ nc) (hncl : nc < M.1.length) (hf : wf 0 0 f) (hsz : sz f ≤ 600) (hdp : dp f ≤ 30) (hL : (tx f).length ≤ 1299) (ht : tg M nc = (100, sz f)) (hN : Nx (rI M nc) 0 0 f) : ∃ N M2, f_X10_write 34 nc M = some (M.1.length, N) ∧ Ex CY M M2 ∧ Nw1 (101, (tx f).length) M2 N ∧ ∀ k, k < (tx f).length → rI N M.1.length k = nI ((tx f).getD k 0) := by
  have h104 := h.2.2
  unfold f_X10_write
  rw [pI_n (t34 h), Option.bind_some]
  generalize hM1 : wI M 34 1 (nI 0) = M1
  have e1 : Ex CY M M1 := by rw [← hM1]; exact ex_wI Ex.rf (Or.inl rfl)
  have h1 := Sh_ex e1 h
  obtain ⟨M2, p1, p2⟩ := (yp_all (nc := nc) (LN := sz f) hnc (by omega) f 0).1 hf false 0 jR0 0 0 0 M1 ⟨h1, by rw [ex_tg e1]; exact ht⟩ (by show dp f < 40; omega) (by omega) (by omega) (Nx_congr f 0 0 0 (fun i _ => ex_rI e1 (by unfold CY; omega) _) hN) (by rw [← hM1, rI_wI, if_pos ⟨rfl, rfl⟩]) (by show 0 + (tx f).length ≤ 1300; omega)
  have e2 := e1.tr p2.1
  have h2 := Sh_ex e2 h
  have l2 : rI M2 34 1 = nI (tx f).length := by rw [p2.2.1, Nat.zero_add]; rfl
  have v2 : ∀ k, k < (tx f).length → rI M2 35 k = nI ((tx f).getD k 0) := fun k hk => by
    have := p2.2.2.2 k hk
    rw [Nat.zero_add] at this
    exact this
  have ln2 : M2.1.length = M.1.length := by rw [e2.1]
  obtain ⟨N, s1, s2, s3⟩ := copy_101 (M := M2) (c := 35) (n := (tx f).length) (by omega) (t35 h2) (by omega) (by decide) (fun k hk => ⟨_, tx_128 hf k, v2 k hk⟩)
  rw [ln2] at s1 s3
  rw [jiv_n (t34 h1), show nI 0 = bI false from rfl]
  show ∃ N M2, jb2 (f_X10_writeFrom jR0 34 nc (nI 0) (bI false) (nI 0) M1) _ = _ ∧ _
  rw [p1, jb2_some, q34_0 h2, Option.bind_some, gI_n (t34 h2), Option.bind_some, l2, Option.bind_some, ln_n (t35 h2) (by decide) (by decide), Option.bind_some, jmn_n (by omega) (by omega), Nat.min_eq_left (by omega), show bI false = nI 0 from rfl, jmx_0 (by omega), s1, jb2_some]
  exact ⟨N, M2, rfl, e2, s2, fun k hk => by rw [s3 k hk, v2 k hk]⟩
end KP
