/-! READING: the class's Nodes, their operations. -/
theorem nI_sb {a b : Nat} (h : b ≤ a) : nI a - nI b = nI (a - b) := by
  rw [show nI a = nI (a - b) + nI b by rw [nI_add, Nat.sub_add_cancel h]]
  exact Int32.add_sub_cancel _ _
/-- where the class's nodes lie -/
def PNo (c k : Nat) : Prop := (c = 32 ∧ k = 1) ∨ c = 33
section XN
variable {M : jM} {c a : Nat}
theorem x_nadd (h : Sh M) (hc : rI M 32 1 = nI c) (h8 : c < 800) {k v w x : Int32} (he : f_X4_encode k v w M = some (x, M)) : f_X4_add 32 k v w M = some (nI c, wI (wI M 33 c x) 32 1 (nI (c + 1))) := by
  unfold f_X4_add
  rw [gI_n (t32 h), Option.bind_some, hc, if_neg (nI_pos (by omega)), q32_0 h, Option.bind_some, ln_n (t33 h) (by decide) (by decide), Option.bind_some, if_neg (nI_ge h8 (by omega)), Option.bind_some, he, jb2_some, stI_n (t33 h) h8 (by omega), Option.bind_some]
  have e1 : Ey PNo M (wI M 33 c x) := ey_wI Ey.rf (Or.inr rfl)
  rw [gI_n (t32 (Sh_ey e1 h)), Option.bind_some, rI_wI, if_neg (by omega), hc, nI_add, pI_n (t32 (Sh_ey e1 h)), Option.bind_some]
  rfl
theorem enc_any (k v w : Int32) (M : jM) : ∃ x, f_X4_encode k v w M = some (x, M) := ⟨_, rfl⟩
theorem x_naddA (h : Sh M) (hc : rI M 32 1 = nI c) (h8 : c ≤ 800) (k v w : Int32) : ∃ N c', f_X4_add 32 k v w M = some (nI c, N) ∧ Ey PNo M N ∧ rI N 32 1 = nI c' ∧ c' ≤ 800 := by
  by_cases hl : c < 800
  · obtain ⟨x, hx⟩ := enc_any k v w M
    exact ⟨_, c + 1, x_nadd h hc hl hx, ey_wI (ey_wI Ey.rf (Or.inr rfl)) (Or.inl ⟨rfl, rfl⟩), by rw [rI_wI, if_pos ⟨rfl, rfl⟩], by omega⟩
  · refine ⟨M, c, ?_, Ey.rf, hc, h8⟩
    unfold f_X4_add
    rw [gI_n (t32 h), Option.bind_some, hc, if_neg (nI_pos (by omega)), q32_0 h, Option.bind_some, ln_n (t33 h) (by decide) (by decide), Option.bind_some, if_pos (nI_le (by omega) (by omega))]
    rfl
theorem x_nclose (h : Sh M) (hc : rI M 32 1 = nI c) (h8 : c ≤ 800) (ha : a < c) {v : Nat} (hv : v < 65536) (hx : rI M 33 a = nI (v + 65536)) : f_X4_close 32 (nI a) M = some ((), wI M 33 a (nI (v + 65536 * (c - a)))) := by
  unfold f_X4_close
  have e1 : (nI (v + 65536) &&& nI 65535) ||| (nI (c - a) <<< (nI 16 &&& 31)) = nI (v + 65536 * (c - a)) := by
    rw [nI_and, nI_shl (by decide) (by omega), nI_or]
    have z1 : (v + 65536) &&& 65535 = v := by
      rw [show (65535 : Nat) = 2 ^ 16 - 1 from rfl, Nat.and_two_pow_sub_one_eq_mod]
      omega
    rw [z1, Nat.or_comm, ← Nat.shiftLeft_add_eq_or_of_lt (by omega : v < 2 ^ 16), Nat.shiftLeft_eq]
    congr 1
    omega
  rw [if_neg (nI_pos (by omega)), gI_n (t32 h), Option.bind_some, hc, if_neg (nI_ge ha (by omega)), q32_0 h, Option.bind_some, ln_n (t33 h) (by decide) (by decide), Option.bind_some, if_neg (nI_ge (by omega) (by omega)), Option.bind_some, Option.bind_some, ldI_n (t33 h) (by omega) (by omega), Option.bind_some, Option.bind_some, hx, nI_sb (by omega), e1, stI_n (t33 h) (by omega) (by omega), Option.bind_some]
  rfl
theorem x_ncloseA (h : Sh M) (hc : rI M 32 1 = nI c) (h8 : c ≤ 800) (h9 : a ≤ 800) : ∃ N, f_X4_close 32 (nI a) M = some ((), N) ∧ Ey PNo M N ∧ rI N 32 1 = nI c := by
  unfold f_X4_close
  rw [if_neg (nI_pos (by omega)), gI_n (t32 h), Option.bind_some, hc]
  by_cases ha : c ≤ a
  · rw [if_pos (nI_le ha (by omega))]
    exact ⟨M, rfl, Ey.rf, hc⟩
  · rw [if_neg (nI_ge (by omega) (by omega)), q32_0 h, Option.bind_some, ln_n (t33 h) (by decide) (by decide), Option.bind_some, if_neg (nI_ge (by omega) (by omega)), Option.bind_some, Option.bind_some, ldI_n (t33 h) (by omega) (by omega), Option.bind_some, Option.bind_some, stI_n (t33 h) (by omega) (by omega), Option.bind_some]
    exact ⟨_, rfl, ey_wI Ey.rf (Or.inr rfl), by rw [rI_wI, if_neg (by omega)]; exact hc⟩
theorem ey_aI {P : Nat → Nat → Prop} {M N : jM} {b : Nat} {g : Nat → Int32} (h : Ey P M N) (ha : ∀ k, P b k) : Ey P M (aI N b g) := ⟨h.1, h.2.1, fun x i hx => by
  rw [rI_aI]
  by_cases hb : x = b
  · subst hb; exact absurd (ha i) hx
  · rw [if_neg hb]; exact h.2.2 x i hx⟩
theorem x_nins (h : Sh M) (hc : rI M 32 1 = nI c) (h8 : c < 800) (ha : a ≤ c) {k : Nat} (hk : k < 128) : ∃ N, f_X4_insert 32 (nI a) (nI k) M = some ((), N) ∧ Ey PNo M N ∧ rI N 32 1 = nI (c + 1) ∧ rI N 33 a = nI (k + 65536) ∧ (∀ i, i < a → rI N 33 i = rI M 33 i) ∧ ∀ i, a ≤ i → i < c → rI N 33 (i + 1) = rI M 33 i := by
  unfold f_X4_insert
  rw [if_neg (nI_pos (by omega)), gI_n (t32 h), Option.bind_some, hc, if_neg (nI_nlt ha (by omega)), Option.bind_some, q32_0 h, Option.bind_some, ln_n (t33 h) (by decide) (by decide), Option.bind_some, if_pos (nI_lt h8 (by omega)), Option.bind_some, Option.bind_some, Option.bind_some, nI_add, nI_sb ha]
  unfold cpI
  rw [t33 h, if_pos ⟨rfl, rfl, nI_pos (by omega), nI_pos (by omega), nI_pos (by omega), by rw [nI_clamp (by omega), nI_clamp (by omega)]; show a + (c - a) ≤ 800; omega, by rw [nI_clamp (by omega), nI_clamp (by omega)]; show a + 1 + (c - a) ≤ 800; omega, fun _ _ => rfl⟩, Option.bind_some, nI_clamp (by omega), nI_clamp (by omega), nI_clamp (by omega)]
  have e1 : Ey PNo M (aI M 33 (va_cpy (rI M 33) (rI M 33) a (a + 1) (c - a))) := ey_aI Ey.rf (fun _ => Or.inr rfl)
  have h1 := Sh_ey e1 h
  have hen := enc_n k hk 0 (by decide) (aI M 33 (va_cpy (rI M 33) (rI M 33) a (a + 1) (c - a)))
  rw [Nat.mul_zero, Nat.add_zero] at hen
  rw [q32_0 h1, Option.bind_some, hen, jb2_some, stI_n (t33 h1) (by omega) (by omega), Option.bind_some]
  have e2 : Ey PNo M (wI (aI M 33 (va_cpy (rI M 33) (rI M 33) a (a + 1) (c - a))) 33 a (nI (k + 65536))) := ey_wI e1 (Or.inr rfl)
  have h2 := Sh_ey e2 h
  rw [gI_n (t32 h2), Option.bind_some, rI_wI, if_neg (by omega), rI_aI, if_neg (by decide), hc, nI_add, pI_n (t32 h2), Option.bind_some]
  refine ⟨_, rfl, ey_wI e2 (Or.inl ⟨rfl, rfl⟩), by rw [rI_wI, if_pos ⟨rfl, rfl⟩], by rw [rI_wI, if_neg (by omega), rI_wI, if_pos ⟨rfl, rfl⟩], fun i hi => ?_, fun i h1 h2 => ?_⟩
  · rw [rI_wI, if_neg (by omega), rI_wI, if_neg (by omega), rI_aI, if_pos rfl, pk_cpy_out (by omega)]
  · rw [rI_wI, if_neg (by omega), rI_wI, if_neg (by omega), rI_aI, if_pos rfl, pk_cpy_in (by omega) (by omega)]
    congr 1
    omega
theorem x_nrem (h : Sh M) (hc : rI M 32 1 = nI c) (h8 : c ≤ 800) (ha : a < c) : ∃ N, f_X4_remove 32 (nI a) M = some ((), N) ∧ Ey PNo M N ∧ rI N 32 1 = nI (c - 1) ∧ (∀ i, i < a → rI N 33 i = rI M 33 i) ∧ ∀ i, a ≤ i → i + 1 < c → rI N 33 i = rI M 33 (i + 1) := by
  unfold f_X4_remove
  rw [if_neg (nI_pos (by omega)), gI_n (t32 h), Option.bind_some, hc, if_neg (nI_ge ha (by omega)), Option.bind_some, q32_0 h, Option.bind_some, ln_n (t33 h) (by decide) (by decide), Option.bind_some, if_pos (nI_le h8 (by omega)), Option.bind_some, Option.bind_some, Option.bind_some, nI_add, nI_sb (by omega), nI_sb (by omega)]
  unfold cpI
  rw [t33 h, if_pos ⟨rfl, rfl, nI_pos (by omega), nI_pos (by omega), nI_pos (by omega), by rw [nI_clamp (by omega), nI_clamp (by omega)]; show a + 1 + (c - a - 1) ≤ 800; omega, by rw [nI_clamp (by omega), nI_clamp (by omega)]; show a + (c - a - 1) ≤ 800; omega, fun _ _ => rfl⟩, Option.bind_some, nI_clamp (by omega), nI_clamp (by omega), nI_clamp (by omega)]
  have e1 : Ey PNo M (aI M 33 (va_cpy (rI M 33) (rI M 33) (a + 1) a (c - a - 1))) := ey_aI Ey.rf (fun _ => Or.inr rfl)
  have h1 := Sh_ey e1 h
  rw [gI_n (t32 h1), Option.bind_some, rI_aI, if_neg (by decide), hc, nI_sb (by omega), pI_n (t32 h1), Option.bind_some]
  refine ⟨_, rfl, ey_wI e1 (Or.inl ⟨rfl, rfl⟩), by rw [rI_wI, if_pos ⟨rfl, rfl⟩], fun i hi => ?_, fun i h1 h2 => ?_⟩
  · rw [rI_wI, if_neg (by omega), rI_aI, if_pos rfl, pk_cpy_out (by omega)]
  · rw [rI_wI, if_neg (by omega), rI_aI, if_pos rfl, pk_cpy_in (by omega) (by omega)]
    congr 1
    omega
theorem x_ncut (h : Sh M) (hc : rI M 32 1 = nI c) (h8 : c ≤ 800) (ha : a ≤ c) : f_X4_cutTo 32 (nI a) M = some ((), wI M 32 1 (nI a)) := by
  unfold f_X4_cutTo
  rw [gI_n (t32 h), Option.bind_some, hc, jmn_n (by omega) (by omega), jmx_n (by omega) (by omega), Nat.min_eq_left ha, Nat.zero_max, pI_n (t32 h), Option.bind_some]
  rfl
theorem x_ncount (h : Sh M) (hc : rI M 32 1 = nI c) : f_X4_count 32 M = some (nI c, M) := by
  unfold f_X4_count
  rw [gI_n (t32 h), Option.bind_some, hc]
  rfl
theorem x_nclear (h : Sh M) : f_X4_clear 32 M = some ((), wI M 32 1 (nI 0)) := by
  unfold f_X4_clear
  rw [pI_n (t32 h), Option.bind_some]
  rfl
end XN
