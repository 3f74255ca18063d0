/-! Numbers and memory, for the pure part. -/
theorem jok_n {i n : Nat} (h : i < n) (hn : n < 2 ^ 31) : jok (nI i) n = true := by
  simp [jok, nI_pos (Nat.lt_trans h hn), nI_clamp (Nat.lt_trans h hn), h]
section B1
variable {M : jM} {a n i k b ci t : Nat} {x : Int32}
theorem ldI_n (ht : tg M a = (100, n)) (h : i < n) (hn : n < 2 ^ 31) : ldI M a (nI i) = some (rI M a i) := by
  simp [ldI, ht, jok_n h hn, nI_clamp (Nat.lt_trans h hn)]
theorem ldB_n (ht : tg M a = (101, n)) (h : i < n) (hn : n < 2 ^ 31) : ldB M a (nI i) = some (rI M a i) := by
  simp [ldB, ht, jok_n h hn, nI_clamp (Nat.lt_trans h hn)]
theorem ldJ_n (ht : tg M a = (102, n)) (h : i < n) (hn : n < 2 ^ 31) : ldJ M a (nI i) = some (rL M a i) := by
  simp [ldJ, ht, jok_n h hn, nI_clamp (Nat.lt_trans h hn)]
theorem ldA_n (ht : tg M a = (t, n)) (h : i < n) (hn : n < 2 ^ 31) : ldA t M a (nI i) = rR M a i := by
  simp [ldA, ht, jok_n h hn, nI_clamp (Nat.lt_trans h hn)]
theorem ldS_n (ht : tg M 0 = (105, n)) (h : i < n) (hn : n < 2 ^ 31) : ldS M 0 (nI i) = some (rI M 0 i) := by
  simp [ldS, ht, jok_n h hn, nI_clamp (Nat.lt_trans h hn)]
theorem stI_n (ht : tg M a = (100, n)) (h : i < n) (hn : n < 2 ^ 31) : stI M a (nI i) x = some (wI M a i x) := by
  simp [stI, ht, jok_n h hn, nI_clamp (Nat.lt_trans h hn)]
theorem stB_n (ht : tg M a = (101, n)) (h : i < n) (hn : n < 2 ^ 31) : stB M a (nI i) x = some (wI M a i x.toInt8.toInt32) := by
  simp [stB, ht, jok_n h hn, nI_clamp (Nat.lt_trans h hn)]
theorem stJ_n {x : Int64} (ht : tg M a = (102, n)) (h : i < n) (hn : n < 2 ^ 31) : stJ M a (nI i) x = some (wL M a i x) := by
  simp [stJ, ht, jok_n h hn, nI_clamp (Nat.lt_trans h hn)]
theorem gI_n (ht : tg M a = (ci, 0)) : gI ci M a k = some (rI M a k) := by simp [gI, ht]
theorem gR_n (ht : tg M a = (ci, 0)) (hr : rR M a k = some b) : gR ci M a k = some b := by simp [gR, ht, hr]
theorem pI_n (ht : tg M a = (ci, 0)) : pI ci M a k x = some (wI M a k x) := by simp [pI, ht]
theorem jiv_n {τ : Type} {o : jO τ} (ht : tg M a = (ci, 0)) : jiv ci M a o = o := by simp [jiv, ht]
theorem ln_n (ht : tg M a = (t, n)) (h1 : 100 ≤ t) (h2 : t ≤ 104) : ln M a = some (nI n) := by simp [ln, ht, h1, h2]
end B1
/-- a truth value as the machine has it -/
def bI (p : Bool) : Int32 := if p then nI 1 else nI 0
theorem bI_t : bI true = nI 1 := rfl
theorem bI_f : bI false = nI 0 := rfl
theorem bI_z {p : Bool} : (bI p = 0) ↔ p = false := by cases p <;> decide
theorem bI_e {p q : Bool} : (bI p = bI q) ↔ p = q := by cases p <;> cases q <;> decide
theorem bI_1 {p : Bool} : (bI p = nI 1) ↔ p = true := by cases p <;> decide
theorem rZ_n {p : Bool} {M : jM} : rZ (bI p) M = some (bI p, M) := by cases p <;> rfl
theorem rZ_0 {M : jM} : rZ (nI 0) M = some (bI false, M) := rfl
theorem rZ_1 {M : jM} : rZ (nI 1) M = some (bI true, M) := rfl
theorem jF_is : ∃ n, jF0 = n + 900000 := ⟨100000, rfl⟩
/-- an int as an index below n -/
def ixo (x : Int32) (n : Nat) : Option Nat := if ¬ x < 0 ∧ x.toNatClampNeg < n then some x.toNatClampNeg else none
theorem ixo_some {x : Int32} {n j : Nat} (hn : n < 2 ^ 31) : ixo x n = some j ↔ j < n ∧ x = nI j := by
  unfold ixo
  constructor
  · intro h
    split at h
    · rename_i hc
      cases h
      refine ⟨hc.2, ?_⟩
      rcases pk_ix x hn with q | q | ⟨j, hj, rfl⟩
      · exact absurd q hc.1
      · exfalso
        obtain ⟨j, hj, rfl⟩ := nI_of hc.1
        rw [nI_clamp hj] at hc
        exact nI_ge hc.2 hn q
      · rw [nI_clamp (by omega)]
    · cases h
  · rintro ⟨h, rfl⟩
    rw [if_pos ⟨nI_pos (by omega), by rw [nI_clamp (by omega)]; exact h⟩, nI_clamp (by omega)]
theorem ixo_none {x : Int32} {n : Nat} (hn : n < 2 ^ 31) : ixo x n = none ↔ x < 0 ∨ nI n ≤ x := by
  constructor
  · intro h
    rcases pk_ix x hn with q | q | ⟨j, hj, rfl⟩
    · exact Or.inl q
    · exact Or.inr q
    · rw [(ixo_some hn).mpr ⟨hj, rfl⟩] at h; cases h
  · intro h
    cases hc : ixo x n with
    | none => rfl
    | some j =>
      obtain ⟨hj, rfl⟩ := (ixo_some hn).mp hc
      rcases h with q | q
      · exact absurd q (nI_pos (by omega))
      · exact absurd q (nI_ge hj hn)
/-- what has not changed: all but the ints of the cells C -/
def Ex (C : Nat → Prop) (M N : jM) : Prop := N.1 = M.1 ∧ N.2.2 = M.2.2 ∧ ∀ c, ¬ C c → N.2.1 c = M.2.1 c
theorem Ex.rf {C : Nat → Prop} {M : jM} : Ex C M M := ⟨rfl, rfl, fun _ _ => rfl⟩
theorem Ex.tr {C : Nat → Prop} {M N O : jM} (h : Ex C M N) (k : Ex C N O) : Ex C M O := ⟨k.1.trans h.1, k.2.1.trans h.2.1, fun c hc => (k.2.2 c hc).trans (h.2.2 c hc)⟩
theorem Ex.mono {C D : Nat → Prop} {M N : jM} (h : Ex C M N) (hd : ∀ c, C c → D c) : Ex D M N := ⟨h.1, h.2.1, fun c hc => h.2.2 c (fun q => hc (hd c q))⟩
theorem ex_wI {C : Nat → Prop} {M N : jM} {a k : Nat} {v : Int32} (h : Ex C M N) (ha : C a) : Ex C M (wI N a k v) := ⟨h.1, h.2.1, fun c hc => by
  have : c ≠ a := fun e => hc (e ▸ ha)
  rw [← h.2.2 c hc]
  show up2 N.2.1 a k v c = _
  funext j
  simp [up2, this]⟩
theorem ex_aI {C : Nat → Prop} {M N : jM} {a : Nat} {g : Nat → Int32} (h : Ex C M N) (ha : C a) : Ex C M (aI N a g) := ⟨h.1, h.2.1, fun c hc => by
  have : c ≠ a := fun e => hc (e ▸ ha)
  rw [← h.2.2 c hc]
  show upA N.2.1 a g c = _
  simp [upA, this]⟩
theorem ex_tg {C : Nat → Prop} {M N : jM} (h : Ex C M N) (c : Nat) : tg N c = tg M c := by unfold tg; rw [h.1]
theorem ex_rR {C : Nat → Prop} {M N : jM} (h : Ex C M N) (c k : Nat) : rR N c k = rR M c k := by unfold rR; rw [h.2.1]
theorem ex_rL {C : Nat → Prop} {M N : jM} (h : Ex C M N) (c k : Nat) : rL N c k = rL M c k := by unfold rL; rw [h.2.1]
theorem ex_rI {C : Nat → Prop} {M N : jM} (h : Ex C M N) {c : Nat} (hc : ¬ C c) (k : Nat) : rI N c k = rI M c k := by unfold rI; rw [h.2.2 c hc]
