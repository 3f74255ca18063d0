/-! COLOURS: longs, and the class's regrouping. -/
theorem nm_mul (a b : Nat) : nI a * nI b = nI (a * b) := (Int32.ofNat_mul a b).symm
/-- the memory with other longs -/
def lz (M : jM) (l : Nat → Nat → Int64) : jM := (M.1, M.2.1, l, M.2.2.2)
/-- what has not changed: all but the ints of the cells C, and the longs -/
def El (C : Nat → Prop) (M N : jM) : Prop := ∃ l, Ex C (lz M l) N
section L1
variable {C D : Nat → Prop} {M N O : jM}
theorem El.of (h : Ex C M N) : El C M N := ⟨M.2.2.1, h⟩
theorem El.rf : El C M M := El.of Ex.rf
theorem El.tr (h : El C M N) (k : El C N O) : El C M O := by
  obtain ⟨l1, a1, a2, a3⟩ := h
  obtain ⟨l2, b1, b2, b3⟩ := k
  refine ⟨l2, b1.trans a1, ?_, fun c hc => (b3 c hc).trans (a3 c hc)⟩
  rw [b2]
  show (l2, N.2.2.2) = (l2, M.2.2.2)
  rw [a2]
  rfl
theorem El.mono (h : El C M N) (hd : ∀ c, C c → D c) : El D M N := by
  obtain ⟨l, q⟩ := h
  exact ⟨l, q.mono hd⟩
theorem el_wI {a k : Nat} {v : Int32} (h : El C M N) (ha : C a) : El C M (wI N a k v) := by
  obtain ⟨l, q⟩ := h
  exact ⟨l, ex_wI q ha⟩
theorem el_aI {a : Nat} {g : Nat → Int32} (h : El C M N) (ha : C a) : El C M (aI N a g) := by
  obtain ⟨l, q⟩ := h
  exact ⟨l, ex_aI q ha⟩
theorem el_wL {a k : Nat} {v : Int64} (h : El C M N) : El C M (wL N a k v) := by
  obtain ⟨l, a1, a2, a3⟩ := h
  refine ⟨up2 N.2.2.1 a k v, a1, ?_, a3⟩
  show (up2 N.2.2.1 a k v, N.2.2.2) = (up2 N.2.2.1 a k v, M.2.2.2)
  rw [a2]
  rfl
theorem el_tg (h : El C M N) (c : Nat) : tg N c = tg M c := by
  obtain ⟨l, q⟩ := h
  exact ex_tg q c
theorem el_rR (h : El C M N) (c k : Nat) : rR N c k = rR M c k := by
  obtain ⟨l, q⟩ := h
  exact ex_rR q c k
theorem el_rI (h : El C M N) {c : Nat} (hc : ¬ C c) (k : Nat) : rI N c k = rI M c k := by
  obtain ⟨l, q⟩ := h
  exact ex_rI q hc k
theorem Sh_el (h : El C M N) (k : Sh M) : Sh N := by
  obtain ⟨l, q⟩ := h
  exact Sh_ex q (show Sh (lz M l) from k)
theorem Wat_el {a : Nat} {u : Wd} (h : El C M N) (k : Wat M a u) (h0 : ¬ C a) (h1 : ¬ C (a + 1)) (h2 : ¬ C (a + 2)) : Wat N a u := by
  obtain ⟨l, q⟩ := h
  exact Wat_ex q (show Wat (lz M l) a u from k) h0 h1 h2
end L1
section L2
variable {M : jM}
theorem fillL_l {c L : Nat} {x : Int64} (hL : L < 2 ^ 31) : ∀ (n i : Nat) (M : jM), tg M c = (102, L) → i ≤ L → L - i < n → ∃ N, l_J7_fill_d0a16_6 n c x (nI i) (nI L) M = some ((), N) ∧ El (fun _ => False) M N ∧ (∀ k, k < L → i ≤ k → rL N c k = x) ∧ (∀ k, k < i → rL N c k = rL M c k) := by
  intro n
  induction n with
  | zero => intro i M _ _ h; omega
  | succ n ih =>
    intro i M ht hi hn
    show ∃ N, b_J7_fill_d0a16_6 (l_J7_fill_d0a16_6 n) c x (nI i) (nI L) M = some ((), N) ∧ _
    unfold b_J7_fill_d0a16_6
    by_cases hc : L ≤ i
    · rw [if_pos (nI_le hc (by omega))]
      exact ⟨M, rfl, El.rf, fun k h1 h2 => by omega, fun k _ => rfl⟩
    · rw [if_neg (nI_ge (by omega) hL), stJ_n ht (by omega) hL, Option.bind_some, nI_add]
      obtain ⟨N, h1, h2, h3, h4⟩ := ih (i + 1) (wL M c i x) ht (by omega) (by omega)
      refine ⟨N, h1, (el_wL (C := fun _ => False) El.rf).tr h2, fun k hk hik => ?_, fun k hk => ?_⟩
      · by_cases hki : k = i
        · subst hki; rw [h4 k (by omega), rL_wL]; simp
        · exact h3 k hk (by omega)
      · rw [h4 k (by omega), rL_wL, if_neg (by omega)]
theorem fillL_n {c : Nat} {x : Int64} {L : Nat} (hL : L < 800000) (ht : tg M c = (102, L)) : ∃ N, f_J7_fill_d0a16 c x M = some ((), N) ∧ El (fun _ => False) M N ∧ (∀ k, k < L → rL N c k = x) := by
  unfold f_J7_fill_d0a16
  rw [ln_n ht (by decide) (by decide), Option.bind_some]
  obtain ⟨n0, hn0⟩ := jF_is
  obtain ⟨N, h1, h2, h3, -⟩ := fillL_l (c := c) (x := x) (L := L) (by omega) jF0 0 M ht (Nat.zero_le _) (by omega)
  exact ⟨N, h1, h2, fun k hk => h3 k hk (Nat.zero_le _)⟩
theorem x_add (h : Sh M) {i w : Nat} {x : Int64} (hi : i < 72) (hw : w < 4) : f_X1_add 42 (nI i) (nI w) x M = some ((), wL M 45 (4 * i + w) (rL M 45 (4 * i + w) + x)) := by
  unfold f_X1_add
  rw [nm_mul, nI_add]
  show (if nI (4 * i + w) < 0 then _ else _) = _
  rw [if_neg (nI_pos (by omega)), q42_2 h, Option.bind_some, ln_n (t45 h) (by decide) (by decide), Option.bind_some, if_neg (nI_ge (by omega) (by decide)), Option.bind_some, ldJ_n (t45 h) (by omega) (by decide), Option.bind_some, stJ_n (t45 h) (by omega) (by decide), Option.bind_some]
  rfl
/-- the bit of a colour -/
def cbit (c : Nat) : Int64 := (1 : Int64) <<< (Int32.toInt64 (nI c &&& nI 63) &&& 63)
theorem x_put (h : Sh M) {i w c : Nat} (hi : i < 72) (hw : w < 3) (hc : c < 72) : f_X1_putInSet 42 (nI i) (nI w) (nI c) M = some ((), wL M 45 (4 * i + (w + c / 64)) (rL M 45 (4 * i + (w + c / 64)) ||| cbit c)) := by
  have h6 : c >>> 6 = c / 64 := by rw [Nat.shiftRight_eq_div_pow]
  unfold f_X1_putInSet
  rw [nm_mul, nI_add, nI_shr (by omega) (by decide), nI_add, h6, Nat.add_assoc]
  show (if nI (4 * i + (w + c / 64)) < 0 then _ else _) = _
  rw [if_neg (nI_pos (by omega)), q42_2 h, Option.bind_some, ln_n (t45 h) (by decide) (by decide), Option.bind_some, if_neg (nI_ge (by omega) (by decide)), Option.bind_some, ldJ_n (t45 h) (by omega) (by decide), Option.bind_some, stJ_n (t45 h) (by omega) (by decide), Option.bind_some]
  rfl
theorem x_colourAt (h : Sh M) {i : Nat} (hi : i < 72) : f_X1_colourAt 42 (nI i) M = some (rI M 43 i, M) := by
  unfold f_X1_colourAt
  rw [if_neg (nI_pos (by omega)), q42_0 h, Option.bind_some, ln_n (t43 h) (by decide) (by decide), Option.bind_some, if_neg (nI_ge (by omega) (by decide)), Option.bind_some, ldI_n (t43 h) (by omega) (by decide), Option.bind_some]
  rfl
/-- have two items the same signature, by the memory -/
def sgB (M : jM) (j i : Nat) : Bool := allB 4 (fun w => decide (rL M 45 (4 * j + w) = rL M 45 (4 * i + w)))
def stC (M : jM) (j i : Nat) : Bool := decide (rI M 43 j = rI M 43 i) && sgB M j i
theorem same_l (h : Sh M) {i j : Nat} (hi : i < 72) (hj : j < 72) : ∀ (n w : Nat), w ≤ 4 → 4 - w < n → l_X1_haveSameSignature_39 n 42 (nI (4 * i)) (nI (4 * j)) (nI w) M = some (bI (allB 4 (fun k => decide (k < w) || decide (rL M 45 (4 * i + k) = rL M 45 (4 * j + k)))), M) := by
  intro n
  induction n with
  | zero => intro w _ q; omega
  | succ n ih =>
    intro w hw hn
    show b_X1_haveSameSignature_39 (l_X1_haveSameSignature_39 n) 42 (nI (4 * i)) (nI (4 * j)) (nI w) M = _
    unfold b_X1_haveSameSignature_39
    by_cases hc : 4 ≤ w
    · rw [if_pos (nI_le hc (by omega)), allB_end hc]
      exact rZ_n (p := true)
    · rw [if_neg (nI_ge (by omega) (by decide)), q42_2 h, Option.bind_some, nI_add, ldJ_n (t45 h) (by omega) (by decide), Option.bind_some, Option.bind_some, nI_add, ldJ_n (t45 h) (by omega) (by decide), Option.bind_some, allB_at (f := fun k => decide (rL M 45 (4 * i + k) = rL M 45 (4 * j + k))) (by omega)]
      by_cases he : rL M 45 (4 * i + w) = rL M 45 (4 * j + w)
      · rw [if_pos ((lg_cmp_eq _ _).mpr he), nI_add, ih (w + 1) (by omega) (by omega), decide_eq_true he, Bool.true_and]
      · rw [if_neg (fun q => he ((lg_cmp_eq _ _).mp q)), decide_eq_false he, Bool.false_and]
        exact rZ_n (p := false)
theorem x_same (h : Sh M) {i j : Nat} (hi : i < 72) (hj : j < 72) : f_X1_haveSameSignature 42 (nI i) (nI j) M = some (bI (sgB M i j), M) := by
  unfold f_X1_haveSameSignature
  rw [nm_mul, nm_mul]
  show (if nI (4 * i) < 0 then _ else _) = _
  have hm : jmx (nI (4 * i)) (nI (4 * j)) = nI (max (4 * i) (4 * j)) := by
    unfold jmx
    by_cases q : 4 * i < 4 * j
    · rw [if_pos (nI_lt q (by omega)), show max (4 * i) (4 * j) = 4 * j by omega]
    · rw [if_neg (nI_nlt (by omega) (by omega)), show max (4 * i) (4 * j) = 4 * i by omega]
  rw [if_neg (nI_pos (by omega)), if_neg (nI_pos (by omega)), q42_2 h, Option.bind_some, ln_n (t45 h) (by decide) (by decide), Option.bind_some, hm, nI_add, if_pos (nI_le (by omega) (by decide))]
  obtain ⟨n0, hn0⟩ := jF_is
  rw [same_l h hi hj jF0 0 (by decide) (by omega), allB_0]
  rfl
theorem firstLike_l (h : Sh M) {i : Nat} (hi : i < 72) : ∀ (n t : Nat), t ≤ i → i - t < n → l_X1_firstLike_2 n 42 (nI i) (nI t) M = some (nI ((ff (fun j => stC M j i) t (i - t)).getD i), M) := by
  intro n
  induction n with
  | zero => intro t _ q; omega
  | succ n ih =>
    intro t ht hn
    show b_X1_firstLike_2 (l_X1_firstLike_2 n) 42 (nI i) (nI t) M = _
    unfold b_X1_firstLike_2
    by_cases hc : i ≤ t
    · rw [if_pos (nI_le hc (by omega)), show i - t = 0 by omega]
      rfl
    · rw [if_neg (nI_ge (by omega) (by omega)), jiv_n (t42 h), x_colourAt h (by omega), jb2_some, jiv_n (t42 h), x_colourAt h hi, jb2_some, show i - t = (i - (t + 1)) + 1 by omega]
      unfold ff
      have hs : stC M t i = (decide (rI M 43 t = rI M 43 i) && sgB M t i) := rfl
      by_cases he : rI M 43 t = rI M 43 i
      · rw [decide_eq_true he, Bool.true_and] at hs
        rw [if_pos he, jiv_n (t42 h), x_same h (by omega) hi, jb2_some, hs]
        cases hg : sgB M t i with
        | true => rw [if_neg (show ¬ bI true = 0 by decide), if_pos rfl]; rfl
        | false =>
          rw [if_pos (show bI false = 0 from rfl), if_neg (by decide)]
          unfold j_X1_firstLike_31
          rw [nI_add, ih (t + 1) (by omega) (by omega)]
      · rw [decide_eq_false he, Bool.false_and] at hs
        rw [if_neg he, hs, if_neg (by decide)]
        unfold j_X1_firstLike_31
        rw [nI_add, ih (t + 1) (by omega) (by omega)]
/-- the class's sorting: an item has the sort of the first one like it -/
def rg (St : Nat → Nat → Bool) : Nat → Nat × (Nat → Nat)
  | 0 => (0, fun _ => 0)
  | i + 1 => if (ff (fun j => St j i) 0 i).isNone = true then ((rg St i).1 + 1, up1 (rg St i).2 i (rg St i).1) else ((rg St i).1, up1 (rg St i).2 i ((rg St i).2 ((ff (fun j => St j i) 0 i).getD i)))
theorem rg_congr {S T : Nat → Nat → Bool} : ∀ n, (∀ j i, j < n → i < n → S j i = T j i) → rg S n = rg T n
  | 0, _ => rfl
  | n + 1, h => by
    have e := rg_congr n (fun j i hj hi => h j i (by omega) (by omega))
    have f : ff (fun j => S j n) 0 n = ff (fun j => T j n) 0 n := ff_congr (fun k _ hk => h k n (by omega) (by omega))
    simp only [rg, e, f]
theorem rg_le (S : Nat → Nat → Bool) : ∀ n, (rg S n).1 ≤ n ∧ ∀ q, q < n → (rg S n).2 q < (rg S n).1
  | 0 => ⟨Nat.le_refl _, fun q hq => absurd hq (Nat.not_lt_zero q)⟩
  | n + 1 => by
    obtain ⟨h1, h2⟩ := rg_le S n
    simp only [rg]
    cases hf : ff (fun j => S j n) 0 n with
    | none =>
      simp only [Option.isNone_none, if_true]
      refine ⟨by omega, fun q hq => ?_⟩
      unfold up1; split
      · omega
      · have := h2 q (by omega); omega
    | some k =>
      have := ff_some hf
      simp only [Option.isNone_some, Bool.false_eq_true, if_false, Option.getD_some]
      refine ⟨by omega, fun q hq => ?_⟩
      unfold up1; split
      · exact h2 k (by omega)
      · exact h2 q (by omega)
def C4 (c : Nat) : Prop := 42 ≤ c ∧ c ≤ 46
theorem stC_ex {M N : jM} {C : Nat → Prop} (e : Ex C M N) (h3 : ¬ C 43) (j i : Nat) : stC N j i = stC M j i := by
  unfold stC sgB
  rw [ex_rI e h3, ex_rI e h3]
  simp only [ex_rL e]
theorem regroup_l {St : Nat → Nat → Bool} {n : Nat} (hn : n ≤ 72) : ∀ (f i : Nat) (M : jM), Sh M → i ≤ n → n - i < f → rI M 42 4 = nI n → rI M 42 6 = nI (rg St i).1 → (∀ k, k < i → rI M 44 k = nI ((rg St i).2 k)) → (∀ j q, j < n → q < n → stC M j q = St j q) → ∃ N, l_X1_regroup_7 f 42 (nI i) M = some ((), N) ∧ Ex (fun c => c = 42 ∨ c = 43 ∨ c = 44) M N ∧ (∀ k, k ≠ 6 → rI N 42 k = rI M 42 k) ∧ rI N 42 6 = nI (rg St n).1 ∧ (∀ k, k < n → rI N 43 k = nI ((rg St n).2 k)) := by
  intro f
  induction f with
  | zero => intro i M _ _ q; omega
  | succ f ih =>
    intro i M h hi hf h4 h6 hc hs
    show ∃ N, b_X1_regroup_7 (l_X1_regroup_7 f) 42 (nI i) M = some ((), N) ∧ _
    unfold b_X1_regroup_7
    rw [gI_n (t42 h), Option.bind_some, h4]
    by_cases hin : n ≤ i
    · obtain rfl : i = n := by omega
      rw [if_pos (nI_le hin (by omega))]
      unfold j_X1_regroup_80
      rw [q42_1 h, Option.bind_some, q42_0 h, Option.bind_some, Option.bind_some, ln_n (t43 h) (by decide) (by decide), Option.bind_some]
      have hcp : cpI 100 M 44 (nI 0) 43 (nI 0) (nI 72) = some (aI M 43 (va_cpy (rI M 44) (rI M 43) 0 0 72)) := by
        unfold cpI
        rw [t44 h, t43 h]
        rw [if_pos ⟨rfl, rfl, by decide, by decide, by decide, by decide, by decide, fun _ _ => rfl⟩]
        rfl
      rw [hcp, Option.bind_some]
      refine ⟨_, rfl, ex_aI Ex.rf (Or.inr (Or.inl rfl)), fun k _ => rfl, h6, fun k hk => ?_⟩
      show va_cpy (rI M 44) (rI M 43) 0 0 72 k = _
      unfold va_cpy
      rw [if_pos ⟨by omega, by omega⟩, ← hc k hk]
      simp
    · rw [if_neg (nI_ge (by omega) (by omega)), q42_1 h, Option.bind_some, ln_n (t44 h) (by decide) (by decide), Option.bind_some, if_neg (nI_ge (by omega) (by decide)), jiv_n (t42 h)]
      obtain ⟨n0, hn0⟩ := jF_is
      unfold f_X1_firstLike
      rw [firstLike_l h (by omega) jF0 0 (by omega) (by omega), jb2_some, Nat.sub_zero, ff_congr (g := fun j => St j i) (fun k _ hk => hs k i (by omega) (by omega))]
      have hrg : rg St (i + 1) = if (ff (fun j => St j i) 0 i).isNone = true then ((rg St i).1 + 1, up1 (rg St i).2 i (rg St i).1) else ((rg St i).1, up1 (rg St i).2 i ((rg St i).2 ((ff (fun j => St j i) 0 i).getD i))) := rfl
      unfold j_X1_regroup_54 j_X1_regroup_74
      cases hff : ff (fun j => St j i) 0 i with
      | none =>
        rw [hff] at hrg
        rw [Option.getD_none, if_neg (nI_pos (by omega)), if_pos (nI_le (Nat.le_refl i) (by omega)), q42_1 h, Option.bind_some, gI_n (t42 h), Option.bind_some, h6, stI_n (t44 h) (by omega) (by decide), Option.bind_some]
        have e1 : Ex (fun c => c = 42 ∨ c = 43 ∨ c = 44) M (wI M 44 i (nI (rg St i).1)) := ex_wI Ex.rf (Or.inr (Or.inr rfl))
        have r1 : rI (wI M 44 i (nI (rg St i).1)) 42 6 = nI (rg St i).1 := by rw [rI_wI, if_neg (by omega), h6]
        rw [gI_n (t42 (Sh_ex e1 h)), Option.bind_some, r1, pI_n (t42 (Sh_ex e1 h)), Option.bind_some, nI_add, nI_add]
        have e2 : Ex (fun c => c = 42 ∨ c = 43 ∨ c = 44) M (wI (wI M 44 i (nI (rg St i).1)) 42 6 (nI ((rg St i).1 + 1))) := ex_wI e1 (Or.inl rfl)
        have e3 : Ex (fun c => c = 42 ∨ c = 44) M (wI (wI M 44 i (nI (rg St i).1)) 42 6 (nI ((rg St i).1 + 1))) := ex_wI (ex_wI Ex.rf (Or.inr rfl)) (Or.inl rfl)
        obtain ⟨N, a1, a2, a3, a4, a5⟩ := ih (i + 1) (wI (wI M 44 i (nI (rg St i).1)) 42 6 (nI ((rg St i).1 + 1))) (Sh_ex e2 h) (by omega) (by omega) (by rw [rI_wI, if_neg (by omega), rI_wI, if_neg (by omega), h4]) (by rw [rI_wI, if_pos ⟨rfl, rfl⟩, hrg]; rfl) (fun k hk => by
          rw [rI_wI, if_neg (by omega), rI_wI, hrg]
          show _ = nI (up1 (rg St i).2 i (rg St i).1 k)
          unfold up1
          by_cases hki : k = i
          · rw [if_pos ⟨rfl, hki⟩, if_pos hki]
          · rw [if_neg (fun q => hki q.2), if_neg hki, hc k (by omega)]) (fun j q hj hq => by rw [stC_ex e3 (by omega)]; exact hs j q hj hq)
        refine ⟨N, a1, e2.tr a2, fun k hk => ?_, a4, a5⟩
        rw [a3 k hk, rI_wI, if_neg (fun q => hk q.2), rI_wI, if_neg (by omega)]
      | some j =>
        have hj := ff_some hff
        rw [hff] at hrg
        rw [Option.getD_some, if_neg (nI_pos (by omega)), if_neg (nI_ge (by omega) (by omega)), q42_1 h, Option.bind_some, Option.bind_some, ldI_n (t44 h) (by omega) (by decide), Option.bind_some, stI_n (t44 h) (by omega) (by decide), Option.bind_some, hc j (by omega), nI_add]
        have e3 : Ex (fun c => c = 42 ∨ c = 44) M (wI M 44 i (nI ((rg St i).2 j))) := ex_wI Ex.rf (Or.inr rfl)
        have e2 : Ex (fun c => c = 42 ∨ c = 43 ∨ c = 44) M (wI M 44 i (nI ((rg St i).2 j))) := ex_wI Ex.rf (Or.inr (Or.inr rfl))
        obtain ⟨N, a1, a2, a3, a4, a5⟩ := ih (i + 1) (wI M 44 i (nI ((rg St i).2 j))) (Sh_ex e2 h) (by omega) (by omega) (by rw [rI_wI, if_neg (by omega), h4]) (by rw [rI_wI, if_neg (by omega), hrg, h6]; rfl) (fun k hk => by
          rw [rI_wI, hrg]
          show _ = nI (up1 (rg St i).2 i ((rg St i).2 j) k)
          unfold up1
          by_cases hki : k = i
          · rw [if_pos ⟨rfl, hki⟩, if_pos hki]
          · rw [if_neg (fun q => hki q.2), if_neg hki, hc k (by omega)]) (fun j q hj hq => by rw [stC_ex e3 (by omega)]; exact hs j q hj hq)
        refine ⟨N, a1, e2.tr a2, fun k hk => ?_, a4, a5⟩
        rw [a3 k hk, rI_wI, if_neg (by omega)]
theorem x_regroup (h : Sh M) {St : Nat → Nat → Bool} {n : Nat} (hn : n ≤ 72) (h4 : rI M 42 4 = nI n) (hs : ∀ j q, j < n → q < n → stC M j q = St j q) : ∃ N, f_X1_regroup 42 M = some ((), N) ∧ Ex (fun c => c = 42 ∨ c = 43 ∨ c = 44) M N ∧ (∀ k, k ≠ 6 → rI N 42 k = rI M 42 k) ∧ rI N 42 6 = nI (rg St n).1 ∧ (∀ k, k < n → rI N 43 k = nI ((rg St n).2 k)) := by
  unfold f_X1_regroup
  rw [pI_n (t42 h), Option.bind_some]
  obtain ⟨n0, hn0⟩ := jF_is
  have e3 : Ex (fun c => c = 42) M (wI M 42 6 (nI 0)) := ex_wI Ex.rf rfl
  have e2 : Ex (fun c => c = 42 ∨ c = 43 ∨ c = 44) M (wI M 42 6 (nI 0)) := ex_wI Ex.rf (Or.inl rfl)
  obtain ⟨N, a1, a2, a3, a4, a5⟩ := regroup_l (St := St) hn jF0 0 (wI M 42 6 (nI 0)) (Sh_ex e2 h) (by omega) (by omega) (by rw [rI_wI, if_neg (by omega), h4]) (by rw [rI_wI, if_pos ⟨rfl, rfl⟩]; rfl) (fun k hk => by omega) (fun j q hj hq => by rw [stC_ex e3 (by omega)]; exact hs j q hj hq)
  refine ⟨N, a1, e2.tr a2, fun k hk => ?_, a4, a5⟩
  rw [a3 k hk, rI_wI, if_neg (fun q => hk q.2)]
end L2
