/-! ASKING: the reference's steps down and up. -/
def hC (s wi b F g : Nat) (is : Bool) (M : jM) : jO Int32 := jb2 (l_X12_nextAsked_10 g 65 (nI wi) (nI b) (bI is) M) fun x M' => l_X12_holds_37 F 65 (nI s) (nI wi) (nI b) x M'
def HR (D q : Nat) (M N : jM) : Prop := Ey PH M N ∧ (∀ j, j < D → rI N 88 j = rI M 88 j ∧ rI N 89 j = rI M 89 j ∧ rI N 90 j = rI M 90 j) ∧ (∀ j, j < q → rI N 92 j = rI M 92 j) ∧ rI N 65 44 = rI M 65 44
theorem HR.tr {D q : Nat} {M N O : jM} (h : HR D q M N) (k : HR D q N O) : HR D q M O := ⟨h.1.tr k.1, fun j hj => by
  obtain ⟨a1, a2, a3⟩ := h.2.1 j hj
  obtain ⟨b1, b2, b3⟩ := k.2.1 j hj
  exact ⟨b1.trans a1, b2.trans a2, b3.trans a3⟩, fun j hj => (k.2.2.1 j hj).trans (h.2.2.1 j hj), k.2.2.2.trans h.2.2.2⟩
theorem HR.le {D q D' q' : Nat} {M N : jM} (h : HR D q M N) (h1 : D' ≤ D) (h2 : q' ≤ q) : HR D' q' M N := ⟨h.1, fun j hj => h.2.1 j (by omega), fun j hj => h.2.2.1 j (by omega), h.2.2.2⟩
theorem hr_deep {D q D' : Nat} {M : jM} : HR D q M (wI M 65 38 (nI D')) := ⟨ey_wI Ey.rf (by unfold PH; omega), fun j _ => ⟨by rw [rI_wI, if_neg (by omega)], by rw [rI_wI, if_neg (by omega)], by rw [rI_wI, if_neg (by omega)]⟩, fun j _ => by rw [rI_wI, if_neg (by omega)], by rw [rI_wI, if_neg (by omega)]⟩
section HU
variable {ws : Nat → Wd} {wi b D : Nat} {M : jM}
theorem u_250 {k10 : Nat → Int32 → Int32 → Int32 → jM → jO Int32} {x y z : Int32} (h : Sh M) (hd : rI M 65 38 = nI (D + 1)) : j_X12_nextAsked_250 k10 65 x y z M = k10 65 x y z (wI M 65 38 (nI D)) := by
  unfold j_X12_nextAsked_250
  rw [gI_n (t65 h), Option.bind_some, hd, pk_sub (by omega), pI_n (t65 h), Option.bind_some]
  rfl
theorem u_head {g k0 K : Nat} {is : Bool} (h : Sh M) (hd : rI M 65 38 = nI (D + 1)) (hD : D < 64) (hn : rI M 88 D = nI k0) (hk : b + k0 < 12000) (hK : rI M 76 (b + k0) = nI K) (hK6 : K < 6) :
    l_X12_nextAsked_10 (g + 1) 65 (nI wi) (nI b) (bI is) M = if K = 1 then l_X12_nextAsked_10 g 65 (nI wi) (nI b) (bI (!is)) (wI M 65 38 (nI D)) else if K = 4 then j_X12_nextAsked_103 (l_X12_nextAsked_10 g) 65 (nI wi) (nI b) (bI is) (nI (b + k0)) (bI is) (nI 1) M else if K = 5 then j_X12_nextAsked_103 (l_X12_nextAsked_10 g) 65 (nI wi) (nI b) (bI is) (nI (b + k0)) (bI is) (nI 0) M else if K = 2 then j_X12_nextAsked_182 (l_X12_nextAsked_10 g) 65 (nI wi) (nI b) (bI is) (nI k0) (nI (b + k0)) (bI is) (nI 1) M else j_X12_nextAsked_182 (l_X12_nextAsked_10 g) 65 (nI wi) (nI b) (bI is) (nI k0) (nI (b + k0)) (bI is) (nI 0) M := by
  show b_X12_nextAsked_10 (l_X12_nextAsked_10 g) 65 (nI wi) (nI b) (bI is) M = _
  unfold b_X12_nextAsked_10 j_X12_nextAsked_58 j_X12_nextAsked_85
  have ld : ldB M 76 (nI (b + k0)) = some (nI K) := by rw [ldB_n (t76 h) hk (by decide), hK]
  rw [gI_n (t65 h), Option.bind_some, hd, if_neg (nI_nle (by omega) (by omega)), q65_39 h, Option.bind_some, Option.bind_some, pk_sub (by omega), show D + 1 - 1 = D by omega, ldI_n (t88 h) hD (by decide), Option.bind_some, hn, nI_add]
  show ((gR 11 M 65 19).bind fun r7 => _) = _
  rw [q65_19 h]
  simp only [Option.bind_some]
  rw [ld]
  simp only [Option.bind_some]
  have ne : ∀ j : Nat, j < 6 → K ≠ j → ¬ nI K = nI j := fun j hj e z => e ((nI_eq (by omega) (by omega)).mp z)
  by_cases h1 : K = 1
  · rw [if_pos (by rw [h1]), if_pos h1, u_250 h hd, u_250 h hd]
    cases is <;> rfl
  · rw [if_neg (ne 1 (by decide) h1), if_neg h1]
    by_cases h4 : K = 4
    · rw [if_pos (by rw [h4]), if_pos h4, if_pos (by rw [h4])]
    · rw [if_neg (ne 4 (by decide) h4), if_neg h4]
      by_cases h5 : K = 5
      · rw [if_pos (by rw [h5]), if_pos h5, if_neg (ne 4 (by decide) h4)]
      · rw [if_neg (ne 5 (by decide) h5), if_neg h5]
        by_cases h2 : K = 2
        · rw [if_pos (by rw [h2]), if_pos h2]
        · rw [if_neg (ne 2 (by decide) h2), if_neg h2]
theorem u_list {g k0 : Nat} {is so : Bool} (h : Sh M) (hd : rI M 65 38 = nI (D + 1)) (hD : D < 64) (hn : rI M 88 D = nI k0) (hk : b + k0 < 12000) (hK : rI M 76 (b + k0) = nI (if so = true then 5 else 4)) : l_X12_nextAsked_10 (g + 1) 65 (nI wi) (nI b) (bI is) M = j_X12_nextAsked_103 (l_X12_nextAsked_10 g) 65 (nI wi) (nI b) (bI is) (nI (b + k0)) (bI is) (bI (!so)) M := by
  cases so with
  | true => rw [u_head (K := 5) h hd hD hn hk hK (by decide)]; rfl
  | false => rw [u_head (K := 4) h hd hD hn hk hK (by decide)]; rfl
theorem u_quant {g k0 : Nat} {is so : Bool} (h : Sh M) (hd : rI M 65 38 = nI (D + 1)) (hD : D < 64) (hn : rI M 88 D = nI k0) (hk : b + k0 < 12000) (hK : rI M 76 (b + k0) = nI (if so = true then 3 else 2)) : l_X12_nextAsked_10 (g + 1) 65 (nI wi) (nI b) (bI is) M = j_X12_nextAsked_182 (l_X12_nextAsked_10 g) 65 (nI wi) (nI b) (bI is) (nI k0) (nI (b + k0)) (bI is) (bI (!so)) M := by
  cases so with
  | true => rw [u_head (K := 3) h hd hD hn hk hK (by decide)]; rfl
  | false => rw [u_head (K := 2) h hd hD hn hk hK (by decide)]; rfl
theorem u_pop_l {k10 : Nat → Int32 → Int32 → Int32 → jM → jO Int32} {x y v7 : Int32} {so : Bool} (h : Sh M) (hd : rI M 65 38 = nI (D + 1)) : j_X12_nextAsked_103 k10 65 x y (bI so) v7 (bI so) (bI (!so)) M = k10 65 x y (bI so) (wI M 65 38 (nI D)) := by
  unfold j_X12_nextAsked_103
  rw [if_neg (by cases so <;> decide), u_250 h hd]
theorem u_pop_q {k10 : Nat → Int32 → Int32 → Int32 → jM → jO Int32} {x y v6 v7 : Int32} {so : Bool} (h : Sh M) (hd : rI M 65 38 = nI (D + 1)) : j_X12_nextAsked_182 k10 65 x y (bI so) v6 v7 (bI so) (bI (!so)) M = k10 65 x y (bI so) (wI M 65 38 (nI D)) := by
  unfold j_X12_nextAsked_182
  rw [if_neg (by cases so <;> decide), u_250 h hd]
theorem u_end_l {k10 : Nat → Int32 → Int32 → Int32 → jM → jO Int32} {x y : Int32} {k0 e : Nat} {is : Bool} (h : Sh M) (hd : rI M 65 38 = nI (D + 1)) (hD : D < 64) (hk : b + k0 < 12000) (h9 : rI M 90 D = nI e) (he : rI M 79 (b + k0) = nI e) : j_X12_nextAsked_103 k10 65 x y (bI is) (nI (b + k0)) (bI is) (bI is) M = k10 65 x y (bI is) (wI M 65 38 (nI D)) := by
  unfold j_X12_nextAsked_103
  rw [if_pos rfl, q65_41 h, Option.bind_some, gI_n (t65 h), Option.bind_some, hd, pk_sub (by omega), show D + 1 - 1 = D by omega, ldI_n (t90 h) hD (by decide), Option.bind_some, h9, q65_22 h, Option.bind_some, ldI_n (t79 h) hk (by decide), Option.bind_some, he, if_pos (Int32.le_refl _), u_250 h hd]
theorem u_next_l {k10 : Nat → Int32 → Int32 → Int32 → jM → jO Int32} {x : Int32} {k0 e p E : Nat} {is : Bool} (h : Sh M) (hd : rI M 65 38 = nI (D + 1)) (hD : D < 64) (hk : b + k0 < 12000) (h9 : rI M 90 D = nI p) (he : rI M 79 (b + k0) = nI e) (hpe : p < e) (he6 : b + e ≤ 12000) (hE : rI M 79 (b + p) = nI E) : j_X12_nextAsked_103 k10 65 x (nI b) (bI is) (nI (b + k0)) (bI is) (bI is) M = some (nI p, wI M 90 D (nI E)) := by
  unfold j_X12_nextAsked_103
  rw [if_pos rfl, q65_41 h, Option.bind_some, gI_n (t65 h), Option.bind_some, hd, pk_sub (by omega), show D + 1 - 1 = D by omega, ldI_n (t90 h) hD (by decide), Option.bind_some, h9, q65_22 h, Option.bind_some, ldI_n (t79 h) hk (by decide), Option.bind_some, he, if_neg (nI_ge hpe (by omega)), Option.bind_some, Option.bind_some, pk_sub (by omega), show D + 1 - 1 = D by omega, ldI_n (t90 h) hD (by decide), Option.bind_some, h9, Option.bind_some, Option.bind_some, Option.bind_some, nI_add, ldI_n (t79 h) (by omega) (by decide), Option.bind_some, hE, pk_sub (by omega), show D + 1 - 1 = D by omega, stI_n (t90 h) hD (by decide), Option.bind_some]
  rfl
theorem u_end_q {k10 : Nat → Int32 → Int32 → Int32 → jM → jO Int32} {y v6 v7 : Int32} {t : Nat} {is : Bool} (h : Sh M) (a : MA ws M) (hf : WF ws) (hw : wi < 6) (hd : rI M 65 38 = nI (D + 1)) (hD : D < 64) (h9 : rI M 89 D = nI t) (ht : (ws wi).1 = t + 1) : j_X12_nextAsked_182 k10 65 (nI wi) y (bI is) v6 v7 (bI is) (bI is) M = k10 65 (nI wi) y (bI is) (wI M 65 38 (nI D)) := by
  unfold j_X12_nextAsked_182
  have h6 := (hf wi).1
  rw [if_pos rfl, q65_40 h, Option.bind_some, gI_n (t65 h), Option.bind_some, hd, pk_sub (by omega), show D + 1 - 1 = D by omega, ldI_n (t89 h) hD (by decide), Option.bind_some, h9, q65_0 h, Option.bind_some, m_things h a (show wi < 8 by omega), Option.bind_some, ht, nI_add, if_pos (Int32.le_refl _), u_250 h hd]
theorem u_next_q {k10 : Nat → Int32 → Int32 → Int32 → jM → jO Int32} {y : Int32} {t k0 q : Nat} {is : Bool} (h : Sh M) (a : MA ws M) (hf : WF ws) (hw : wi < 6) (hd : rI M 65 38 = nI (D + 1)) (hD : D < 64) (h9 : rI M 89 D = nI t) (ht : t + 1 < (ws wi).1) (hk : b + k0 < 12000) (ho : rI M 77 (b + k0) = nI q) (hq : q < 10) : j_X12_nextAsked_182 k10 65 (nI wi) y (bI is) (nI k0) (nI (b + k0)) (bI is) (bI is) M = some (nI (k0 + 1), wI (wI M 89 D (nI (t + 1))) 92 q (nI (t + 1))) := by
  unfold j_X12_nextAsked_182
  have h6 := (hf wi).1
  have e1 : Ey PH M (wI M 89 D (nI (t + 1))) := ey_wI Ey.rf (by unfold PH; omega)
  have h1 := Sh_ey e1 h
  rw [if_pos rfl, q65_40 h, Option.bind_some, gI_n (t65 h), Option.bind_some, hd, pk_sub (by omega), show D + 1 - 1 = D by omega, ldI_n (t89 h) hD (by decide), Option.bind_some, h9, q65_0 h, Option.bind_some, m_things h a (show wi < 8 by omega), Option.bind_some, nI_add, if_neg (nI_ge ht (by omega)), Option.bind_some, Option.bind_some, pk_sub (by omega), show D + 1 - 1 = D by omega, ldI_n (t89 h) hD (by decide), Option.bind_some, h9, nI_add, stI_n (t89 h) hD (by decide), Option.bind_some, q65_46 h1, Option.bind_some, q65_20 h1, Option.bind_some, ldI_n (t77 h1) hk (by decide), Option.bind_some, rI_wI, if_neg (by omega), ho, q65_40 h1, Option.bind_some, gI_n (t65 h1), Option.bind_some, rI_wI, if_neg (by omega), hd, pk_sub (by omega), show D + 1 - 1 = D by omega, ldI_n (t89 h1) hD (by decide), Option.bind_some, rI_wI, if_pos ⟨rfl, rfl⟩, stI_n (t92 h1) hq (by decide), Option.bind_some, nI_add]
  rfl
/-- a step down -/
theorem h_down {s p n F K E q : Nat} (h : Sh M) (hb : b + 600 ≤ 12000) (hd : rI M 65 38 = nI D) (hD : D < 64) (hn : rI M 65 45 = nI n) (h1 : n + 1 ≤ 100000) (hp : p + 1 < 600) (hK : rI M 76 (b + p) = nI K) (hK6 : K < 6) (hE : rI M 79 (b + (p + 1)) = nI E) (ho : rI M 77 (b + p) = nI q) (hq : K = 2 ∨ K = 3 → q < 10) :
    ∃ N, l_X12_holds_37 (F + 1) 65 (nI s) (nI wi) (nI b) (nI p) M = l_X12_holds_37 F 65 (nI s) (nI wi) (nI b) (nI (p + 1)) N ∧ Ey PH M N ∧ rI N 65 38 = nI (D + 1) ∧ rI N 65 45 = nI (n + 1) ∧ rI N 88 D = nI p ∧ rI N 89 D = nI 0 ∧ rI N 90 D = nI E ∧ (∀ j, j < D → rI N 88 j = rI M 88 j ∧ rI N 89 j = rI M 89 j ∧ rI N 90 j = rI M 90 j) ∧ (∀ j, rI N 92 j = if (K = 2 ∨ K = 3) ∧ j = q then nI 0 else rI M 92 j) ∧ rI N 65 44 = rI M 65 44 := by
  show ∃ N, b_X12_holds_37 (l_X12_holds_37 F) 65 (nI s) (nI wi) (nI b) (nI p) M = _ ∧ _
  unfold b_X12_holds_37 j_X12_holds_187 j_X12_holds_190
  rw [if_neg (nI_pos (by omega)), gI_n (t65 h), Option.bind_some, hn, nI_add, pI_n (t65 h), Option.bind_some]
  generalize hM1 : wI M 65 45 (nI (n + 1)) = M1
  have e1 : Ey PH M M1 := by rw [← hM1]; exact ey_wI Ey.rf (by unfold PH; omega)
  have s1 := Sh_ey e1 h
  have a1 : rI M1 65 45 = nI (n + 1) := by rw [← hM1, rI_wI, if_pos ⟨rfl, rfl⟩]
  have o1 : ∀ c k, ¬ (c = 65 ∧ k = 45) → rI M1 c k = rI M c k := fun c k hc => by rw [← hM1, rI_wI, if_neg hc]
  rw [gI_n (t65 s1), Option.bind_some, a1, if_pos (nI_le h1 (by decide)), nI_add]
  show ∃ N, ((gR 11 M1 65 19).bind fun r8 => _) = _ ∧ _
  rw [q65_19 s1, Option.bind_some, ldB_n (t76 s1) (by omega) (by decide), Option.bind_some, o1 76 _ (by omega), hK, if_pos (nI_lt hK6 (by decide)), q65_39 s1, Option.bind_some, gI_n (t65 s1), Option.bind_some, o1 65 38 (by omega), hd, stI_n (t88 s1) hD (by decide), Option.bind_some]
  generalize hM2 : wI M1 88 D (nI p) = M2
  have e2 : Ey PH M M2 := by rw [← hM2]; exact ey_wI e1 (by unfold PH; omega)
  have s2 := Sh_ey e2 h
  have o2 : ∀ c k, ¬ (c = 88 ∧ k = D) → rI M2 c k = rI M1 c k := fun c k hc => by rw [← hM2, rI_wI, if_neg hc]
  rw [q65_40 s2, Option.bind_some, gI_n (t65 s2), Option.bind_some, o2 65 38 (by omega), o1 65 38 (by omega), hd, stI_n (t89 s2) hD (by decide), Option.bind_some]
  generalize hM3 : wI M2 89 D (nI 0) = M3
  have e3 : Ey PH M M3 := by rw [← hM3]; exact ey_wI e2 (by unfold PH; omega)
  have s3 := Sh_ey e3 h
  have o3 : ∀ c k, ¬ (c = 89 ∧ k = D) → rI M3 c k = rI M2 c k := fun c k hc => by rw [← hM3, rI_wI, if_neg hc]
  rw [q65_41 s3, Option.bind_some, gI_n (t65 s3), Option.bind_some, o3 65 38 (by omega), o2 65 38 (by omega), o1 65 38 (by omega), hd, q65_22 s3, Option.bind_some, nI_add, ldI_n (t79 s3) (by omega) (by decide), Option.bind_some, o3 79 _ (by omega), o2 79 _ (by omega), o1 79 _ (by omega), Nat.add_assoc, hE, stI_n (t90 s3) hD (by decide), Option.bind_some]
  generalize hM4 : wI M3 90 D (nI E) = M4
  have e4 : Ey PH M M4 := by rw [← hM4]; exact ey_wI e3 (by unfold PH; omega)
  have s4 := Sh_ey e4 h
  have o4 : ∀ c k, ¬ (c = 90 ∧ k = D) → rI M4 c k = rI M3 c k := fun c k hc => by rw [← hM4, rI_wI, if_neg hc]
  rw [gI_n (t65 s4), Option.bind_some, o4 65 38 (by omega), o3 65 38 (by omega), o2 65 38 (by omega), o1 65 38 (by omega), hd, nI_add, pI_n (t65 s4), Option.bind_some]
  generalize hM5 : wI M4 65 38 (nI (D + 1)) = M5
  have e5 : Ey PH M M5 := by rw [← hM5]; exact ey_wI e4 (by unfold PH; omega)
  have s5 := Sh_ey e5 h
  have o5 : ∀ c k, ¬ (c = 65 ∧ k = 38) → rI M5 c k = rI M4 c k := fun c k hc => by rw [← hM5, rI_wI, if_neg hc]
  have all : ∀ c k, ¬ (c = 65 ∧ k = 38) → ¬ (c = 90 ∧ k = D) → ¬ (c = 89 ∧ k = D) → ¬ (c = 88 ∧ k = D) → ¬ (c = 65 ∧ k = 45) → rI M5 c k = rI M c k := fun c k h1 h2 h3 h4 h5 => by rw [o5 c k h1, o4 c k h2, o3 c k h3, o2 c k h4, o1 c k h5]
  have f1 : rI M5 65 38 = nI (D + 1) := by rw [← hM5, rI_wI, if_pos ⟨rfl, rfl⟩]
  have f2 : rI M5 65 45 = nI (n + 1) := by rw [o5 _ _ (by omega), o4 _ _ (by omega), o3 _ _ (by omega), o2 _ _ (by omega), a1]
  have f3 : rI M5 88 D = nI p := by rw [o5 _ _ (by omega), o4 _ _ (by omega), o3 _ _ (by omega), ← hM2, rI_wI, if_pos ⟨rfl, rfl⟩]
  have f4 : rI M5 89 D = nI 0 := by rw [o5 _ _ (by omega), o4 _ _ (by omega), ← hM3, rI_wI, if_pos ⟨rfl, rfl⟩]
  have f5 : rI M5 90 D = nI E := by rw [o5 _ _ (by omega), ← hM4, rI_wI, if_pos ⟨rfl, rfl⟩]
  have f6 : ∀ j, j < D → rI M5 88 j = rI M 88 j ∧ rI M5 89 j = rI M 89 j ∧ rI M5 90 j = rI M 90 j := fun j hj => ⟨all _ _ (by omega) (by omega) (by omega) (by omega) (by omega), all _ _ (by omega) (by omega) (by omega) (by omega) (by omega), all _ _ (by omega) (by omega) (by omega) (by omega) (by omega)⟩
  rw [q65_19 s5]
  simp only [Option.bind_some]
  rw [ldB_n (t76 s5) (show b + p < 12000 by omega) (by decide), all 76 _ (by omega) (by omega) (by omega) (by omega) (by omega), hK]
  simp only [Option.bind_some]
  have ne : ∀ j : Nat, j < 6 → K ≠ j → ¬ nI K = nI j := fun j hj e z => e ((nI_eq (by omega) (by omega)).mp z)
  by_cases hKq : K = 2 ∨ K = 3
  · have hq' := hq hKq
    have fin : ∃ N, j_X12_holds_174 (l_X12_holds_37 F) 65 (nI s) (nI wi) (nI b) (nI p) (nI (b + p)) M5 = l_X12_holds_37 F 65 (nI s) (nI wi) (nI b) (nI (p + 1)) N ∧ Ey PH M N ∧ rI N 65 38 = nI (D + 1) ∧ rI N 65 45 = nI (n + 1) ∧ rI N 88 D = nI p ∧ rI N 89 D = nI 0 ∧ rI N 90 D = nI E ∧ (∀ j, j < D → rI N 88 j = rI M 88 j ∧ rI N 89 j = rI M 89 j ∧ rI N 90 j = rI M 90 j) ∧ (∀ j, rI N 92 j = if (K = 2 ∨ K = 3) ∧ j = q then nI 0 else rI M 92 j) ∧ rI N 65 44 = rI M 65 44 := by
      unfold j_X12_holds_174 j_X12_holds_187 j_X12_holds_190
      rw [q65_46 s5, Option.bind_some, q65_20 s5, Option.bind_some, ldI_n (t77 s5) (show b + p < 12000 by omega) (by decide), Option.bind_some, all 77 _ (by omega) (by omega) (by omega) (by omega) (by omega), ho, stI_n (t92 s5) hq' (by decide), Option.bind_some, nI_add]
      have o6 : ∀ c k, c ≠ 92 → rI (wI M5 92 q (nI 0)) c k = rI M5 c k := fun c k hc => by rw [rI_wI, if_neg (fun z => hc z.1)]
      refine ⟨wI M5 92 q (nI 0), rfl, ey_wI e5 (by unfold PH; omega), by rw [o6 _ _ (by decide), f1], by rw [o6 _ _ (by decide), f2], by rw [o6 _ _ (by decide), f3], by rw [o6 _ _ (by decide), f4], by rw [o6 _ _ (by decide), f5], fun j hj => ?_, fun j => ?_, ?_⟩
      · rw [o6 _ _ (by decide), o6 _ _ (by decide), o6 _ _ (by decide)]; exact f6 j hj
      · rw [rI_wI]
        by_cases hj : j = q
        · rw [if_pos ⟨rfl, hj⟩, if_pos ⟨hKq, hj⟩]
        · rw [if_neg (fun z => hj z.2), if_neg (fun z => hj z.2), all 92 _ (by omega) (by omega) (by omega) (by omega) (by omega)]
      · rw [o6 _ _ (by decide), all 65 44 (by omega) (by omega) (by omega) (by omega) (by omega)]
    by_cases h2 : K = 2
    · rw [if_pos (by rw [h2])]; exact fin
    · rw [if_neg (ne 2 (by decide) h2), if_pos (by rw [hKq.resolve_left h2])]; exact fin
  · rw [if_neg (ne 2 (by decide) (by omega)), if_neg (ne 3 (by decide) (by omega)), nI_add]
    exact ⟨M5, rfl, e5, f1, f2, f3, f4, f5, f6, fun j => by rw [if_neg (fun z => hKq z.1), all 92 _ (by omega) (by omega) (by omega) (by omega) (by omega)], all 65 44 (by omega) (by omega) (by omega) (by omega) (by omega)⟩
theorem h_spent {s p n F : Nat} (h : Sh M) (hn : rI M 65 45 = nI n) (h1 : n = 100000) (hp : p < 2 ^ 31) : l_X12_holds_37 (F + 1) 65 (nI s) (nI wi) (nI b) (nI p) M = some (-6, wI M 65 45 (nI 100001)) := by
  show b_X12_holds_37 (l_X12_holds_37 F) 65 (nI s) (nI wi) (nI b) (nI p) M = _
  unfold b_X12_holds_37
  have e1 : Ey PH M (wI M 65 45 (nI (n + 1))) := ey_wI Ey.rf (by unfold PH; omega)
  rw [if_neg (nI_pos hp), gI_n (t65 h), Option.bind_some, hn, nI_add, pI_n (t65 h), Option.bind_some, gI_n (t65 (Sh_ey e1 h)), Option.bind_some, show rI (wI M 65 45 (nI (n + 1))) 65 45 = nI (n + 1) by rw [rI_wI, if_pos ⟨rfl, rfl⟩], if_neg (nI_ge (by omega) (by omega)), h1]
  rfl
end HU
