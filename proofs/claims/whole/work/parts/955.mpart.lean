/-! READING: the reference reads parts, texts; its read. -/
def POn (s c k : Nat) : Prop := (c = 65 ∧ (k = 29 ∨ k = 33)) ∨ (c = 84 ∧ k = s + 1)
def POf (s c k : Nat) : Prop := (c = 65 ∧ (k = 29 ∨ k = 33)) ∨ (84 ≤ c ∧ c ≤ 86 ∧ k = s + 1)
theorem POn_G {s c k : Nat} (h : POn s c k) : PGr c k := by unfold POn at h; unfold PGr; omega
theorem POf_G {s c k : Nat} (h : POf s c k) : PGr c k := by unfold POf at h; unfold PGr; omega
section MP9
variable {M : jM} {t : Tp} {a c s q b q0 m p w : Nat} {l : Nat → Nat} {ia : Option Nat} {prec : Nat → Rs Fm}
theorem bs_em {K y : Nat} {x : Int32} (B : BS t a c s q l M) : BS t a (c + 1) s q l (em M c K x y) := by
  obtain ⟨b1, b2, b3, b4, b5, b6, b7, b8, b9, b10⟩ := B
  have e := em_ey (M := M) (c := c) (k := K) (y := y) (x := x)
  have hne : ∀ d i, ¬ PNm d i → rI (em M c K x y) d i = rI M d i := fun d i hd => ey_rI e hd
  exact ⟨Sh_ey e b1, MT_g (e.mono fun _ _ => PNm_G) b2, by rw [hne _ _ (by unfold PNm; omega)]; exact b3, b4, by rw [hne _ _ (by unfold PNm; omega)]; exact b5, by rw [hne _ _ (by unfold PNm; omega)]; exact b6, by rw [hne _ _ (by unfold PNm; omega)]; exact b7, em_c, by rw [hne _ _ (by unfold PNm; omega)]; exact b9, fun k hk => by rw [hne _ _ (by unfold PNm; omega)]; exact b10 k hk⟩
theorem m_open {k : Nat} (h12 : s ≤ 12) (B : BS t a c s q l M) : ∃ N, f_X12_openNode 65 (nI k) M = some ((), N) ∧ BS t a c (s + 1) q l N ∧ rI N 84 (s + 1) = nI k ∧ Ey (POn s) M N := by
  obtain ⟨b1, b2, b3, b4, b5, b6, b7, b8, b9, b10⟩ := B
  have e1 : Ey (POn s) M (wI M 84 (s + 1) (nI k)) := ey_wI Ey.rf (Or.inr ⟨rfl, rfl⟩)
  have e2 : Ey (POn s) M (wI (wI M 84 (s + 1) (nI k)) 65 29 (nI (s + 1 + 1))) := ey_wI e1 (Or.inl ⟨rfl, Or.inl rfl⟩)
  have e3 : Ey (POn s) M (wI (wI (wI M 84 (s + 1) (nI k)) 65 29 (nI (s + 1 + 1))) 65 33 (nI (s + 1))) := ey_wI e2 (Or.inl ⟨rfl, Or.inr rfl⟩)
  have h1 := Sh_ey e1 b1
  have h2 := Sh_ey e2 b1
  unfold f_X12_openNode
  rw [q65_30 b1, Option.bind_some, gI_n (t65 b1), Option.bind_some, b9, stI_n (t84 b1) (by omega) (by decide), Option.bind_some, gI_n (t65 h1), Option.bind_some, rI_wI, if_neg (by omega), b9, nI_add, pI_n (t65 h1), Option.bind_some, gI_n (t65 h2), Option.bind_some, rI_wI, if_neg (by omega), rI_wI, if_neg (by omega), b6, nI_add, pI_n (t65 h2), Option.bind_some]
  have rr : ∀ d i, ¬ POn s d i → rI (wI (wI (wI M 84 (s + 1) (nI k)) 65 29 (nI (s + 1 + 1))) 65 33 (nI (s + 1))) d i = rI M d i := fun d i hd => ey_rI e3 hd
  refine ⟨_, rfl, ⟨Sh_ey e3 b1, MT_g (e3.mono fun _ _ => POn_G) b2, by rw [rr _ _ (by unfold POn; omega)]; exact b3, b4, by rw [rr _ _ (by unfold POn; omega)]; exact b5, by rw [rI_wI, if_pos ⟨rfl, rfl⟩], by rw [rr _ _ (by unfold POn; omega)]; exact b7, by rw [rr _ _ (by unfold POn; omega)]; exact b8, by rw [rI_wI, if_neg (by omega), rI_wI, if_pos ⟨rfl, rfl⟩], fun i hi => by rw [rr _ _ (by unfold POn; omega)]; exact b10 i hi⟩, by rw [rI_wI, if_neg (by omega), rI_wI, if_neg (by omega), rI_wI, if_pos ⟨rfl, rfl⟩], e3⟩
theorem m_openF (h12 : s ≤ 12) (B : BS t a c s q l M) : ∃ N, f_X12_openFormula 65 (wI M 65 33 (nI (s + 1))) = some ((), N) ∧ BS t a c (s + 1) q l N ∧ rI N 84 (s + 1) = nI 0 ∧ rI N 85 (s + 1) = nI c ∧ rI N 86 (s + 1) = nI 0 ∧ Ey (POf s) M N := by
  obtain ⟨b1, b2, b3, b4, b5, b6, b7, b8, b9, b10⟩ := B
  have e0 : Ey (POf s) M (wI M 65 33 (nI (s + 1))) := ey_wI Ey.rf (Or.inl ⟨rfl, Or.inr rfl⟩)
  have e1 : Ey (POf s) M (wI (wI M 65 33 (nI (s + 1))) 84 (s + 1) (nI 0)) := ey_wI e0 (Or.inr ⟨by decide, by decide, rfl⟩)
  have e2 : Ey (POf s) M (wI (wI (wI M 65 33 (nI (s + 1))) 84 (s + 1) (nI 0)) 85 (s + 1) (nI c)) := ey_wI e1 (Or.inr ⟨by decide, by decide, rfl⟩)
  have e3 : Ey (POf s) M (wI (wI (wI (wI M 65 33 (nI (s + 1))) 84 (s + 1) (nI 0)) 85 (s + 1) (nI c)) 86 (s + 1) (nI 0)) := ey_wI e2 (Or.inr ⟨by decide, by decide, rfl⟩)
  have e4 : Ey (POf s) M (wI (wI (wI (wI (wI M 65 33 (nI (s + 1))) 84 (s + 1) (nI 0)) 85 (s + 1) (nI c)) 86 (s + 1) (nI 0)) 65 29 (nI (s + 1 + 1))) := ey_wI e3 (Or.inl ⟨rfl, Or.inl rfl⟩)
  have h0 := Sh_ey e0 b1
  have h1 := Sh_ey e1 b1
  have h2 := Sh_ey e2 b1
  have h3 := Sh_ey e3 b1
  have c0 : rI (wI M 65 33 (nI (s + 1))) 65 29 = nI (s + 1) := by rw [rI_wI, if_neg (by omega)]; exact b9
  have c1 : ∀ k, rI (wI (wI M 65 33 (nI (s + 1))) 84 (s + 1) (nI 0)) 65 k = rI (wI M 65 33 (nI (s + 1))) 65 k := fun k => by rw [rI_wI, if_neg (by omega)]
  have c2 : ∀ k, rI (wI (wI (wI M 65 33 (nI (s + 1))) 84 (s + 1) (nI 0)) 85 (s + 1) (nI c)) 65 k = rI (wI M 65 33 (nI (s + 1))) 65 k := fun k => by rw [rI_wI, if_neg (by omega), c1]
  have c3 : ∀ k, rI (wI (wI (wI (wI M 65 33 (nI (s + 1))) 84 (s + 1) (nI 0)) 85 (s + 1) (nI c)) 86 (s + 1) (nI 0)) 65 k = rI (wI M 65 33 (nI (s + 1))) 65 k := fun k => by rw [rI_wI, if_neg (by omega), c2]
  have c4 : rI (wI M 65 33 (nI (s + 1))) 65 23 = nI c := by rw [rI_wI, if_neg (by omega)]; exact b8
  unfold f_X12_openFormula
  rw [q65_30 h0, Option.bind_some, gI_n (t65 h0), Option.bind_some, c0, stI_n (t84 h0) (by omega) (by decide), Option.bind_some, q65_31 h1, Option.bind_some, gI_n (t65 h1), Option.bind_some, c1, c0, gI_n (t65 h1), Option.bind_some, c1, c4, stI_n (t85 h1) (by omega) (by decide), Option.bind_some, q65_32 h2, Option.bind_some, gI_n (t65 h2), Option.bind_some, c2, c0, stI_n (t86 h2) (by omega) (by decide), Option.bind_some, gI_n (t65 h3), Option.bind_some, c3, c0, nI_add, pI_n (t65 h3), Option.bind_some]
  have rr : ∀ d i, ¬ POf s d i → rI (wI (wI (wI (wI (wI M 65 33 (nI (s + 1))) 84 (s + 1) (nI 0)) 85 (s + 1) (nI c)) 86 (s + 1) (nI 0)) 65 29 (nI (s + 1 + 1))) d i = rI M d i := fun d i hd => ey_rI e4 hd
  refine ⟨_, rfl, ⟨Sh_ey e4 b1, MT_g (e4.mono fun _ _ => POf_G) b2, by rw [rr _ _ (by unfold POf; omega)]; exact b3, b4, by rw [rr _ _ (by unfold POf; omega)]; exact b5, by rw [rI_wI, if_neg (by omega), c3, rI_wI, if_pos ⟨rfl, rfl⟩], by rw [rr _ _ (by unfold POf; omega)]; exact b7, by rw [rr _ _ (by unfold POf; omega)]; exact b8, by rw [rI_wI, if_pos ⟨rfl, rfl⟩], fun i hi => by rw [rr _ _ (by unfold POf; omega)]; exact b10 i hi⟩, ?_, ?_, ?_, e4⟩
  · rw [rI_wI, if_neg (by omega), rI_wI, if_neg (by omega), rI_wI, if_neg (by omega), rI_wI, if_pos ⟨rfl, rfl⟩]
  · rw [rI_wI, if_neg (by omega), rI_wI, if_neg (by omega), rI_wI, if_pos ⟨rfl, rfl⟩]
  · rw [rI_wI, if_neg (by omega), rI_wI, if_pos ⟨rfl, rfl⟩]
theorem in_n (ht : VT t) (M : jM) : f_X12_in (hv t (sk t p)) (nI 97) (nI 104) M = some (bI (decide (97 ≤ pb t p ∧ pb t p ≤ 104)), M) := by
  unfold f_X12_in
  have neg : ∀ x : Int32, x < 0 → x < nI 97 := fun x hx => by
    have z : (0 : Int32) < nI 97 := by decide
    rw [Int32.lt_iff_toInt_lt] at *
    omega
  have hb : pb t p = tb t (sk t p) := rfl
  by_cases h : sk t p < t.1
  · obtain ⟨u1, u2, u3, u4⟩ := ub_is (ht.2 _ h)
    have e1 : hv t (sk t p) = t.2 (sk t p) := by unfold hv; rw [if_pos h]
    have e2 : pb t p = ub (t.2 (sk t p)) := by rw [hb]; unfold tb; rw [if_pos h]
    rw [e1, e2]
    by_cases h8 : ub (t.2 (sk t p)) < 128
    · rw [u3 h8]
      have cl : ub (nI (ub (t.2 (sk t p)))) = ub (t.2 (sk t p)) := by rw [← u3 h8]
      by_cases h97 : ub (t.2 (sk t p)) < 97
      · rw [if_pos (nI_lt h97 (by decide)), cl, decide_eq_false (by omega)]; rfl
      · rw [if_neg (nI_nlt (by omega) (by omega)), cl]
        by_cases h104 : 104 < ub (t.2 (sk t p))
        · rw [if_pos (nI_lt h104 (by omega)), decide_eq_false (by omega)]; rfl
        · rw [if_neg (nI_nlt (by omega) (by decide)), decide_eq_true (by omega)]; rfl
    · rw [if_pos (neg _ (u4 (by omega))), decide_eq_false (by omega)]; rfl
  · have e1 : hv t (sk t p) = -1 := by unfold hv; rw [if_neg h]
    have e2 : pb t p = 256 := by rw [hb]; unfold tb; rw [if_neg h]
    rw [e1, e2]; rfl
end MP9
