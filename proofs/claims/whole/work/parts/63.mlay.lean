/-! COLOURS: the reference lays its items. -/
def cb (b : Bool) (n : Nat) : Nat := if b = true then n else 1
theorem csz_cb {b : Bool} {n : Nat} : csz b n = n * cb b n := by
  cases b
  · show n = n * 1; omega
  · rfl
def sdI (b : Bool) (u : Wd) (e : Nat) : Nat := if e < csz b u.1 then 0 else 1
def lcI (b : Bool) (u : Wd) (e : Nat) : Nat := if e < csz b u.1 then e else e - csz b u.1
def wdI (b : Bool) (u v : Wd) (e : Nat) : Wd := if e < csz b u.1 then u else v
def fT (b : Bool) (u v : Wd) (e : Nat) : Nat := if b = true then lcI b u e / (wdI b u v e).1 else lcI b u e
def sT (b : Bool) (u v : Wd) (e : Nat) : Nat := if b = true then lcI b u e % (wdI b u v e).1 else lcI b u e
/-- the first m items are laid -/
def LT (b : Bool) (u v : Wd) (m : Nat) (M : jM) : Prop := rI M 65 52 = nI m ∧ ∀ e, e < m → rI M 97 e = nI (sdI b u e) ∧ rI M 98 e = nI (fT b u v e) ∧ rI M 99 e = nI (sT b u v e)
def PL (c k : Nat) : Prop := c = 97 ∨ c = 98 ∨ c = 99 ∨ (c = 65 ∧ k = 52)
section M1
variable {ws : Nat → Wd} {b : Bool} {i j : Nat}
theorem lay_44 {k8 : Nat → Int32 → Int32 → Int32 → Int32 → jM → jO Unit} {k29 : Nat → Int32 → Int32 → Int32 → Int32 → Int32 → Int32 → jM → jO Unit} {x y : Int32} {s w a base : Nat} (hf : WF ws) (hw : w < 6) (ha : a < (ws w).1) (hb : base + csz b (ws w).1 ≤ 72)
    (hit : ∀ c, c < cb b (ws w).1 → sdI b (ws i) (base + (a * cb b (ws w).1 + c)) = s ∧ fT b (ws i) (ws j) (base + (a * cb b (ws w).1 + c)) = a ∧ sT b (ws i) (ws j) (base + (a * cb b (ws w).1 + c)) = if b = true then c else a) :
    ∀ (f c : Nat) (M : jM), Sh M → MA ws M → c ≤ cb b (ws w).1 → cb b (ws w).1 - c < f → LT b (ws i) (ws j) (base + (a * cb b (ws w).1 + c)) M →
    ∃ N, l_X12_layThings_44 k8 k29 f 65 x y (bI b) (nI s) (nI w) (nI a) (nI c) M = k29 65 x y (bI b) (nI s) (nI w) (nI (a + 1)) N ∧ LT b (ws i) (ws j) (base + (a + 1) * cb b (ws w).1) N ∧ Ey PL M N := by
  have h6 := (hf w).1
  have hcb : cb b (ws w).1 ≤ 6 := by unfold cb; split <;> omega
  have hsq : ∀ c, c < cb b (ws w).1 → base + (a * cb b (ws w).1 + c) < 72 := fun c hc => by
    have := pr_lt (d := 0) ha hc
    rw [csz_cb] at hb
    omega
  intro f
  induction f with
  | zero => intro c M _ _ _ q; omega
  | succ f ih =>
    intro c M h m hc hn hl
    show ∃ N, b_X12_layThings_44 k8 k29 (l_X12_layThings_44 k8 k29 f) 65 x y (bI b) (nI s) (nI w) (nI a) (nI c) M = _ ∧ _
    have step : ∃ N, j_X12_layThings_61 k8 k29 (l_X12_layThings_44 k8 k29 f) 65 x y (bI b) (nI s) (nI w) (nI a) (nI c) (nI c) (nI (cb b (ws w).1)) M = k29 65 x y (bI b) (nI s) (nI w) (nI (a + 1)) N ∧ LT b (ws i) (ws j) (base + (a + 1) * cb b (ws w).1) N ∧ Ey PL M N := by
      unfold j_X12_layThings_61
      by_cases hcc : cb b (ws w).1 ≤ c
      · rw [if_pos (nI_le hcc (by omega)), nI_add]
        refine ⟨M, rfl, ?_, Ey.rf⟩
        have : base + (a * cb b (ws w).1 + c) = base + (a + 1) * cb b (ws w).1 := by rw [Nat.add_mul, Nat.one_mul]; omega
        rw [← this]
        exact hl
      · have hcl : c < cb b (ws w).1 := by omega
        have e72 := hsq c hcl
        obtain ⟨i1, i2, i3⟩ := hit c hcl
        obtain ⟨l1, l2⟩ := hl
        rw [if_neg (nI_ge hcl (by omega)), q65_57 h, Option.bind_some, gI_n (t65 h), Option.bind_some, l1]
        generalize hm : base + (a * cb b (ws w).1 + c) = e at *
        rw [stI_n (t97 h) e72 (by decide), Option.bind_some]
        generalize hM1 : wI M 97 e (nI s) = M1
        have e1 : Ey PL M M1 := by rw [← hM1]; exact ey_wI Ey.rf (Or.inl rfl)
        have h1 := Sh_ey e1 h
        have z1 : rI M1 65 52 = nI e := by rw [← hM1, rI_wI, if_neg (by omega), l1]
        rw [q65_58 h1, Option.bind_some, gI_n (t65 h1), Option.bind_some, z1, stI_n (t98 h1) e72 (by decide), Option.bind_some]
        generalize hM2 : wI M1 98 e (nI a) = M2
        have e2 : Ey PL M M2 := by rw [← hM2]; exact ey_wI e1 (Or.inr (Or.inl rfl))
        have h2 := Sh_ey e2 h
        have z2 : rI M2 65 52 = nI e := by rw [← hM2, rI_wI, if_neg (by omega), z1]
        rw [q65_59 h2, Option.bind_some, gI_n (t65 h2), Option.bind_some, z2]
        have fin : ∀ t : Nat, t = (if b = true then c else a) → ∃ N, j_X12_layThings_105 k8 k29 (l_X12_layThings_44 k8 k29 f) 65 x y (bI b) (nI s) (nI w) (nI a) (nI c) 99 (nI e) (nI t) M2 = k29 65 x y (bI b) (nI s) (nI w) (nI (a + 1)) N ∧ LT b (ws i) (ws j) (base + (a + 1) * cb b (ws w).1) N ∧ Ey PL M N := by
          intro t ht
          unfold j_X12_layThings_105
          rw [stI_n (t99 h2) e72 (by decide), Option.bind_some]
          generalize hM3 : wI M2 99 e (nI t) = M3
          have e3 : Ey PL M M3 := by rw [← hM3]; exact ey_wI e2 (Or.inr (Or.inr (Or.inl rfl)))
          have h3 := Sh_ey e3 h
          have z3 : rI M3 65 52 = nI e := by rw [← hM3, rI_wI, if_neg (by omega), z2]
          rw [gI_n (t65 h3), Option.bind_some, z3, pI_n (t65 h3), Option.bind_some, nI_add, nI_add]
          have e4 : Ey PL M (wI M3 65 52 (nI (e + 1))) := ey_wI e3 (Or.inr (Or.inr (Or.inr ⟨rfl, rfl⟩)))
          obtain ⟨N, p1, p2, p3⟩ := ih (c + 1) (wI M3 65 52 (nI (e + 1))) (Sh_ey e4 h) (MA_ey e4 m (fun c k hc => by unfold PL; omega)) (by omega) (by omega) (by
            rw [show base + (a * cb b (ws w).1 + (c + 1)) = e + 1 by omega]
            refine ⟨by rw [rI_wI, if_pos ⟨rfl, rfl⟩], fun q hq => ?_⟩
            have w97 : rI (wI M3 65 52 (nI (e + 1))) 97 q = if 97 = 97 ∧ q = e then nI s else rI M 97 q := by rw [rI_wI, if_neg (by omega), ← hM3, rI_wI, if_neg (by omega), ← hM2, rI_wI, if_neg (by omega), ← hM1, rI_wI]
            have w98 : rI (wI M3 65 52 (nI (e + 1))) 98 q = if 98 = 98 ∧ q = e then nI a else rI M 98 q := by rw [rI_wI, if_neg (by omega), ← hM3, rI_wI, if_neg (by omega), ← hM2, rI_wI, ← hM1, rI_wI, if_neg (c := 98 = 97 ∧ q = e) (by omega)]
            have w99 : rI (wI M3 65 52 (nI (e + 1))) 99 q = if 99 = 99 ∧ q = e then nI t else rI M 99 q := by rw [rI_wI, if_neg (by omega), ← hM3, rI_wI, ← hM2, rI_wI, if_neg (c := 99 = 98 ∧ q = e) (by omega), ← hM1, rI_wI, if_neg (c := 99 = 97 ∧ q = e) (by omega)]
            rw [w97, w98, w99]
            by_cases hqe : q = e
            · rw [if_pos ⟨rfl, hqe⟩, if_pos ⟨rfl, hqe⟩, if_pos ⟨rfl, hqe⟩, hqe, i1, i2, i3, ht]
              exact ⟨rfl, rfl, rfl⟩
            · rw [if_neg (fun k => hqe k.2), if_neg (fun k => hqe k.2), if_neg (fun k => hqe k.2)]
              exact l2 q (by omega))
          exact ⟨N, p1, p2, e4.tr p3⟩
        cases b with
        | false => rw [if_pos (show bI false = 0 from rfl)]; exact fin a rfl
        | true => rw [if_neg (show ¬ bI true = 0 by decide)]; exact fin c rfl
    unfold b_X12_layThings_44
    cases b with
    | false => rw [if_pos (show bI false = 0 from rfl)]; exact step
    | true => rw [if_neg (show ¬ bI true = 0 by decide), q65_0 h, Option.bind_some, m_things h m (show w < 8 by omega), Option.bind_some]; exact step
theorem lay_29 {k8 : Nat → Int32 → Int32 → Int32 → Int32 → jM → jO Unit} {x y : Int32} {s w base : Nat} (hf : WF ws) (hw : w < 6) (hb : base + csz b (ws w).1 ≤ 72)
    (hit : ∀ a c, a < (ws w).1 → c < cb b (ws w).1 → sdI b (ws i) (base + (a * cb b (ws w).1 + c)) = s ∧ fT b (ws i) (ws j) (base + (a * cb b (ws w).1 + c)) = a ∧ sT b (ws i) (ws j) (base + (a * cb b (ws w).1 + c)) = if b = true then c else a) :
    ∀ (f a : Nat) (M : jM), Sh M → MA ws M → a ≤ (ws w).1 → (ws w).1 - a < f → LT b (ws i) (ws j) (base + a * cb b (ws w).1) M →
    ∃ N, l_X12_layThings_29 k8 f 65 x y (bI b) (nI s) (nI w) (nI a) M = k8 65 x y (bI b) (nI (s + 1)) N ∧ LT b (ws i) (ws j) (base + csz b (ws w).1) N ∧ Ey PL M N := by
  have h6 := (hf w).1
  have hcb : cb b (ws w).1 ≤ 6 := by unfold cb; split <;> omega
  intro f
  induction f with
  | zero => intro c M _ _ _ q; omega
  | succ f ih =>
    intro a M h m ha hn hl
    show ∃ N, b_X12_layThings_29 k8 (l_X12_layThings_29 k8 f) 65 x y (bI b) (nI s) (nI w) (nI a) M = _ ∧ _
    unfold b_X12_layThings_29
    rw [q65_0 h, Option.bind_some, m_things h m (show w < 8 by omega), Option.bind_some]
    by_cases hc : (ws w).1 ≤ a
    · obtain rfl : a = (ws w).1 := by omega
      rw [if_pos (nI_le hc (by omega)), nI_add]
      rw [← csz_cb] at hl
      exact ⟨M, rfl, hl, Ey.rf⟩
    · obtain ⟨n0, hn0⟩ := jF_is
      rw [if_neg (nI_ge (by omega) (by omega))]
      obtain ⟨N1, p1, p2, p3⟩ := lay_44 (k8 := k8) (k29 := l_X12_layThings_29 k8 f) (x := x) (y := y) (s := s) (a := a) (base := base) hf hw (by omega) hb (fun c hc => hit a c (by omega) hc) jF0 0 M h m (Nat.zero_le _) (by omega) (by rw [Nat.add_zero]; exact hl)
      rw [p1]
      obtain ⟨N, q1, q2, q3⟩ := ih (a + 1) N1 (Sh_ey p3 h) (MA_ey p3 m (fun c k hc => by unfold PL; omega)) (by omega) (by omega) p2
      exact ⟨N, q1, q2, p3.tr q3⟩
theorem m_layc (hf : WF ws) (hi : i < 6) (hj : j < 6) {M : jM} (h : Sh M) (m : MA ws M) : ∃ N, f_X12_layThings 65 (nI i) (nI j) (bI b) M = some ((), N) ∧ LT b (ws i) (ws j) (itN b (ws i) (ws j)) N ∧ Ey PL M N := by
  have h6 := (hf i).1
  have h62 := (hf j).1
  have c1 := csz_le (b := b) (hf i).1
  have c2 := csz_le (b := b) (hf j).1
  obtain ⟨n0, hn0⟩ := jF_is
  unfold f_X12_layThings
  rw [pI_n (t65 h), Option.bind_some]
  have e0 : Ey PL M (wI M 65 52 (nI 0)) := ey_wI Ey.rf (Or.inr (Or.inr (Or.inr ⟨rfl, rfl⟩)))
  rw [hn0]
  show ∃ N, b_X12_layThings_8 (l_X12_layThings_8 (n0 + 899999)) 65 (nI i) (nI j) (bI b) (nI 0) _ = _ ∧ _
  unfold b_X12_layThings_8 j_X12_layThings_24
  rw [if_neg (by decide), if_pos (show nI 0 = 0 from rfl)]
  obtain ⟨N1, p1, p2, p3⟩ := lay_29 (i := i) (j := j) (b := b) (k8 := l_X12_layThings_8 (n0 + 899999)) (x := nI i) (y := nI j) (s := 0) (w := i) (base := 0) hf hi (by omega) (fun a c ha hc => by
    rw [Nat.zero_add]
    have hlt : a * cb b (ws i).1 + c < csz b (ws i).1 := by have := pr_lt (d := 0) ha hc; rw [csz_cb]; omega
    unfold sdI fT sT lcI wdI
    rw [if_pos hlt, if_pos hlt, if_pos hlt]
    cases b with
    | false =>
      have : c = 0 := by have : c < 1 := hc; omega
      subst this
      have e1 : a * cb false (ws i).1 + 0 = a := by show a * 1 + 0 = a; omega
      rw [e1]
      exact ⟨rfl, rfl, rfl⟩
    | true => exact ⟨rfl, (md_dv (show c < (ws i).1 from hc)).1, (md_dv (show c < (ws i).1 from hc)).2⟩) jF0 0 (wI M 65 52 (nI 0)) (Sh_ey e0 h) (MA_ey e0 m (fun c k hc => by unfold PL; omega)) (Nat.zero_le _) (by omega) (by rw [Nat.zero_mul]; exact ⟨by rw [rI_wI, if_pos ⟨rfl, rfl⟩], fun e he => absurd he (Nat.not_lt_zero e)⟩)
  rw [p1]
  show ∃ N, b_X12_layThings_8 (l_X12_layThings_8 (n0 + 899998)) 65 (nI i) (nI j) (bI b) (nI 1) _ = _ ∧ _
  unfold b_X12_layThings_8 j_X12_layThings_24
  rw [if_neg (by decide), if_neg (by decide)]
  have e1 := e0.tr p3
  rw [Nat.zero_add] at p2
  obtain ⟨N2, q1, q2, q3⟩ := lay_29 (i := i) (j := j) (b := b) (k8 := l_X12_layThings_8 (n0 + 899998)) (x := nI i) (y := nI j) (s := 1) (w := j) (base := csz b (ws i).1) hf hj (by omega) (fun a c ha hc => by
    have hlt : ¬ csz b (ws i).1 + (a * cb b (ws j).1 + c) < csz b (ws i).1 := by omega
    unfold sdI fT sT lcI wdI
    rw [if_neg hlt, if_neg hlt, if_neg hlt, show csz b (ws i).1 + (a * cb b (ws j).1 + c) - csz b (ws i).1 = a * cb b (ws j).1 + c by omega]
    cases b with
    | false =>
      have : c = 0 := by have : c < 1 := hc; omega
      subst this
      have e1 : a * cb false (ws j).1 + 0 = a := by show a * 1 + 0 = a; omega
      rw [e1]
      exact ⟨rfl, rfl, rfl⟩
    | true => exact ⟨rfl, (md_dv (show c < (ws j).1 from hc)).1, (md_dv (show c < (ws j).1 from hc)).2⟩) jF0 0 N1 (Sh_ey e1 h) (MA_ey e1 m (fun c k hc => by unfold PL; omega)) (Nat.zero_le _) (by omega) (by rw [Nat.zero_mul]; exact p2)
  rw [q1]
  show ∃ N, b_X12_layThings_8 (l_X12_layThings_8 (n0 + 899997)) 65 (nI i) (nI j) (bI b) (nI 2) _ = _ ∧ _
  unfold b_X12_layThings_8
  rw [if_pos (by decide)]
  exact ⟨N2, rfl, q2, e1.tr q3⟩
end M1
