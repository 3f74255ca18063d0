/-! COLOURS: the reference's later likeness, by its memory. -/
/-- the ties of e with the items of colour c among the first so many, both ways in one number -/
def tO (b : Bool) (u v : Wd) (g : Nat → Nat) (e c : Nat) : Nat → Nat
  | 0 => 0
  | x + 1 => tO b u v g e c x + (if sdI b u x = sdI b u e ∧ g x = c then (if eb (wdI b u v e) (fT b u v e) (fT b u v x) = true then 16 else 0) + (if eb (wdI b u v e) (fT b u v x) (fT b u v e) = true then 1 else 0) else 0)
theorem tO_le {b : Bool} {u v : Wd} {g : Nat → Nat} {e c : Nat} : ∀ n, tO b u v g e c n ≤ 17 * n
  | 0 => Nat.le_refl _
  | n + 1 => by
    have := tO_le (b := b) (u := u) (v := v) (g := g) (e := e) (c := c) n
    unfold tO
    split
    · split <;> split <;> omega
    · omega
theorem fs6 {b : Bool} {u v : Wd} (hu : wwf u) (hv : wwf v) {e : Nat} (he : e < itN b u v) : fT b u v e < 6 := by
  have := (fs_lt he).1
  have := (wdI_wf (b := b) hu hv e).1
  omega
theorem sdI_le {b : Bool} {u : Wd} {e : Nat} : sdI b u e ≤ 1 := by unfold sdI; split <;> omega
section M2
variable {ws : Nat → Wd} {b : Bool} {x y : Nat} {M : jM} {g : Nat → Nat}
theorem tied_6 (hf : WF ws) (h : Sh M) (a : MA ws M) (l : LT b (ws x) (ws y) (itN b (ws x) (ws y)) M) (hg7 : ∀ e, e < itN b (ws x) (ws y) → g e < 72) (hg : ∀ e, e < itN b (ws x) (ws y) → rI M 95 e = nI (g e)) {w e c : Nat} (hw : w < 6) (he : e < itN b (ws x) (ws y)) (hc : c < 72) (ew : ws w = wdI b (ws x) (ws y) e) :
    ∀ (n t : Nat), t ≤ itN b (ws x) (ws y) → itN b (ws x) (ws y) - t < n → l_X12_tiedOf_6 n 65 (nI w) (nI e) (nI c) (nI (tO b (ws x) (ws y) g e c t)) (nI t) M = some (nI (tO b (ws x) (ws y) g e c (itN b (ws x) (ws y))), M) := by
  have hN := itN_le (b := b) (hf x) (hf y)
  intro n
  induction n with
  | zero => intro t _ q; omega
  | succ n ih =>
    intro t ht hn
    show b_X12_tiedOf_6 (l_X12_tiedOf_6 n) 65 (nI w) (nI e) (nI c) (nI (tO b (ws x) (ws y) g e c t)) (nI t) M = _
    unfold b_X12_tiedOf_6
    rw [gI_n (t65 h), Option.bind_some, l.1]
    by_cases htN : itN b (ws x) (ws y) ≤ t
    · obtain rfl : t = itN b (ws x) (ws y) := by omega
      rw [if_pos (nI_le htN (by omega))]
      rfl
    · have htl : t < itN b (ws x) (ws y) := by omega
      have d1 := sdI_le (b := b) (u := ws x) (e := t)
      have d2 := sdI_le (b := b) (u := ws x) (e := e)
      have g7 := hg7 t htl
      have hd : tO b (ws x) (ws y) g e c (t + 1) = tO b (ws x) (ws y) g e c t + (if sdI b (ws x) t = sdI b (ws x) e ∧ g t = c then (if eb (wdI b (ws x) (ws y) e) (fT b (ws x) (ws y) e) (fT b (ws x) (ws y) t) = true then 16 else 0) + (if eb (wdI b (ws x) (ws y) e) (fT b (ws x) (ws y) t) (fT b (ws x) (ws y) e) = true then 1 else 0) else 0) := rfl
      have ft := fs6 (hf x) (hf y) htl
      have fe := fs6 (hf x) (hf y) he
      rw [if_neg (nI_ge htl (by omega)), q65_57 h, Option.bind_some, ldI_n (t97 h) (by omega) (by decide), Option.bind_some, (l.2 t htl).1, Option.bind_some, ldI_n (t97 h) (by omega) (by decide), Option.bind_some, (l.2 e he).1]
      unfold j_X12_tiedOf_101
      by_cases hs : sdI b (ws x) t = sdI b (ws x) e
      · rw [if_pos (by rw [hs]), q65_55 h, Option.bind_some, ldI_n (t95 h) (by omega) (by decide), Option.bind_some, hg t htl]
        by_cases hgc : g t = c
        · rw [if_pos ⟨hs, hgc⟩, ← ew] at hd
          rw [if_pos (by rw [hgc]), q65_58 h, Option.bind_some, ldI_n (t98 h) (by omega) (by decide), Option.bind_some, (l.2 e he).2.1, Option.bind_some, ldI_n (t98 h) (by omega) (by decide), Option.bind_some, (l.2 t htl).2.1, jiv_n (t65 h), m_isTied h a hf (show w < 8 by omega) fe ft, jb2_some]
          have fin : ∀ z : Nat, z = (if eb (ws w) (fT b (ws x) (ws y) e) (fT b (ws x) (ws y) t) = true then 16 else 0) → j_X12_tiedOf_71 (l_X12_tiedOf_6 n) 65 (nI w) (nI e) (nI c) (nI t) (nI (tO b (ws x) (ws y) g e c t)) (nI z) M = some (nI (tO b (ws x) (ws y) g e c (itN b (ws x) (ws y))), M) := by
            intro z hz
            unfold j_X12_tiedOf_71 j_X12_tiedOf_97 j_X12_tiedOf_101
            rw [q65_58 h, Option.bind_some, ldI_n (t98 h) (by omega) (by decide), Option.bind_some, (l.2 t htl).2.1, Option.bind_some, ldI_n (t98 h) (by omega) (by decide), Option.bind_some, (l.2 e he).2.1, jiv_n (t65 h), m_isTied h a hf (show w < 8 by omega) ft fe, jb2_some]
            rw [← hz] at hd
            have go := ih (t + 1) (by omega) (by omega)
            rw [hd] at go
            cases hb2 : eb (ws w) (fT b (ws x) (ws y) t) (fT b (ws x) (ws y) e) with
            | false =>
              rw [hb2, if_neg (by decide)] at go
              rw [if_pos (show bI false = 0 from rfl), nI_add, nI_add, nI_add]
              exact go
            | true =>
              rw [hb2, if_pos rfl] at go
              rw [if_neg (show ¬ bI true = 0 by decide), nI_add, nI_add, nI_add]
              exact go
          cases hb1 : eb (ws w) (fT b (ws x) (ws y) e) (fT b (ws x) (ws y) t) with
          | false => rw [if_pos (show bI false = 0 from rfl)]; exact fin 0 (by rw [hb1]; rfl)
          | true => rw [if_neg (show ¬ bI true = 0 by decide)]; exact fin 16 (by rw [hb1]; rfl)
        · have hd2 : tO b (ws x) (ws y) g e c (t + 1) = tO b (ws x) (ws y) g e c t := by rw [hd, if_neg (fun q => hgc q.2)]; rfl
          rw [if_neg (fun q => hgc ((nI_eq (by omega) (by omega)).mp q)), nI_add, ← hd2]
          exact ih (t + 1) (by omega) (by omega)
      · have hd2 : tO b (ws x) (ws y) g e c (t + 1) = tO b (ws x) (ws y) g e c t := by rw [hd, if_neg (fun q => hs q.1)]; rfl
        rw [if_neg (fun q => hs ((nI_eq (by omega) (by omega)).mp q)), nI_add, ← hd2]
        exact ih (t + 1) (by omega) (by omega)
theorem m_tiedOf (hf : WF ws) (h : Sh M) (a : MA ws M) (l : LT b (ws x) (ws y) (itN b (ws x) (ws y)) M) (hg7 : ∀ e, e < itN b (ws x) (ws y) → g e < 72) (hg : ∀ e, e < itN b (ws x) (ws y) → rI M 95 e = nI (g e)) {w e c : Nat} (hw : w < 6) (he : e < itN b (ws x) (ws y)) (hc : c < 72) (ew : ws w = wdI b (ws x) (ws y) e) :
    f_X12_tiedOf 65 (nI w) (nI e) (nI c) M = some (nI (tO b (ws x) (ws y) g e c (itN b (ws x) (ws y))), M) := by
  have hN := itN_le (b := b) (hf x) (hf y)
  obtain ⟨n0, hn0⟩ := jF_is
  exact tied_6 hf h a l hg7 hg hw he hc ew jF0 0 (Nat.zero_le _) (by omega)
/-- which world an item is of, as the reference finds it -/
theorem sd_sel (z : Nat) : (sdI b (ws x) z = 0 ∧ ws x = wdI b (ws x) (ws y) z) ∨ (sdI b (ws x) z = 1 ∧ ws y = wdI b (ws x) (ws y) z) := by
  unfold sdI wdI
  by_cases hc : z < csz b (ws x).1
  · rw [if_pos hc, if_pos hc]; exact Or.inl ⟨rfl, rfl⟩
  · rw [if_neg hc, if_neg hc]; exact Or.inr ⟨rfl, rfl⟩
theorem stay0_27 (hf : WF ws) (hx : x < 6) (hy : y < 6) (h : Sh M) (a : MA ws M) (l : LT false (ws x) (ws y) (itN false (ws x) (ws y)) M) (hg7 : ∀ e, e < itN false (ws x) (ws y) → g e < 72) (hg : ∀ e, e < itN false (ws x) (ws y) → rI M 95 e = nI (g e)) {K e q : Nat} (hK : K ≤ 72) (hk : rI M 65 51 = nI K) (he : e < itN false (ws x) (ws y)) (hq : q < itN false (ws x) (ws y)) :
    ∀ (n c : Nat) (p : Bool), c ≤ K → K - c < n → l_X12_staysWith_27 n 65 (nI x) (nI y) (nI 0) (nI e) (nI q) (bI p) (nI c) M = some (bI (p && allB K (fun k => decide (k < c) || decide (tO false (ws x) (ws y) g e k (itN false (ws x) (ws y)) = tO false (ws x) (ws y) g q k (itN false (ws x) (ws y))))), M) := by
  have hN := itN_le (b := false) (hf x) (hf y)
  intro n
  induction n with
  | zero => intro c p _ q; omega
  | succ n ih =>
    intro c p hc hn
    show b_X12_staysWith_27 (l_X12_staysWith_27 n) 65 (nI x) (nI y) (nI 0) (nI e) (nI q) (bI p) (nI c) M = _
    unfold b_X12_staysWith_27
    rw [gI_n (t65 h), Option.bind_some, hk]
    have done : ∀ r : Bool, j_X12_staysWith_107 65 (nI 0) (nI e) (nI q) (bI r) M = some (bI r, M) := by
      intro r
      unfold j_X12_staysWith_107 j_X12_staysWith_188
      cases r with
      | false => rw [if_pos (show bI false = 0 from rfl)]; exact rZ_n (p := false)
      | true => rw [if_neg (show ¬ bI true = 0 by decide), if_pos (show nI 0 = 0 from rfl)]; exact rZ_n (p := true)
    by_cases hcK : K ≤ c
    · rw [if_pos (nI_le hcK (by omega)), allB_end hcK, Bool.and_true]
      exact done p
    · rw [if_neg (nI_ge (by omega) (by omega))]
      cases p with
      | false =>
        rw [if_pos (show bI false = 0 from rfl), Bool.false_and]
        exact done false
      | true =>
        rw [if_neg (show ¬ bI true = 0 by decide), if_pos (show nI 0 = 0 from rfl), q65_57 h, Option.bind_some, ldI_n (t97 h) (by omega) (by decide), Option.bind_some, (l.2 e he).1, Bool.true_and, allB_at (f := fun k => decide (tO false (ws x) (ws y) g e k (itN false (ws x) (ws y)) = tO false (ws x) (ws y) g q k (itN false (ws x) (ws y)))) (by omega)]
        have b1 := tO_le (b := false) (u := ws x) (v := ws y) (g := g) (e := e) (c := c) (itN false (ws x) (ws y))
        have b2 := tO_le (b := false) (u := ws x) (v := ws y) (g := g) (e := q) (c := c) (itN false (ws x) (ws y))
        have s84 : ∀ w2, w2 < 6 → ws w2 = wdI false (ws x) (ws y) q → j_X12_staysWith_84 (l_X12_staysWith_27 n) 65 (nI x) (nI y) (nI 0) (nI e) (nI q) (nI c) (nI (tO false (ws x) (ws y) g e c (itN false (ws x) (ws y)))) 65 (nI w2) M = some (bI (decide (tO false (ws x) (ws y) g e c (itN false (ws x) (ws y)) = tO false (ws x) (ws y) g q c (itN false (ws x) (ws y))) && allB K (fun k => decide (k < c + 1) || decide (tO false (ws x) (ws y) g e k (itN false (ws x) (ws y)) = tO false (ws x) (ws y) g q k (itN false (ws x) (ws y))))), M) := by
          intro w2 hw2 ew2
          unfold j_X12_staysWith_84 j_X12_staysWith_99
          rw [jiv_n (t65 h), m_tiedOf hf h a l hg7 hg hw2 hq (by omega) ew2, jb2_some, nI_add]
          by_cases ht : tO false (ws x) (ws y) g e c (itN false (ws x) (ws y)) = tO false (ws x) (ws y) g q c (itN false (ws x) (ws y))
          · rw [if_pos (by rw [ht]), decide_eq_true ht]
            exact ih (c + 1) true (by omega) (by omega)
          · rw [if_neg (fun k => ht ((nI_eq (by omega) (by omega)).mp k)), decide_eq_false ht]
            exact ih (c + 1) false (by omega) (by omega)
        have s61 : ∀ w1, w1 < 6 → ws w1 = wdI false (ws x) (ws y) e → j_X12_staysWith_61 (l_X12_staysWith_27 n) 65 (nI x) (nI y) (nI 0) (nI e) (nI q) (nI c) 65 (nI w1) M = some (bI (decide (tO false (ws x) (ws y) g e c (itN false (ws x) (ws y)) = tO false (ws x) (ws y) g q c (itN false (ws x) (ws y))) && allB K (fun k => decide (k < c + 1) || decide (tO false (ws x) (ws y) g e k (itN false (ws x) (ws y)) = tO false (ws x) (ws y) g q k (itN false (ws x) (ws y))))), M) := by
          intro w1 hw1 ew1
          unfold j_X12_staysWith_61
          rw [jiv_n (t65 h), m_tiedOf hf h a l hg7 hg hw1 he (by omega) ew1, jb2_some, q65_57 h, Option.bind_some, ldI_n (t97 h) (by omega) (by decide), Option.bind_some, (l.2 q hq).1]
          rcases sd_sel (b := false) (ws := ws) (x := x) (y := y) q with ⟨s1, s2⟩ | ⟨s1, s2⟩
          · rw [s1, if_pos (show nI 0 = 0 from rfl)]; exact s84 x hx s2
          · rw [s1, if_neg (show ¬ nI 1 = 0 by decide)]; exact s84 y hy s2
        rcases sd_sel (b := false) (ws := ws) (x := x) (y := y) e with ⟨s1, s2⟩ | ⟨s1, s2⟩
        · rw [s1, if_pos (show nI 0 = 0 from rfl)]; exact s61 x hx s2
        · rw [s1, if_neg (show ¬ nI 1 = 0 by decide)]; exact s61 y hy s2
end M2
