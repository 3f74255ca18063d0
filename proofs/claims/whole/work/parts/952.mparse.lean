/-! READING: the reference's loop, step by step. -/
abbrev lp (F : Nat) (v : Int32) (M : jM) : jO Unit := l_X12_parse_40 F 65 v M
section MZ9
variable {M : jM} {t : Tp} {a c s q b q0 m p w : Nat} {l : Nat → Nat} {ia : Option Nat}
theorem it_b (B : BS t a c s q l M) (F : Nat) : lp (F + 1) (nI 1) M = jb2 (f_X12_beginPart 65 M) fun x4 M3 => if x4 = 0 then j_X12_parse_95 (l_X12_parse_40 F) 65 (nI 1) M3 else j_X12_parse_95 (l_X12_parse_40 F) 65 (nI 0) M3 := by
  show b_X12_parse_40 (l_X12_parse_40 F) 65 (nI 1) M = _
  unfold b_X12_parse_40 j_X12_parse_70 j_X12_parse_86
  rw [gI_n (t65 B.1), Option.bind_some, B.2.2.2.2.1, if_neg (by decide), if_neg (by decide), if_neg (by decide), jiv_n (t65 B.1)]
theorem it_g (ht : VT t) (B : BS t a c s q l M) (hs : s ≤ 12) (hgo : 0 < s ∨ a < t.1) (F : Nat) : lp (F + 1) (nI 0) M = jb2 (f_X12_goOn 65 M) fun x2 M1 => j_X12_parse_95 (l_X12_parse_40 F) 65 x2 M1 := by
  have h8 := ht.1
  show b_X12_parse_40 (l_X12_parse_40 F) 65 (nI 0) M = _
  unfold b_X12_parse_40 j_X12_parse_70
  have y0 : nI 0 = (0 : Int32) := rfl
  rw [gI_n (t65 B.1), Option.bind_some, B.2.2.2.2.1, if_neg (by decide), if_pos y0, gI_n (t65 B.1), Option.bind_some, B.2.2.2.2.2.2.2.2.1]
  by_cases h1 : 0 < s
  · rw [if_pos (nI_lt (by omega) (by omega)), if_pos y0, jiv_n (t65 B.1)]
  · rw [if_neg (nI_nlt (by omega) (by omega)), gI_n (t65 B.1), Option.bind_some, B.2.2.1, gI_n (t65 B.1), Option.bind_some, B.2.1.1, if_neg (nI_ge (by omega) (by omega)), if_pos y0, jiv_n (t65 B.1)]
theorem it_95 (ht : VT t) (B : BS t a c s q l M) : ∃ N, (∀ F v, j_X12_parse_95 (l_X12_parse_40 F) 65 v M = lp F v N) ∧ Ey P36 M N ∧ BS t (sk t a) c s q l N := by
  obtain ⟨N, n1, n2, n3⟩ := bs_skip ht B
  refine ⟨N, fun F v => ?_, n2, n3⟩
  unfold j_X12_parse_95
  rw [gI_n (t65 B.1), Option.bind_some, B.2.2.2.2.1, if_neg (by decide), jiv_n (t65 B.1), n1, jb2_some]
theorem it_95w (W : BW w M) (F : Nat) (v : Int32) : j_X12_parse_95 (l_X12_parse_40 (F + 1)) 65 v M = some ((), M) := by
  obtain ⟨w1, w2, w3⟩ := W
  unfold j_X12_parse_95
  rw [gI_n (t65 w1), Option.bind_some, w2, if_pos (nI_pos' (by omega))]
  show b_X12_parse_40 (l_X12_parse_40 F) 65 v M = _
  unfold b_X12_parse_40
  rw [gI_n (t65 w1), Option.bind_some, w2, if_pos (nI_pos' (by omega))]
  rfl
/-- it ends, wrong at w -/
def QB (t : Tp) (w p : Nat) (v : Int32) (M : jM) : Prop := ∃ k N, k + sk t p ≤ t.1 + 3 ∧ (∀ F, lp (F + k) v M = some ((), N)) ∧ Ey PGr M N ∧ BW w N
/-- the rows below stay -/
def LoS (b : Nat) (M N : jM) : Prop := ∀ i, i ≤ b → rI N 84 i = rI M 84 i ∧ rI N 85 i = rI M 85 i ∧ rI N 86 i = rI M 86 i
def LoN (c : Nat) (ia : Option Nat) (M N : jM) : Prop := ∀ i, i < c → rI N 80 i = rI M 80 i ∧ rI N 82 i = rI M 82 i ∧ rI N 81 i = if ia = some i then rI M 81 i + nI 1 else rI M 81 i
def QG (t : Tp) (b q0 q c : Nat) (l : Nat → Nat) (ia : Option Nat) (p : Nat) (v : Int32) (f : Fm) (p' : Nat) (M : jM) : Prop := ∃ k N, k + sk t p ≤ sk t p' ∧ (∀ F, lp (F + k) v M = lp F (nI 0) N) ∧ BS t (sk t p') (c + sz f) b q0 l N ∧ Ey PGr M N ∧ Nr (rI N 80) (rI N 81) (rI N 82) c q f ∧ LoS b M N ∧ LoN c ia M N
def QP (t : Tp) (b q0 q c : Nat) (l : Nat → Nat) (ia : Option Nat) (p : Nat) (v : Int32) (r : Rs Fm) (M : jM) : Prop := match r with
  | .inl w => QB t w p v M
  | .inr (f, p') => QG t b q0 q c l ia p v f p' M
def HRm (t : Tp) (s q : Nat) (l : Nat → Nat) (prec : Nat → Rs Fm) : Prop := ∀ b m q0 p c M ia, s = b + m → BS t (sk t p) c s q l M → fr M b q0 m q → rI M 84 b = nI 0 → IA M b c ia → c ≤ p → QP t b q0 q c l ia p (nI 1) (prec p) M
theorem LoS.tr {M N O : jM} (h : LoS b M N) (k : LoS b N O) : LoS b M O := fun i hi => ⟨(k i hi).1.trans (h i hi).1, (k i hi).2.1.trans (h i hi).2.1, (k i hi).2.2.trans (h i hi).2.2⟩
theorem LoS_ey {P : Nat → Nat → Prop} {N : jM} (e : Ey P M N) (h : ∀ c k, 84 ≤ c → c ≤ 86 → ¬ P c k) : LoS b M N := fun i _ => ⟨ey_rI e (h _ _ (by decide) (by decide)), ey_rI e (h _ _ (by decide) (by decide)), ey_rI e (h _ _ (by decide) (by decide))⟩
theorem LoN_ey {P : Nat → Nat → Prop} {N : jM} (e : Ey P M N) (h : ∀ c k, 80 ≤ c → c ≤ 82 → ¬ P c k) : LoN c none M N := fun i _ => ⟨ey_rI e (h _ _ (by decide) (by decide)), ey_rI e (h _ _ (by decide) (by decide)), by rw [if_neg (by simp)]; exact ey_rI e (h _ _ (by decide) (by decide))⟩
theorem LoN.tr {M N O : jM} (h : LoN c none M N) (k : LoN c ia N O) : LoN c ia M O := fun i hi => by
  obtain ⟨h1, h2, h3⟩ := h i hi
  obtain ⟨k1, k2, k3⟩ := k i hi
  rw [if_neg (by simp)] at h3
  exact ⟨k1.trans h1, k2.trans h2, by rw [k3, h3]⟩
theorem LoN.tr2 {M N O : jM} (h : LoN c ia M N) (k : LoN c none N O) : LoN c ia M O := fun i hi => by
  obtain ⟨h1, h2, h3⟩ := h i hi
  obtain ⟨k1, k2, k3⟩ := k i hi
  rw [if_neg (by simp)] at k3
  exact ⟨k1.trans h1, k2.trans h2, by rw [k3, h3]⟩
theorem P36_s : ∀ c k, 84 ≤ c → c ≤ 86 → ¬ P36 c k := fun c k h _ => by unfold P36; omega
theorem P36_n : ∀ c k, 80 ≤ c → c ≤ 82 → ¬ P36 c k := fun c k h _ => by unfold P36; omega
/-- an iteration ahead of a bad end -/
theorem QB_it {M1 : jM} {v v1 : Int32} {p1 : Nat} (it : ∀ F, lp (F + 1) v M = lp F v1 M1) (e : Ey PGr M M1) (hp : sk t p + 1 ≤ sk t p1) (Q : QB t w p1 v1 M1) : QB t w p v M := by
  obtain ⟨k, N, k1, k2, k3, k4⟩ := Q
  exact ⟨k + 1, N, by omega, fun F => by rw [← Nat.add_assoc, it, k2], e.tr k3, k4⟩
theorem qp_wrap {M1 : jM} {k q' p1 : Nat} {l' : Nat → Nat} (hk : k = 45 ∨ k = 64 ∨ k = 63) (hq' : q' = if isQ k = true then q + 1 else q) (hll : ∀ j, j < q0 → l' j = l j) (it : ∀ F, lp (F + 1) (nI 1) M = lp F (nI 1) M1) (e : Ey PGr M M1) (lo : LoS b M M1) (ln : LoN c none M M1) (n1 : rI M1 80 c = nI (rk k)) (n2 : rI M1 81 c = nI (if isQ k = true then q else 0)) (n3 : rI M1 82 c = nI 0) (hia : ia ≠ some c) (hp1 : sk t p + 1 ≤ sk t p1) {r : Rs Fm} (Q : QP t b q0 q' (c + 1) l' ia p1 (nI 1) r M1) : QP t b q0 q c l ia p (nI 1) (rmap r fun f p' => .inr (.branch k f (.leaf 0), p')) M := by
  cases r with
  | inl w => exact QB_it it e hp1 Q
  | inr x =>
    obtain ⟨f, p'⟩ := x
    obtain ⟨kk, N, k1, k2, k3, k4, k5, k6, k7⟩ := Q
    obtain ⟨b1, b2, b3, b4, b5, b6, b7, b8, b9, b10⟩ := k3
    obtain ⟨z1, z2, z3⟩ := k7 c (by omega)
    rw [if_neg hia] at z3
    refine ⟨kk + 1, N, by omega, fun F => by rw [← Nat.add_assoc, it, k2], ⟨b1, b2, b3, b4, b5, b6, b7, by rw [sz_u (by omega), b8]; congr 1; omega, b9, fun j hj => by rw [b10 j hj, hll j hj]⟩, e.tr k4, ?_, lo.tr k6, ln.tr (fun i hi => k7 i (by omega))⟩
    simp only [Nr]
    rw [if_neg (by omega)]
    refine ⟨⟨by rw [z1, n1], ?_, by rw [z2, n3]⟩, ?_⟩
    · rw [z3, n2]
      by_cases hQ : isQ k = true
      · rw [if_pos hQ, if_pos hQ]
      · have : k = 45 := by
          rcases hk with h | h | h
          · exact h
          · rw [h] at hQ; exact absurd rfl hQ
          · rw [h] at hQ; exact absurd rfl hQ
        rw [if_neg hQ, if_neg hQ, if_pos this]
    · rw [hq'] at k5; exact k5
/-- a bad turn of the loop -/
theorem QB_b (ht : VT t) {v : Int32} {x : Int32} (B : BS t (sk t p) c s q l M) {N : jM} (hb : f_X12_beginPart 65 M = some (x, N)) (e : Ey PGr M N) (W : BW w N) : QB t w p (nI 1) M := by
  refine ⟨2, N, by have := B.2.2.2.1; omega, fun F => ?_, e, W⟩
  show lp (F + 1 + 1) (nI 1) M = _
  rw [it_b B, hb, jb2_some, it_95w W, it_95w W]
  split <;> rfl
theorem QB_g (ht : VT t) {x : Int32} (B : BS t (sk t p) c s q l M) (hs : s ≤ 12) (hgo : 0 < s ∨ sk t p < t.1) {N : jM} (hb : f_X12_goOn 65 M = some (x, N)) (e : Ey PGr M N) (W : BW w N) : QB t w p (nI 0) M := by
  refine ⟨2, N, by have := B.2.2.2.1; omega, fun F => ?_, e, W⟩
  show lp (F + 1 + 1) (nI 0) M = _
  rw [it_g ht B hs hgo, hb, jb2_some, it_95w W]
/-- an atom is put down, and its part is done -/
theorem at_end (h9 : c + 1 < 1000) (B : BS t a c s q l M) (hs : s = b + m) (h12 : s ≤ 12) (hf : fr M b q0 m q) (h84 : rI M 84 b = nI 0) (hi : IA M b c ia) {K x y : Nat} (hK : K < 128) (hx : x < 128) (hy : y < 128) : ∃ N, j_X12_atom_40 65 (nI K) (nI x) (nI y) M = some ((), N) ∧ BS t a (c + 1) b q0 l N ∧ Ey PGr M N ∧ rI N 80 c = nI K ∧ rI N 81 c = nI x ∧ rI N 82 c = nI y ∧ LoS b M N ∧ LoN c ia M N := by
  obtain ⟨b1, b2, b3, b4, b5, b6, b7, b8, b9, b10⟩ := B
  have e := em_ey (M := M) (c := c) (k := K) (y := y) (x := nI x)
  have hne : ∀ d i, ¬ PNm d i → rI (em M c K (nI x) y) d i = rI M d i := fun d i hd => ey_rI e hd
  have B1 : BS t a (c + 1) s q l (em M c K (nI x) y) := ⟨Sh_ey e b1, MT_g (e.mono fun _ _ => PNm_G) b2, by rw [hne _ _ (by unfold PNm; omega)]; exact b3, b4, by rw [hne _ _ (by unfold PNm; omega)]; exact b5, by rw [hne _ _ (by unfold PNm; omega)]; exact b6, by rw [hne _ _ (by unfold PNm; omega)]; exact b7, em_c, by rw [hne _ _ (by unfold PNm; omega)]; exact b9, fun k hk => by rw [hne _ _ (by unfold PNm; omega)]; exact b10 k hk⟩
  have hi1 : IA (em M c K (nI x) y) b (c + 1) ia := by
    cases ia with
    | none => show rI _ 86 b = nI 0; rw [hne _ _ (by unfold PNm; omega)]; exact hi
    | some z => exact ⟨by rw [hne _ _ (by unfold PNm; omega)]; exact hi.1, by rw [hne _ _ (by unfold PNm; omega)]; exact hi.2.1, by have := hi.2.2; omega⟩
  have hia : ia ≠ some c := fun z => by subst z; have := hi.2.2; omega
  obtain ⟨N, n1, n2, n3, n4⟩ := m_pd (by omega) B1 hs h12 (fr_same m q (fun i _ => hne _ _ (by unfold PNm; omega)) hf) (by rw [hne _ _ (by unfold PNm; omega)]; exact h84) hi1
  unfold j_X12_atom_40
  rw [if_neg (nI_pos (by omega)), if_neg (nI_pos (by omega)), jiv_n (t65 b1), m_emit b1 b8 (by omega) hK hy, jb2_some, jiv_n (t65 B1.1), n1, jb2_some]
  refine ⟨N, rfl, n2, (e.mono fun _ _ => PNm_G).tr (n3.mono fun _ _ => P3x_G), ?_, ?_, ?_, fun i _ => ⟨?_, ?_, ?_⟩, fun i hi => ⟨?_, ?_, ?_⟩⟩
  · rw [ey_rI n3 (by unfold P3x; omega), em_k, if_pos rfl]
  · rw [n4, if_neg hia, em_x, if_pos rfl]
  · rw [ey_rI n3 (by unfold P3x; omega), em_y, if_pos rfl]
  · rw [ey_rI n3 (by unfold P3x; omega), hne _ _ (by unfold PNm; omega)]
  · rw [ey_rI n3 (by unfold P3x; omega), hne _ _ (by unfold PNm; omega)]
  · rw [ey_rI n3 (by unfold P3x; omega), hne _ _ (by unfold PNm; omega)]
  · rw [ey_rI n3 (by unfold P3x; omega), em_k, if_neg (by omega)]
  · rw [ey_rI n3 (by unfold P3x; omega), em_y, if_neg (by omega)]
  · have z : rI (em M c K (nI x) y) 81 i = rI M 81 i := by rw [em_x, if_neg (by omega)]
    rw [n4, z]
end MZ9
