/-! READING: the class reads parts and texts. -/
section XG
variable {M : jM} {t : Tp} {p c q w s : Nat} {ow : Nat → Nat}
theorem al_31 {l v : Nat} (hl : l < 8) (a : AL t p c ow M) : AL t p c (up1 ow l v) (wI M 31 l (nI v)) := by
  obtain ⟨a1, a2, a3, a4, a5, a6, a7⟩ := a
  have e : Ey PQ M (wI M 31 l (nI v)) := ey_wI Ey.rf (Or.inr (Or.inl rfl))
  refine ⟨Sh_ey e a1, XT_q e a2, by rw [rI_wI, if_neg (by omega)]; exact a3, a4, by rw [rI_wI, if_neg (by omega)]; exact a5, by rw [rI_wI, if_neg (by omega)]; exact a6, fun j hj => ?_⟩
  rw [rI_wI]
  unfold up1
  by_cases hjl : j = l
  · rw [if_pos ⟨rfl, hjl⟩, if_pos hjl]
  · rw [if_neg (by omega), if_neg hjl]; exact a7 j hj
theorem al_31b {l v : Nat} (hl : l < 8) (a : AL t p c (up1 ow l v) M) : AL t p c ow (wI M 31 l (nI (ow l))) := by
  have z := al_31 (v := ow l) hl a
  have : up1 (up1 ow l v) l (ow l) = ow := by
    funext j
    unfold up1
    by_cases hjl : j = l
    · rw [if_pos hjl, hjl]
    · rw [if_neg hjl, if_neg hjl]
  rw [this] at z
  exact z
theorem de_31 {l : Nat} {x : Int32} (d : DE t w M) : DE t w (wI M 31 l x) := by
  obtain ⟨d1, d2, d3, d4, ⟨p, d5, d6⟩, c, d7, d8⟩ := d
  have e : Ey PQ M (wI M 31 l x) := ey_wI Ey.rf (Or.inr (Or.inl rfl))
  exact ⟨Sh_ey e d1, XT_q e d2, by rw [rI_wI, if_neg (by omega)]; exact d3, d4, ⟨p, d5, by rw [rI_wI, if_neg (by omega)]; exact d6⟩, c, d7, by rw [rI_wI, if_neg (by omega)]; exact d8⟩
theorem x_quant (ht : VT t) {k : Nat} {rc : Nat → Nat → Int32 → Int32 → jM → jO Unit} {pr : (Nat → Nat) → Nat → Rs Fm} (hk : k = 64 ∨ k = 63) (hq : q < 8) (ho : ∀ j, ow j ≤ 8) (hr : ∀ l, l < 8 → HRx t rc (s + 1) (q + 1) (up1 ow l (q + 1)) (pr (up1 ow l (q + 1)))) (hro : ∀ l, l < 8 → ∀ p f p', pr (up1 ow l (q + 1)) p = .inr (f, p') → RO t (s + 1) (q + 1) p f p') (a : AL t p c ow M) (hc : c < p) :
    ∃ N, f_X8_parseQuantified rc 29 32 (nI k) (nI (s + 1)) (nI (q + 1)) M = some ((), N) ∧ PO t q c ow (if 97 ≤ pb t p ∧ pb t p ≤ 104 then rmap (pr (up1 ow (pb t p - 97) (q + 1)) (sk t p + 1)) fun f p1 => .inr (.branch k f (.leaf 0), p1) else .inl (sk t p)) M N := by
  have h800 := ht.1
  have hpt := a.2.2.2.1
  obtain ⟨N, n1, n2, n3⟩ := al_peek ht a
  have hN := n3.1
  unfold f_X8_parseQuantified
  rw [jiv_n (t29 a.1), n1, jb2_some, jv_b]
  obtain ⟨O, o1, o2, o3⟩ := al_fail ht (by omega) n3
  have bad : ¬ (97 ≤ pb t p ∧ pb t p ≤ 104) → ∃ N1, j_X8_parseQuantified_24 rc 29 N = some ((), N1) ∧ PO t q c ow (if 97 ≤ pb t p ∧ pb t p ≤ 104 then rmap (pr (up1 ow (pb t p - 97) (q + 1)) (sk t p + 1)) fun f p1 => .inr (.branch k f (.leaf 0), p1) else .inl (sk t p)) M N1 := by
    intro hb
    unfold j_X8_parseQuantified_24
    rw [jiv_n (t29 hN), o1, jb2_some, if_neg hb]
    exact ⟨O, rfl, (n2.mono fun _ _ => P2_Q).tr (o2.mono fun _ _ h => P23_Q (P3_23 h)), o3⟩
  rcases pbI_let (p := p) ht with ⟨h1, h2, h3⟩ | ⟨h1, h2⟩
  · rw [h3, if_neg (nI_pos (by omega)), q29_4 hN, Option.bind_some, ln_n (t31 hN) (by decide) (by decide), Option.bind_some]
    by_cases h4 : 8 ≤ pb t p - 97
    · rw [if_neg (nI_nlt h4 (by omega))]
      exact bad (by omega)
    · have hlt := pb_lt h2
      have hl : pb t p - 97 < 8 := by omega
      obtain ⟨z1, z2⟩ := al_next ht n3 hlt
      rw [gI_n (t29 hN), Option.bind_some] at z1
      have z3 := al_31 (v := q + 1) hl z2
      have hen := enc_n k (by omega) (q + 1) (by omega) (wI (wI N 29 2 (nI (sk t p + 1))) 31 (pb t p - 97) (nI (q + 1)))
      have hs := (sk_ge (t := t) (p := p)).1
      obtain ⟨y1, y2, y3, y4, y5⟩ := al_add z3 (by omega) hen
      rw [if_pos (nI_lt (by omega) (by decide)), gI_n (t29 hN), Option.bind_some, z1, Option.bind_some, q29_4 z2.1, Option.bind_some, ldI_n (t31 z2.1) hl (by decide), Option.bind_some, Option.bind_some, stI_n (t31 z2.1) hl (by decide), Option.bind_some, jiv_n (t32 z3.1), y1, jb2_some, jiv_n (t29 y3.1), z2.2.2.2.2.2.2 _ hl, if_pos ⟨h1, by omega⟩]
      obtain ⟨U, u1, u2⟩ := hr _ hl _ _ _ y3 (by omega)
      rw [u1, jb2_some]
      have e1 : Ey PQ M (wI (wI (wI (wI N 29 2 (nI (sk t p + 1))) 31 (pb t p - 97) (nI (q + 1))) 33 c (nI (k + 256 * (q + 1) + 65536))) 32 1 (nI (c + 1))) := ((ey_wI (ey_wI (n2.mono fun _ _ => P2_Q) (Or.inl ⟨rfl, Or.inl rfl⟩)) (Or.inr (Or.inl rfl)))).tr (y2.mono fun _ _ => PNo_Q)
      cases hx : pr (up1 ow (pb t p - 97) (q + 1)) (sk t p + 1) with
      | inl w =>
        rw [hx] at u2
        obtain ⟨u3, u4⟩ := u2
        obtain ⟨V, v1, v2, v3⟩ := de_close u4 (b := c) (by omega)
        rw [jiv_n (t32 u4.1), v1, jb2_some, q29_4 v3.1, Option.bind_some, stI_n (t31 v3.1) hl (by decide), Option.bind_some]
        exact ⟨_, rfl, ey_wI ((e1.tr u3).tr (v2.mono fun _ _ => PNo_Q)) (Or.inr (Or.inl rfl)), de_31 v3⟩
      | inr x =>
        obtain ⟨f, p1⟩ := x
        obtain ⟨r1, r2, r3, r4, r5⟩ := hro _ hl _ _ _ hx
        rw [hx] at u2
        obtain ⟨u3, p2, u4, u5, u6, u7, u8⟩ := u2
        obtain ⟨v1, v2, v3⟩ := PO_close (f := f) (k := 0) ht (v := k + 256 * (q + 1)) (by omega) (by omega) (by rw [u8 c (by omega), y4]) u4
        rw [jiv_n (t32 u4.1), v1, jb2_some, q29_4 v3.1, Option.bind_some, stI_n (t31 v3.1) hl (by decide), Option.bind_some]
        refine ⟨_, rfl, ey_wI ((e1.tr u3).tr (v2.mono fun _ _ => PNo_Q)) (Or.inr (Or.inl rfl)), p2, by rw [sz_u (by omega), ← Nat.add_assoc, Nat.add_right_comm]; exact al_31b hl v3, u5, u6, ?_, fun i hi => ?_⟩
        · simp only [Nx]
          rw [if_neg (by omega), if_pos (by rcases hk with rfl | rfl <;> rfl)]
          refine ⟨by rw [rI_wI, if_neg (by omega), rI_wI, if_pos ⟨rfl, rfl⟩], Nx_congr f (c + 1) (c + 1) (q + 1) (fun i hi => by rw [rI_wI, if_neg (by omega), rI_wI, if_neg (by omega)]) u7⟩
        · rw [rI_wI, if_neg (by omega), rI_wI, if_neg (by omega), u8 i (by omega), y5 i hi, rI_wI, if_neg (by omega), rI_wI, if_neg (by omega), ey_rI n2 (by unfold P2; omega)]
  · rw [if_pos h2]
    exact bad (by omega)
theorem x_expect (ht : VT t) {k : Nat} (hk : k < 256) (h8 : c ≤ 800) (a : AL t p c ow M) : ∃ N, f_X8_expect 29 (nI k) M = some ((), N) ∧ Ey P23 M N ∧ (pb t p = k → AL t (sk t p + 1) c ow N) ∧ (pb t p ≠ k → DE t (sk t p) N) := by
  obtain ⟨N, n1, n2, n3⟩ := al_peek ht a
  unfold f_X8_expect
  rw [jiv_n (t29 a.1), n1, jb2_some]
  by_cases h : pb t p = k
  · have hm : ¬ (nI k = (-1 : Int32)) := fun z => absurd (show (-1 : Int32) < 0 by decide) (by rw [← z]; exact nI_pos (by omega))
    obtain ⟨z1, z2⟩ := al_next ht n3 (pb_lt (by omega))
    rw [gI_n (t29 n3.1), Option.bind_some] at z1
    rw [if_pos ((pbI_eq ht hk).mpr h), if_neg hm, gI_n (t29 n3.1), Option.bind_some, z1, Option.bind_some]
    exact ⟨_, rfl, (n2.mono fun _ _ => P2_23).tr (ey_wI Ey.rf ⟨rfl, Or.inl rfl⟩), fun _ => z2, fun z => absurd h z⟩
  · obtain ⟨O, o1, o2, o3⟩ := al_fail ht h8 n3
    rw [if_neg (fun z => h ((pbI_eq ht hk).mp z)), jiv_n (t29 n3.1), o1, jb2_some]
    exact ⟨O, rfl, (n2.mono fun _ _ => P2_23).tr (o2.mono fun _ _ => P3_23), fun z => absurd z h, fun _ => o3⟩
theorem x_expectD (ht : VT t) (k : Int32) (d : DE t w M) : ∃ N, f_X8_expect 29 k M = some ((), N) ∧ Ey P23 M N ∧ DE t w N := by
  obtain ⟨N, v, n1, n2, n3, p, hp, n4, n5⟩ := de_peek ht d
  have n2' := n2.mono fun c k h => P2_23 h
  unfold f_X8_expect
  rw [jiv_n (t29 d.1), n1, jb2_some]
  by_cases h : v = k
  · rw [if_pos h]
    by_cases h1 : k = -1
    · rw [if_pos h1]; exact ⟨N, rfl, n2', n3⟩
    · have hv : p < t.1 := by
        rcases n5 with h5 | h5
        · exact absurd (h ▸ h5) h1
        · exact h5
      have e : Ey P2 N (wI N 29 2 (nI (p + 1))) := ey_wI Ey.rf ⟨rfl, rfl⟩
      obtain ⟨c, hc, hc2⟩ := n3.2.2.2.2.2
      rw [if_neg h1, gI_n (t29 n3.1), Option.bind_some, n4, nI_add, pI_n (t29 n3.1), Option.bind_some]
      exact ⟨_, rfl, n2'.tr (e.mono fun c k h => P2_23 h), DE_ey e (fun c k h => P23_Q (P2_23 h)) (by unfold P2; omega) (p := p + 1) (by omega) (by rw [rI_wI, if_pos ⟨rfl, rfl⟩]) ⟨c, hc, by rw [ey_rI e (by unfold P2; omega)]; exact hc2⟩ n3⟩
  · rw [if_neg h, jiv_n (t29 n3.1), de_fail ht n3, jb2_some]
    exact ⟨N, rfl, n2', n3⟩
theorem x_part (ht : VT t) : ∀ (n m s q : Nat) (ow : Nat → Nat), n + s = 13 → s ≤ 12 → n ≤ m → q ≤ 8 → (∀ j, ow j ≤ q) → HRx t (f_X8_parsePart m) s q ow (pPart t n s q ow) := by
  have h800 := ht.1
  intro n
  induction n with
  | zero => intro m s q ow h1 h2; omega
  | succ n ih =>
    intro m s q ow hns hs12 hm hq8 ho p c M a hcp
    obtain ⟨m, rfl⟩ : ∃ k, m = k + 1 := ⟨m - 1, by omega⟩
    show ∃ N, g_X8_parsePart (f_X8_parsePart m) 29 32 (nI s) (nI q) M = some ((), N) ∧ _
    have hpt := a.2.2.2.1
    have hs := (sk_ge (t := t) (p := p)).1
    obtain ⟨N, n1, n2, n3⟩ := al_peek ht a
    have hN := n3.1
    have n2Q : Ey PQ M N := n2.mono fun _ _ => P2_Q
    unfold g_X8_parsePart
    rw [jiv_n (t29 a.1), n1, jb2_some, isQ_n ht, jb2_some, pPart]
    have bad : ∃ N1, j_X8_parsePart_57 (f_X8_parsePart m) 29 N = some ((), N1) ∧ PO t q c ow (.inl (sk t p)) M N1 := by
      obtain ⟨O, o1, o2, o3⟩ := al_fail ht (by omega) n3
      unfold j_X8_parsePart_57
      rw [jiv_n (t29 hN), o1, jb2_some]
      exact ⟨O, rfl, n2Q.tr (o2.mono fun _ _ h => P23_Q (P3_23 h)), o3⟩
    by_cases hQ : isQ (pb t p) = true
    · have hk : pb t p = 64 ∨ pb t p = 63 := by simpa [isQ] using hQ
      have hlt := pb_lt (t := t) (p := p) (by omega)
      rw [hQ, if_neg (by decide), if_pos (show true = true from rfl)]
      unfold j_X8_parsePart_40
      by_cases h12 : 12 ≤ s
      · rw [if_pos (nI_le h12 (by omega)), if_pos (Or.inl h12)]; exact bad
      · rw [if_neg (nI_ge (by omega) (by decide)), if_neg (by decide)]
        by_cases h8 : 8 ≤ q
        · rw [if_neg (nI_nlt h8 (by omega)), if_pos (Or.inr h8)]; exact bad
        · obtain ⟨z1, z2⟩ := al_next ht n3 hlt
          rw [gI_n (t29 hN), Option.bind_some] at z1
          unfold j_X8_parsePart_62
          rw [if_pos (nI_lt (by omega) (by decide)), if_neg (by omega), gI_n (t29 hN), Option.bind_some, z1, Option.bind_some, if_neg (by decide), nI_add, nI_add, jiv_n (t29 z2.1), (pbI_eq ht (show pb t p < 256 by omega)).mpr rfl]
          have hup : ∀ l, l < 8 → ∀ j, up1 ow l (q + 1) j ≤ q + 1 := fun l _ j => by
            unfold up1
            split
            · omega
            · have := ho j; omega
          obtain ⟨O, o1, o2⟩ := x_quant (s := s) (pr := pPart t n (s + 1) (q + 1)) ht hk (by omega) (fun j => by have := ho j; omega) (fun l hl => ih m (s + 1) (q + 1) _ (by omega) (by omega) (by omega) (by omega) (hup l hl)) (fun l hl p f p' hh => pPart_ok n (s + 1) (q + 1) _ p f p' (by omega) (hup l hl) (by omega) hh) z2 (by omega)
          rw [o1, jb2_some]
          have e1 : Ey P2 M (wI N 29 2 (nI (sk t p + 1))) := n2.tr (ey_wI Ey.rf ⟨rfl, rfl⟩)
          exact ⟨O, rfl, PO_w (e1.mono fun _ _ => P2_Q) (P2_c33 e1) o2⟩
    · have hQf : isQ (pb t p) = false := by simpa using hQ
      rw [if_neg hQ, hQf, if_pos (show bI false = 0 from rfl)]
      by_cases h45 : pb t p = 45
      · have hlt := pb_lt (t := t) (p := p) (by omega)
        rw [if_pos ((pbI_eq ht (by decide)).mpr h45), if_pos h45]
        unfold j_X8_parsePart_40
        by_cases h12 : 12 ≤ s
        · rw [if_pos (nI_le h12 (by omega)), if_pos h12]; exact bad
        · obtain ⟨z1, z2⟩ := al_next ht n3 hlt
          rw [gI_n (t29 hN), Option.bind_some] at z1
          unfold j_X8_parsePart_62
          have hen := enc_n 45 (by omega) 0 (by omega) (wI N 29 2 (nI (sk t p + 1)))
          obtain ⟨y1, y2, y3, y4, y5⟩ := al_add z2 (by omega) hen
          rw [if_neg (nI_ge (by omega) (by decide)), if_pos (show bI false = 0 from rfl), gI_n (t29 hN), Option.bind_some, z1, Option.bind_some, if_pos (show bI false = 0 from rfl), if_pos ((pbI_eq ht (by decide)).mpr h45), if_neg h12, jiv_n (t32 z2.1), y1, jb2_some, nI_add, jiv_n (t29 y3.1)]
          obtain ⟨U, u1, u2⟩ := ih m (s + 1) q ow (by omega) (by omega) (by omega) hq8 ho _ _ _ y3 (by omega)
          rw [u1, jb2_some]
          have e0 : Ey P2 M (wI N 29 2 (nI (sk t p + 1))) := n2.tr (ey_wI Ey.rf ⟨rfl, rfl⟩)
          have e1 := (e0.mono fun _ _ => P2_Q).tr (y2.mono fun _ _ => PNo_Q)
          cases hx : pPart t n (s + 1) q ow (sk t p + 1) with
          | inl w =>
            rw [hx] at u2
            obtain ⟨u3, u4⟩ := u2
            obtain ⟨V, v1, v2, v3⟩ := de_close u4 (b := c) (by omega)
            rw [jiv_n (t32 u4.1), v1, jb2_some]
            exact ⟨_, rfl, (e1.tr u3).tr (v2.mono fun _ _ => PNo_Q), v3⟩
          | inr x =>
            obtain ⟨f, p1⟩ := x
            obtain ⟨r1, r2, r3, r4, r5⟩ := pPart_ok n (s + 1) q ow _ f p1 hq8 ho (by omega) hx
            rw [hx] at u2
            obtain ⟨u3, p2, u4, u5, u6, u7, u8⟩ := u2
            obtain ⟨v1, v2, v3⟩ := PO_close (f := f) (k := 0) ht (v := 45) (by omega) (by omega) (by rw [u8 c (by omega), y4]) u4
            rw [jiv_n (t32 u4.1), v1, jb2_some]
            refine ⟨_, rfl, (e1.tr u3).tr (v2.mono fun _ _ => PNo_Q), p2, by rw [sz_u (by omega), ← Nat.add_assoc, Nat.add_right_comm]; exact v3, u5, u6, ?_, fun i hi => ?_⟩
            · simp only [Nx]
              rw [if_neg (by omega), if_neg (by decide)]
              refine ⟨by rw [rI_wI, if_pos ⟨rfl, rfl⟩], Nx_congr f (c + 1) (c + 1) q (fun i hi => by rw [rI_wI, if_neg (by omega)]) u7⟩
            · rw [rI_wI, if_neg (by omega), u8 i (by omega), y5 i hi, ey_rI e0 (by unfold P2; omega)]
      · rw [if_neg (fun z => h45 ((pbI_eq ht (by decide)).mp z)), if_neg h45]
        by_cases h40 : pb t p = 40
        · have hlt := pb_lt (t := t) (p := p) (by omega)
          rw [if_pos ((pbI_eq ht (by decide)).mpr h40), if_pos h40]
          unfold j_X8_parsePart_40
          by_cases h12 : 12 ≤ s
          · rw [if_pos (nI_le h12 (by omega)), if_pos h12]; exact bad
          · obtain ⟨z1, z2⟩ := al_next ht n3 hlt
            rw [gI_n (t29 hN), Option.bind_some] at z1
            unfold j_X8_parsePart_62
            rw [if_neg (nI_ge (by omega) (by decide)), if_pos (show bI false = 0 from rfl), gI_n (t29 hN), Option.bind_some, z1, Option.bind_some, if_pos (show bI false = 0 from rfl), if_neg (fun z => h45 ((pbI_eq ht (by decide)).mp z)), if_neg h12, nI_add, jiv_n (t29 z2.1)]
            have hro : ∀ p f p', pPart t n (s + 1) q ow p = .inr (f, p') → RO t (s + 1) q p f p' := fun p f p' hh => pPart_ok n (s + 1) q ow p f p' hq8 ho (by omega) hh
            obtain ⟨U, u1, u2⟩ := x_form ht hq8 (ih m (s + 1) q ow (by omega) (by omega) (by omega) hq8 ho) hro z2 (by omega)
            have e0 : Ey P2 M (wI N 29 2 (nI (sk t p + 1))) := n2.tr (ey_wI Ey.rf ⟨rfl, rfl⟩)
            have u2 := PO_w (e0.mono fun _ _ => P2_Q) (P2_c33 e0) u2
            rw [u1, jb2_some]
            cases hx : pForm t (pPart t n (s + 1) q ow) (sk t p + 1) with
            | inl w =>
              rw [hx] at u2
              obtain ⟨u3, u4⟩ := u2
              obtain ⟨V, v1, v2, v3⟩ := x_expectD ht (nI 41) u4
              rw [jiv_n (t29 u4.1), v1, jb2_some]
              exact ⟨_, rfl, u3.tr (v2.mono fun _ _ => P23_Q), v3⟩
            | inr x =>
              obtain ⟨f, p1⟩ := x
              obtain ⟨r1, r2, r3, r4, r5⟩ := pForm_ok hro hx
              rw [hx] at u2
              obtain ⟨u3, p2, u4, u5, u6, u7, u8⟩ := u2
              obtain ⟨V, v1, v2, v3, v4⟩ := x_expect ht (k := 41) (by decide) (by omega) u4
              rw [jiv_n (t29 u4.1), v1, jb2_some]
              have hpb : pb t p2 = pb t p1 := by unfold pb; rw [u5]
              rw [hpb, u5] at v3
              rw [hpb, u5] at v4
              show ∃ N, _ ∧ PO t q c ow (if pb t p1 = 41 then _ else _) M N
              have e2 := u3.tr (v2.mono fun _ _ => P23_Q)
              by_cases h41 : pb t p1 = 41
              · rw [if_pos h41]
                exact ⟨V, rfl, e2, sk t p1 + 1, v3 h41, rfl, Nat.le_refl _, Nx_congr f c c q (fun i hi => ey_rI v2 (by unfold P23; omega)) u7, fun i hi => (ey_rI v2 (by unfold P23; omega)).trans (u8 i hi)⟩
              · rw [if_neg h41]
                exact ⟨V, rfl, e2, v4 h41⟩
        · rw [if_neg (fun z => h40 ((pbI_eq ht (by decide)).mp z)), if_neg h40, jiv_n (t29 hN)]
          obtain ⟨O, o1, o2⟩ := x_atom (q := q) ht (fun j => by have := ho j; omega) (by omega) n3
          rw [o1, jb2_some]
          exact ⟨O, rfl, PO_w n2Q (P2_c33 n2) o2⟩
end XG
