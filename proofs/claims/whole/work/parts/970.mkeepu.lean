/-! PARTINGS: the reference keeps a part that is unlike the others; it closes a list. -/
section KU
variable {M : jM} {q : Nat}
theorem n_stops (h : Sh M) {f : Fm} {p : Nat} (hf : wf 0 q f) (n : NRp M p q f) (hp : p + sz f ≤ 1000) : f_X12_stops 65 (nI p) M = some (nI (p + sz f), M) := by
  obtain ⟨n0, hn0⟩ := jF_is
  unfold f_X12_stops
  obtain ⟨F, hF⟩ : ∃ F, jF0 = F + 1 + sz f := ⟨jF0 - sz f - 1, by omega⟩
  rw [hF]
  have z := (stop_all h f q).1 hf (F + 1) 0 p n hp (by omega)
  rw [show nI 1 = nI (0 + 1) from rfl, z]
  show b_X12_stops_4 (l_X12_stops_4 F) 65 (nI 0) (nI (p + sz f)) M = _
  unfold b_X12_stops_4
  rw [if_pos (by decide)]
  rfl
def eq3 (M : jM) (a b n : Nat) : Prop := ∀ j, j < n → rI M 80 (a + j) = rI M 80 (b + j) ∧ rI M 81 (a + j) = rI M 81 (b + j) ∧ rI M 82 (a + j) = rI M 82 (b + j)
theorem cmp_l (h : Sh M) {k6 : Nat → Int32 → Int32 → Int32 → Int32 → jM → jO Int32} {place before start n stop many : Nat} (hc : rI M 65 23 = nI (place + many)) (h9 : place + many ≤ 1000) (hs : start + many ≤ 1000) (hn : n ≤ 100) : ∀ (F i : Nat), i ≤ many → many - i < F → (∀ j, j < i → rI M 80 (start + j) = rI M 80 (place + j) ∧ rI M 81 (start + j) = rI M 81 (place + j) ∧ rI M 82 (start + j) = rI M 82 (place + j)) → ∃ b : Bool, l_X12_keepUnlike_44 k6 (F + 1) 65 (nI place) (nI before) (nI start) (nI n) (nI stop) (nI 1) (nI i) M = (if b = true then some (nI before, wI M 65 23 (nI place)) else k6 65 (nI place) (nI before) (nI stop) (nI (n + 1)) M) ∧ (b = true ↔ eq3 M start place many) := by
  intro F
  induction F with
  | zero => intro i _ z; omega
  | succ F ih =>
    intro i hi hF hj
    show ∃ b : Bool, b_X12_keepUnlike_44 k6 (l_X12_keepUnlike_44 k6 (F + 1)) 65 (nI place) (nI before) (nI start) (nI n) (nI stop) (nI 1) (nI i) M = _ ∧ _
    unfold b_X12_keepUnlike_44 j_X12_keepUnlike_131 j_X12_keepUnlike_130 j_X12_keepUnlike_131 j_X12_keepUnlike_139
    rw [gI_n (t65 h), Option.bind_some, hc, pk_sub (by omega), Nat.add_sub_cancel_left]
    by_cases hm : many ≤ i
    · have : i = many := by omega
      subst this
      rw [if_pos (nI_le hm (by omega)), if_neg (show ¬ nI 1 = 0 by decide), pI_n (t65 h), Option.bind_some]
      exact ⟨true, by rw [if_pos rfl]; rfl, fun _ => hj, fun _ => rfl⟩
    · have bad : ¬ (rI M 80 (start + i) = rI M 80 (place + i) ∧ rI M 81 (start + i) = rI M 81 (place + i) ∧ rI M 82 (start + i) = rI M 82 (place + i)) → ∃ b : Bool, l_X12_keepUnlike_44 k6 (F + 1) 65 (nI place) (nI before) (nI start) (nI n) (nI stop) (nI 0) (nI i + nI 1) M = (if b = true then some (nI before, wI M 65 23 (nI place)) else k6 65 (nI place) (nI before) (nI stop) (nI (n + 1)) M) ∧ (b = true ↔ eq3 M start place many) := by
        intro hne
        refine ⟨false, ?_, fun z => absurd z (by decide), fun z => absurd (z i (by omega)) hne⟩
        rw [if_neg (by decide)]
        show b_X12_keepUnlike_44 k6 (l_X12_keepUnlike_44 k6 F) 65 (nI place) (nI before) (nI start) (nI n) (nI stop) (nI 0) (nI i + nI 1) M = _
        unfold b_X12_keepUnlike_44 j_X12_keepUnlike_139
        rw [gI_n (t65 h), Option.bind_some, if_pos (show nI 0 = 0 from rfl), if_pos (show nI 0 = 0 from rfl), nI_add i 1, nI_add n 1]
        split <;> rfl
      rw [if_neg (nI_ge (by omega) (by omega)), if_neg (show ¬ nI 1 = 0 by decide), q65_24 h, Option.bind_some, nI_add, ldB_n (t80 h) (by omega) (by decide), Option.bind_some, Option.bind_some, nI_add, ldB_n (t80 h) (by omega) (by decide), Option.bind_some]
      by_cases h0 : rI M 80 (start + i) = rI M 80 (place + i)
      · rw [if_pos h0, q65_25 h, Option.bind_some, ldI_n (t81 h) (by omega) (by decide), Option.bind_some, Option.bind_some, ldI_n (t81 h) (by omega) (by decide), Option.bind_some]
        by_cases h1 : rI M 81 (start + i) = rI M 81 (place + i)
        · rw [if_pos h1, q65_26 h, Option.bind_some, ldB_n (t82 h) (by omega) (by decide), Option.bind_some, Option.bind_some, ldB_n (t82 h) (by omega) (by decide), Option.bind_some]
          by_cases h2 : rI M 82 (start + i) = rI M 82 (place + i)
          · rw [if_pos h2, nI_add]
            exact ih (i + 1) (by omega) (by omega) (fun j hj2 => by
              by_cases hji : j = i
              · rw [hji]; exact ⟨h0, h1, h2⟩
              · exact hj j (by omega))
          · rw [if_neg h2]; exact bad (fun z => h2 z.2.2)
        · rw [if_neg h1]; exact bad (fun z => h1 z.2.1)
      · rw [if_neg h0]; exact bad (fun z => h0 z.1)
theorem kun_l (h : Sh M) {place : Nat} {f : Fm} (hf : wf 0 q f) (h6 : sz f ≤ 600) (hc : rI M 65 23 = nI (place + sz f)) (h9 : place + sz f ≤ 900) (hN : NRp M place q f) {before : Nat} (hb : before ≤ 6) : ∀ (fs : List Fm) (F start n : Nat), (∀ x ∈ fs, wf 0 q x ∧ sz x ≤ 600) → start + szL fs = place → NrL M q start fs → n + fs.length = before → fs.length < F → ∃ b : Bool, l_X12_keepUnlike_6 F 65 (nI place) (nI before) (nI start) (nI n) M = some (if b = true then (nI before, wI M 65 23 (nI place)) else (nI (before + 1), M)) ∧ (b = true ↔ f ∈ fs) := by
  have hsf := sz_pos f
  obtain ⟨n0, hn0⟩ := jF_is
  intro fs
  induction fs with
  | nil =>
    intro F start n _ hp _ hnb hF
    obtain ⟨F, rfl⟩ : ∃ G, F = G + 1 := ⟨F - 1, by have : ([] : List Fm).length = 0 := rfl; omega⟩
    have hnb : n = before := hnb
    show ∃ b : Bool, b_X12_keepUnlike_6 (l_X12_keepUnlike_6 F) 65 (nI place) (nI before) (nI start) (nI n) M = _ ∧ _
    unfold b_X12_keepUnlike_6
    rw [if_pos (nI_le (by omega) (by omega)), nI_add]
    exact ⟨false, rfl, fun z => absurd z (by decide), fun z => absurd z (by simp)⟩
  | cons x fs ih =>
    intro F start n hw hp hL hnb hF
    rw [szL_c] at hp
    rw [List.length_cons] at hF hnb
    obtain ⟨F, rfl⟩ : ∃ G, F = G + 1 := ⟨F - 1, by omega⟩
    obtain ⟨hx, hx6⟩ := hw x (by simp)
    have hxp := sz_pos x
    obtain ⟨b', d1, d2⟩ := ih F (start + sz x) (n + 1) (fun y hy => hw y (by simp [hy])) (by omega) hL.2 (by omega) (by omega)
    show ∃ b : Bool, b_X12_keepUnlike_6 (l_X12_keepUnlike_6 F) 65 (nI place) (nI before) (nI start) (nI n) M = _ ∧ _
    unfold b_X12_keepUnlike_6 j_X12_keepUnlike_39
    rw [if_neg (nI_ge (by omega) (by omega)), jiv_n (t65 h), n_stops h hx hL.1 (by omega), jb2_some, gI_n (t65 h), Option.bind_some, hc, pk_sub (by omega), pk_sub (by omega), Nat.add_sub_cancel_left, Nat.add_sub_cancel_left]
    have next : f ≠ x → ∃ b : Bool, l_X12_keepUnlike_6 F 65 (nI place) (nI before) (nI (start + sz x)) (nI (n + 1)) M = some (if b = true then (nI before, wI M 65 23 (nI place)) else (nI (before + 1), M)) ∧ (b = true ↔ f ∈ x :: fs) := fun hne => ⟨b', d1, by rw [d2]; simp [hne]⟩
    by_cases hs : sz x = sz f
    · rw [if_pos (by rw [hs])]
      obtain ⟨G, hG⟩ : ∃ G, jF0 = G + 1 := ⟨jF0 - 1, by omega⟩
      obtain ⟨b, c1, c2⟩ := cmp_l (k6 := l_X12_keepUnlike_6 F) (before := before) (n := n) (stop := start + sz x) h hc (by omega) (show start + sz f ≤ 1000 by omega) (by omega) G 0 (Nat.zero_le _) (by omega) (fun j hj => by omega)
      rw [hG, c1]
      cases b with
      | true =>
        have e : x = f := (rp_all x q).1 hx f start place _ _ _ _ _ _ hf hL.1 hN hx6 h6 (fun i hi => c2.mp rfl i (by omega))
        rw [if_pos rfl]
        exact ⟨true, rfl, fun _ => by rw [e]; simp, fun _ => rfl⟩
      | false =>
        rw [if_neg (by decide)]
        refine next (fun z => ?_)
        subst z
        have := c2.mpr (fun j hj => nr_one f start place q hL.1 hN j hj)
        cases this
    · rw [if_neg (fun z => hs ((nI_eq (by omega) (by omega)).mp z))]
      obtain ⟨G, hG⟩ : ∃ G, jF0 = G + 1 := ⟨jF0 - 1, by omega⟩
      have un : l_X12_keepUnlike_44 (l_X12_keepUnlike_6 F) jF0 65 (nI place) (nI before) (nI start) (nI n) (nI (start + sz x)) (nI 0) (nI 0) M = l_X12_keepUnlike_6 F 65 (nI place) (nI before) (nI (start + sz x)) (nI (n + 1)) M := by
        rw [hG]
        show b_X12_keepUnlike_44 (l_X12_keepUnlike_6 F) (l_X12_keepUnlike_44 (l_X12_keepUnlike_6 F) G) 65 (nI place) (nI before) (nI start) (nI n) (nI (start + sz x)) (nI 0) (nI 0) M = _
        unfold b_X12_keepUnlike_44 j_X12_keepUnlike_139
        rw [gI_n (t65 h), Option.bind_some, if_pos (show nI 0 = 0 from rfl), if_pos (show nI 0 = 0 from rfl), nI_add]
        split <;> rfl
      rw [un]
      exact next (fun z => hs (by rw [z]))
theorem n_kun (h : Sh M) {first place : Nat} {f : Fm} {fs : List Fm} (hf : wf 0 q f) (h6 : sz f ≤ 600) (hc : rI M 65 23 = nI (place + sz f)) (h9 : place + sz f ≤ 900) (hN : NRp M place q f) (hw : ∀ x ∈ fs, wf 0 q x ∧ sz x ≤ 600) (hp : first + szL fs = place) (hL : NrL M q first fs) (hl : fs.length ≤ 6) : ∃ b : Bool, f_X12_keepUnlike 65 (nI first) (nI place) (nI fs.length) M = some (if b = true then (nI fs.length, wI M 65 23 (nI place)) else (nI (fs.length + 1), M)) ∧ (b = true ↔ f ∈ fs) := by
  obtain ⟨n0, hn0⟩ := jF_is
  exact kun_l h hf h6 hc h9 hN hl fs jF0 first 0 hw hp hL (by omega) (by omega)
/-- the nodes behind a move to it -/
theorem clo_l {a c : Nat} (h9 : c ≤ 900) (h0 : ∀ i, a ≤ i → i < c → (∃ v, v < 128 ∧ rI M 80 i = nI v) ∧ ∃ u, u < 128 ∧ rI M 82 i = nI u) : ∀ (d i F : Nat) (N : jM), i + d + 1 = c → a ≤ i → Sh N → rI N 65 23 = nI c → (∀ e, 80 ≤ e → e ≤ 82 → (∀ j, j < a → rI N e j = rI M e j) ∧ (∀ j, a ≤ j → j < i → rI N e j = rI M e (j + 1)) ∧ ∀ j, i < j → j < c → rI N e j = rI M e j) → d < F → ∃ O, l_X12_closeParts_14 F 65 (nI i) N = some ((), O) ∧ Ey PNm N O ∧ rI O 65 23 = nI (c - 1) ∧ ∀ e, 80 ≤ e → e ≤ 82 → (∀ j, j < a → rI O e j = rI M e j) ∧ ∀ j, a ≤ j → j + 1 < c → rI O e j = rI M e (j + 1) := by
  intro d
  induction d with
  | zero =>
    intro i F N hid hai hS hN mv hF
    obtain ⟨F, rfl⟩ : ∃ G, F = G + 1 := ⟨F - 1, by omega⟩
    show ∃ O, b_X12_closeParts_14 (l_X12_closeParts_14 F) 65 (nI i) N = _ ∧ _
    unfold b_X12_closeParts_14
    rw [gI_n (t65 hS), Option.bind_some, hN, nI_add, if_pos (nI_le (by omega) (by omega)), Option.bind_some, pk_sub (by omega), pI_n (t65 hS), Option.bind_some]
    refine ⟨_, rfl, ey_wI Ey.rf (Or.inl ⟨rfl, rfl⟩), by rw [rI_wI, if_pos ⟨rfl, rfl⟩], fun e e1 e2 => ⟨fun j hj => ?_, fun j j1 j2 => ?_⟩⟩
    · rw [rI_wI, if_neg (by omega)]; exact (mv e e1 e2).1 j hj
    · rw [rI_wI, if_neg (by omega)]; exact (mv e e1 e2).2.1 j j1 (by omega)
  | succ d ih =>
    intro i F N hid hai hS hN mv hF
    obtain ⟨F, rfl⟩ : ∃ G, F = G + 1 := ⟨F - 1, by omega⟩
    show ∃ O, b_X12_closeParts_14 (l_X12_closeParts_14 F) 65 (nI i) N = _ ∧ _
    unfold b_X12_closeParts_14
    obtain ⟨⟨v, v1, v2⟩, u, u1, u2⟩ := h0 (i + 1) (by omega) (by omega)
    have k80 : rI N 80 (i + 1) = nI v := by rw [(mv 80 (by decide) (by decide)).2.2 (i + 1) (by omega) (by omega)]; exact v2
    have k82 : rI N 82 (i + 1) = nI u := by rw [(mv 82 (by decide) (by decide)).2.2 (i + 1) (by omega) (by omega)]; exact u2
    have k81 : rI N 81 (i + 1) = rI M 81 (i + 1) := (mv 81 (by decide) (by decide)).2.2 (i + 1) (by omega) (by omega)
    have e1 : Ey PNm N (wI N 80 i (nI v)) := ey_wI Ey.rf (Or.inr (by decide))
    have e2 : Ey PNm N (wI (wI N 80 i (nI v)) 81 i (rI M 81 (i + 1))) := ey_wI e1 (Or.inr (by decide))
    have e3 : Ey PNm N (wI (wI (wI N 80 i (nI v)) 81 i (rI M 81 (i + 1))) 82 i (nI u)) := ey_wI e2 (Or.inr (by decide))
    have g1 := Sh_ey e1 hS
    have g2 := Sh_ey e2 hS
    have g3 := Sh_ey e3 hS
    rw [gI_n (t65 hS), Option.bind_some, hN, nI_add, if_neg (nI_ge (by omega) (by omega)), q65_24 hS, Option.bind_some, Option.bind_some, ldB_n (t80 hS) (by omega) (by decide), Option.bind_some, k80, stB_n (t80 hS) (by omega) (by decide), Option.bind_some, fit7 v v1, q65_25 g1, Option.bind_some, Option.bind_some, ldI_n (t81 g1) (by omega) (by decide), Option.bind_some, rI_wI, if_neg (by omega), k81, stI_n (t81 g1) (by omega) (by decide), Option.bind_some, q65_26 g2, Option.bind_some, Option.bind_some, ldB_n (t82 g2) (by omega) (by decide), Option.bind_some, rI_wI, if_neg (by omega), rI_wI, if_neg (by omega), k82, stB_n (t82 g2) (by omega) (by decide), Option.bind_some, fit7 u u1]
    obtain ⟨O, o1, o2, o3⟩ := ih (i + 1) F (wI (wI (wI N 80 i (nI v)) 81 i (rI M 81 (i + 1))) 82 i (nI u)) (by omega) (by omega) g3 (by rw [rI_wI, if_neg (by omega), rI_wI, if_neg (by omega), rI_wI, if_neg (by omega)]; exact hN) (fun e e1 e2 => ⟨fun j hj => by
        rw [rI_wI, if_neg (by omega), rI_wI, if_neg (by omega), rI_wI, if_neg (by omega)]; exact (mv e e1 e2).1 j hj, fun j j1 j2 => by
        by_cases hj : j = i
        · rw [hj]
          by_cases h80 : e = 80
          · rw [h80, rI_wI, if_neg (by omega), rI_wI, if_neg (by omega), rI_wI, if_pos ⟨rfl, rfl⟩, v2]
          · by_cases h81 : e = 81
            · rw [h81, rI_wI, if_neg (by omega), rI_wI, if_pos ⟨rfl, rfl⟩]
            · have h82 : e = 82 := by omega
              rw [h82, rI_wI, if_pos ⟨rfl, rfl⟩, u2]
        · rw [rI_wI, if_neg (by omega), rI_wI, if_neg (by omega), rI_wI, if_neg (by omega)]; exact (mv e e1 e2).2.1 j j1 (by omega), fun j j1 j2 => by
        rw [rI_wI, if_neg (by omega), rI_wI, if_neg (by omega), rI_wI, if_neg (by omega)]; exact (mv e e1 e2).2.2 j (by omega) j2⟩) (by omega)
    exact ⟨O, o1, e3.tr o2, o3⟩
end KU
