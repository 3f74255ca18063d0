/-! SENTENCES: the store on both sides, the class's calls. -/
def gs (S : List Fm) (i : Nat) : Fm := S.getD i (.leaf 84)
def tx (f : Fm) : List Nat := wr 0 false 0 f
def SV (S : List Fm) : Prop := S.length ≤ 20 ∧ ∀ i, i < S.length → wf 0 0 (gs S i) ∧ sz (gs S i) ≤ 600 ∧ dp (gs S i) ≤ 30 ∧ (tx (gs S i)).length ≤ 1299
/-- a sentence in the class's cells a, a + 1, a + 2 -/
def XS1 (M : jM) (a : Nat) (f : Fm) : Prop := tg M (a + 1) = (6, 0) ∧ rR M (a + 1) 0 = some a ∧ rR M (a + 1) 1 = some (a + 2) ∧ rI M (a + 1) 2 = nI (qd f) ∧ tg M a = (100, sz f) ∧ Nx (rI M a) 0 0 f ∧ tg M (a + 2) = (101, (tx f).length) ∧ ∀ k, k < (tx f).length → rI M (a + 2) k = nI ((tx f).getD k 0)
def XS (S : List Fm) (M : jM) : Prop := rI M 1 9 = nI S.length ∧ M.1.length = 104 + 3 * S.length ∧ ∀ i, i < S.length → rR M 38 i = some (104 + 3 * i + 1) ∧ XS1 M (104 + 3 * i) (gs S i)
def MZ (S : List Fm) (M : jM) : Prop := rI M 65 17 = nI S.length ∧ ∀ i, i < S.length → rI M 75 i = nI (sz (gs S i)) ∧ HQ (600 * i) M 0 0 (gs S i)
theorem XS1_same {M N : jM} {a : Nat} {f : Fm} (ht : ∀ c, c < a + 3 → tg N c = tg M c) (hr : ∀ c k, a ≤ c → c < a + 3 → rR N c k = rR M c k) (hi : ∀ c k, a ≤ c → c < a + 3 → rI N c k = rI M c k) (h : XS1 M a f) : XS1 N a f := by
  obtain ⟨h1, h2, h3, h4, h5, h6, h7, h8⟩ := h
  exact ⟨by rw [ht _ (by omega)]; exact h1, by rw [hr _ _ (by omega) (by omega)]; exact h2, by rw [hr _ _ (by omega) (by omega)]; exact h3, by rw [hi _ _ (by omega) (by omega)]; exact h4, by rw [ht _ (by omega)]; exact h5, Nx_congr f 0 0 0 (fun i _ => hi _ _ (by omega) (by omega)) h6, by rw [ht _ (by omega)]; exact h7, fun k hk => by rw [hi _ _ (by omega) (by omega)]; exact h8 k hk⟩
theorem XS_same {S : List Fm} {M N : jM} (ht : N.1 = M.1) (hr : ∀ c k, rR N c k = rR M c k) (h9 : rI N 1 9 = rI M 1 9) (hi : ∀ c k, 104 ≤ c → rI N c k = rI M c k) (h : XS S M) : XS S N := by
  obtain ⟨h1, h2, h3⟩ := h
  refine ⟨by rw [h9]; exact h1, by rw [ht]; exact h2, fun i hi' => ?_⟩
  obtain ⟨a1, a2⟩ := h3 i hi'
  exact ⟨by rw [hr]; exact a1, XS1_same (fun c _ => by unfold tg; rw [ht]) (fun c k _ _ => hr c k) (fun c k hc _ => hi c k (by omega)) a2⟩
theorem XS_el {C : Nat → Prop} {S : List Fm} {M N : jM} (e : El C M N) (h1 : ¬ C 1) (hc : ∀ c, 104 ≤ c → ¬ C c) (h : XS S M) : XS S N := by
  have e' := e
  obtain ⟨l, q⟩ := e'
  exact XS_same q.1 (fun c k => el_rR e c k) (el_rI e h1 9) (fun c k hc' => el_rI e (hc c hc') k) h
theorem XS_ez {P : Nat → Nat → Prop} {S : List Fm} {M N : jM} (e : Ez P M N) (h1 : ¬ P 1 9) (hc : ∀ c k, 104 ≤ c → ¬ P c k) (h : XS S M) : XS S N := by
  have e' := e
  obtain ⟨l, q⟩ := e'
  exact XS_same q.1 (fun c k => ey_rR q c k) (ez_rI e h1) (fun c k hc' => ez_rI e (hc c k hc')) h
theorem MZ_same {S : List Fm} {M N : jM} (hS : S.length ≤ 20) (h17 : rI N 65 17 = rI M 65 17) (hi : ∀ c k, 75 ≤ c → c ≤ 79 → rI N c k = rI M c k) (h : MZ S M) : MZ S N :=
  ⟨by rw [h17]; exact h.1, fun i hi' => ⟨by rw [hi _ _ (by decide) (by decide)]; exact (h.2 i hi').1, ⟨Nr_congr _ 0 0 0 (fun j _ => ⟨hi _ _ (by decide) (by decide), hi _ _ (by decide) (by decide), hi _ _ (by decide) (by decide)⟩) (h.2 i hi').2.1, Ne_congr _ 0 (fun j _ => hi _ _ (by decide) (by decide)) (h.2 i hi').2.2⟩⟩⟩
theorem MZ_el {C : Nat → Prop} {S : List Fm} {M N : jM} (hS : S.length ≤ 20) (e : El C M N) (h1 : ¬ C 65) (hc : ∀ c, 75 ≤ c → c ≤ 79 → ¬ C c) (h : MZ S M) : MZ S N := MZ_same hS (el_rI e h1 17) (fun c k h1 h2 => el_rI e (hc c h1 h2) k) h
theorem MZ_ez {P : Nat → Nat → Prop} {S : List Fm} {M N : jM} (hS : S.length ≤ 20) (e : Ez P M N) (h1 : ¬ P 65 17) (hc : ∀ c k, 75 ≤ c → c ≤ 79 → ¬ P c k) (h : MZ S M) : MZ S N := MZ_same hS (ez_rI e h1) (fun c k h1 h2 => ez_rI e (hc c k h1 h2)) h
def sp_sentence (S : List Fm) (x y : Int32) : Int32 := match ixo x S.length with
  | none => -1
  | some i => match ixo y 3 with
    | none => -2
    | some j => if j = 0 then nI (qd (gs S i)) else if j = 1 then nI (sz (gs S i)) else nI (tx (gs S i)).length
def sp_written (S : List Fm) (x y : Int32) : Int32 := match ixo x S.length with
  | none => -1
  | some i => match ixo y (tx (gs S i)).length with
    | none => -1
    | some j => nI ((tx (gs S i)).getD j 0)
def sp_same (S : List Fm) (x y : Int32) : Int32 := match ixo x S.length with
  | none => -1
  | some i => match ixo y S.length with
    | none => -1
    | some j => bI (decide (tx (gs S i) = tx (gs S j)))
def sp_holds (S : List Fm) (ws : Nat → Wd) (x y : Int32) (z : Nat) : Int32 × Nat := match ixo x S.length with
  | none => (-1, z)
  | some i => match wok ws y with
    | none => (-1, z)
    | some j => sp_ask (ws j) (gs S i) z
section SX
variable {M : jM} {S : List Fm}
theorem x_sentenceOf (h : Sh M) (hS : SV S) (x : XS S M) (v : Int32) : f_X11_sentenceOf 1 v M = some ((ixo v S.length).map (fun i => 104 + 3 * i + 1), M) := by
  have h20 := hS.1
  unfold f_X11_sentenceOf
  cases hc : ixo v S.length with
  | none =>
    by_cases h0 : v < 0
    · rw [if_pos h0]; rfl
    · rw [if_neg h0, gI_n (t1 h), Option.bind_some, x.1, if_pos (((ixo_none (by omega)).mp hc).resolve_left h0)]; rfl
  | some i =>
    obtain ⟨hi, rfl⟩ := (ixo_some (by omega)).mp hc
    rw [if_neg (nI_pos (by omega)), gI_n (t1 h), Option.bind_some, x.1, if_neg (nI_ge hi (by omega)), q1_8 h, Option.bind_some, ln_n (t38 h) (by decide) (by decide), Option.bind_some, if_neg (nI_ge (by omega) (by decide)), Option.bind_some, ldA_n (t38 h) (by omega) (by decide), (x.2.2 i hi).1, Option.bind_some]
    rfl
theorem x_sentence (h : Sh M) (hS : SV S) (x : XS S M) (v y : Int32) : f_X11_sentence 1 v y M = some (sp_sentence S v y, M) := by
  have h20 := hS.1
  unfold f_X11_sentence sp_sentence
  rw [jiv_n (t1 h), x_sentenceOf h hS x, jb2_some]
  cases hc : ixo v S.length with
  | none => rfl
  | some i =>
    obtain ⟨hi, rfl⟩ := (ixo_some (by omega)).mp hc
    obtain ⟨a1, a2, a3, a4, a5, a6, a7, a8⟩ := (x.2.2 i hi).2
    simp only [Option.map_some, jnl]
    unfold f_X7_depth f_X7_nodes f_X7_text
    cases hk : ixo y 3 with
    | none =>
      have hk' := (ixo_none (by decide)).mp hk
      rw [if_neg (fun e => by subst e; rcases hk' with q | q <;> revert q <;> decide), if_neg (fun e => by subst e; rcases hk' with q | q <;> revert q <;> decide), if_neg (fun e => by subst e; rcases hk' with q | q <;> revert q <;> decide)]
      rfl
    | some q =>
      obtain ⟨hq, rfl⟩ := (ixo_some (by decide)).mp hk
      rcases (show q = 0 ∨ q = 1 ∨ q = 2 by omega) with rfl | rfl | rfl
      · rw [if_pos (show nI 0 = 0 from rfl), jiv_n a1, gI_n a1, Option.bind_some, a4]; rfl
      · rw [if_neg (by decide), if_pos rfl, jiv_n a1, gR_n a1 a2, Option.bind_some]
        show ((ln M (104 + 3 * i)).bind fun x8 => rt x8 M) = _
        rw [ln_n a5 (by decide) (by decide)]; rfl
      · rw [if_neg (by decide), if_neg (by decide), if_pos rfl, jiv_n a1, gR_n a1 a3, Option.bind_some]
        show ((ln M (104 + 3 * i + 2)).bind fun x8 => rt x8 M) = _
        rw [ln_n a7 (by decide) (by decide)]; rfl
theorem x_written (h : Sh M) (hS : SV S) (x : XS S M) (v y : Int32) : f_X11_written 1 v y M = some (sp_written S v y, M) := by
  have h20 := hS.1
  unfold f_X11_written sp_written f_X7_text
  rw [jiv_n (t1 h), x_sentenceOf h hS x, jb2_some]
  cases hc : ixo v S.length with
  | none => rfl
  | some i =>
    obtain ⟨hi, rfl⟩ := (ixo_some (by omega)).mp hc
    obtain ⟨a1, a2, a3, a4, a5, a6, a7, a8⟩ := (x.2.2 i hi).2
    have hl := (hS.2 i hi).2.2.2
    simp only [Option.map_some, jnl]
    rw [jiv_n a1, gR_n a1 a3, Option.bind_some]
    show (if y < 0 then _ else (ln M (104 + 3 * i + 2)).bind fun x6 => if x6 ≤ y then _ else (ldB M (104 + 3 * i + 2) y).bind fun x7 => rt x7 M) = _
    rw [ln_n a7 (by decide) (by decide), Option.bind_some]
    cases hk : ixo y (tx (gs S i)).length with
    | none =>
      by_cases h0 : y < 0
      · rw [if_pos h0]; rfl
      · rw [if_neg h0, if_pos (((ixo_none (by omega)).mp hk).resolve_left h0)]; rfl
    | some j =>
      obtain ⟨hj, rfl⟩ := (ixo_some (by omega)).mp hk
      rw [if_neg (nI_pos (by omega)), if_neg (nI_ge hj (by omega)), ldB_n a7 hj (by omega), Option.bind_some, a8 j hj]
      rfl
theorem x_wlike {a c : Nat} {xs ys : List Nat} (ha : tg M (a + 1) = (6, 0)) (hc : tg M (c + 1) = (6, 0)) (ra : rR M (a + 1) 1 = some (a + 2)) (rc : rR M (c + 1) 1 = some (c + 2)) (ta : tg M (a + 2) = (101, xs.length)) (tc : tg M (c + 2) = (101, ys.length)) (va : ∀ k, k < xs.length → rI M (a + 2) k = nI (xs.getD k 0)) (vc : ∀ k, k < ys.length → rI M (c + 2) k = nI (ys.getD k 0)) (hl : xs.length = ys.length) (h13 : xs.length ≤ 1300) (hx : ∀ k, xs.getD k 0 < 2 ^ 31) (hy : ∀ k, ys.getD k 0 < 2 ^ 31) :
    ∀ (F k : Nat), k ≤ xs.length → xs.length - k < F → (∀ j, j < k → xs.getD j 0 = ys.getD j 0) → l_X7_isWrittenLike_17 F (a + 1) (c + 1) (nI k) M = some (bI (decide (xs = ys)), M) := by
  intro F
  induction F with
  | zero => intro k _ z; omega
  | succ F ih =>
    intro k hk hF he
    show b_X7_isWrittenLike_17 (l_X7_isWrittenLike_17 F) (a + 1) (c + 1) (nI k) M = _
    unfold b_X7_isWrittenLike_17
    rw [gR_n ha ra, Option.bind_some, ln_n ta (by decide) (by decide), Option.bind_some]
    by_cases hkk : xs.length ≤ k
    · have : xs = ys := by
        apply List.ext_getElem hl
        intro n h1 h2
        have := he n (by omega)
        rw [List.getD_eq_getElem?_getD, List.getD_eq_getElem?_getD, List.getElem?_eq_getElem h1, List.getElem?_eq_getElem h2] at this
        exact this
      rw [if_pos (nI_le hkk (by omega)), decide_eq_true this]
      rfl
    · rw [if_neg (nI_ge (by omega) (by omega)), Option.bind_some, ldB_n ta (by omega) (by omega), Option.bind_some, gR_n hc rc, Option.bind_some, ldB_n tc (by omega) (by omega), Option.bind_some, va k (by omega), vc k (by omega)]
      by_cases hv : xs.getD k 0 = ys.getD k 0
      · rw [if_pos (by rw [hv]), nI_add]
        exact ih (k + 1) (by omega) (by omega) (fun j hj => by
          by_cases hjk : j = k
          · rw [hjk]; exact hv
          · exact he j (by omega))
      · rw [if_neg (fun z => hv ((nI_eq (hx k) (hy k)).mp z)), decide_eq_false (fun z => hv (by rw [z]))]
        rfl
end SX
theorem wr_128 : ∀ f q, (wf 0 q f → ∀ ip sg, ∀ x ∈ wr q ip sg f, x < 128) ∧ (wf 1 q f → ∀ sg, sg < 128 → ∀ x ∈ wr q true sg f, x < 128) := by
  refine fm_ind (P := fun q f => ∀ ip sg, ∀ x ∈ wr q ip sg f, x < 128) (B := fun q f => ∀ sg, sg < 128 → ∀ x ∈ wr q true sg f, x < 128) ?_ ?_ ?_ ?_ ?_ ?_
  · intro q c hq ok ip sg x hx
    have hx : x ∈ wa c := hx
    obtain ⟨-, -, -, c4, -, c6, c7⟩ := aok_c hq ok
    unfold wa at hx
    simp only [List.mem_cons, List.mem_append] at hx
    rcases hx with rfl | hx | hx
    · omega
    · split at hx
      · cases hx
      · have := List.mem_singleton.mp hx; omega
    · split at hx
      · cases hx
      · have := List.mem_singleton.mp hx; omega
  · intro q l hl ih ip sg x hx
    rw [wr_n] at hx
    rcases List.mem_cons.mp hx with rfl | hx
    · decide
    · exact ih true sg x hx
  · intro q k l hk hq hl ih ip sg x hx
    rw [wr_q hk] at hx
    rcases List.mem_cons.mp hx with rfl | hx
    · omega
    · rcases List.mem_cons.mp hx with rfl | hx
      · omega
      · exact ih true sg x hx
  · intro q k l hk hl ih ip sg x hx
    rw [wr_l hk] at hx
    rcases List.mem_append.mp hx with hx | hx
    · split at hx
      · have := List.mem_singleton.mp hx; omega
      · cases hx
    · rcases List.mem_append.mp hx with hx | hx
      · exact ih k (by omega) x hx
      · split at hx
        · have := List.mem_singleton.mp hx; omega
        · cases hx
  · intro q f _ ih sg _; exact ih true sg
  · intro q l r hl hr ih ih2 sg hsg x hx
    rw [wr_c] at hx
    rcases List.mem_append.mp hx with hx | hx
    · exact ih true sg x hx
    · rcases List.mem_cons.mp hx with rfl | hx
      · exact hsg
      · exact ih2 sg hsg x hx
theorem tx_128 {f : Fm} (h : wf 0 0 f) (k : Nat) : (tx f).getD k 0 < 128 := by
  by_cases hk : k < (tx f).length
  · rw [List.getD_eq_getElem?_getD, List.getElem?_eq_getElem hk]
    exact (wr_128 f 0).1 h false 0 _ (List.getElem_mem hk)
  · rw [List.getD_eq_getElem?_getD, List.getElem?_eq_none (by omega)]
    decide
section SX2
variable {M : jM} {S : List Fm}
theorem x_samecall (h : Sh M) (hS : SV S) (x : XS S M) (v y : Int32) : f_X11_same 1 v y M = some (sp_same S v y, M) := by
  have h20 := hS.1
  unfold f_X11_same sp_same
  rw [jiv_n (t1 h), x_sentenceOf h hS x, jb2_some, jiv_n (t1 h), x_sentenceOf h hS x, jb2_some]
  cases hc : ixo v S.length with
  | none => rfl
  | some i =>
    obtain ⟨hi, rfl⟩ := (ixo_some (by omega)).mp hc
    cases hd : ixo y S.length with
    | none => rfl
    | some j =>
      obtain ⟨hj, rfl⟩ := (ixo_some (by omega)).mp hd
      obtain ⟨a1, a2, a3, a4, a5, a6, a7, a8⟩ := (x.2.2 i hi).2
      obtain ⟨b1, b2, b3, b4, b5, b6, b7, b8⟩ := (x.2.2 j hj).2
      obtain ⟨w1, -, -, w4⟩ := hS.2 i hi
      obtain ⟨u1, -, -, u4⟩ := hS.2 j hj
      obtain ⟨n0, hn0⟩ := jF_is
      simp only [Option.map_some, jnl]
      unfold f_X7_isWrittenLike
      rw [jiv_n a1, gR_n a1 a3, Option.bind_some, ln_n a7 (by decide) (by decide), Option.bind_some, gR_n b1 b3, Option.bind_some, ln_n b7 (by decide) (by decide), Option.bind_some]
      by_cases hl : (tx (gs S i)).length = (tx (gs S j)).length
      · rw [if_pos (by rw [hl]), x_wlike a1 b1 a3 b3 a7 b7 a8 b8 hl (by omega) (fun k => by have := tx_128 w1 k; omega) (fun k => by have := tx_128 u1 k; omega) jF0 0 (Nat.zero_le _) (by omega) (fun j hj => absurd hj (Nat.not_lt_zero j)), jb2_some]
        cases decide (tx (gs S i) = tx (gs S j)) <;> rfl
      · rw [if_neg (fun z => hl ((nI_eq (by omega) (by omega)).mp z)), decide_eq_false (fun z => hl (by rw [z]))]
        rfl
theorem x_holds {ws : Nat → Wd} (h : Sh M) (a : XA ws M) (hf : WF ws) (hS : SV S) (x : XS S M) {z : Nat} (hz : rI M 36 2 = nI z) (v y : Int32) : ∃ N, f_X11_holds 1 v y M = some ((sp_holds S ws v y z).1, N) ∧ rI N 36 2 = nI (sp_holds S ws v y z).2 ∧ Ex CA M N := by
  have h20 := hS.1
  unfold f_X11_holds sp_holds
  rw [jiv_n (t1 h), x_sentenceOf h hS x, jb2_some, jiv_n (t1 h), x_worldOf h a hf, jb2_some]
  cases hc : ixo v S.length with
  | none => exact ⟨M, rfl, hz, Ex.rf⟩
  | some i =>
    obtain ⟨hi, rfl⟩ := (ixo_some (by omega)).mp hc
    cases hd : wok ws y with
    | none => exact ⟨M, rfl, hz, Ex.rf⟩
    | some j =>
      obtain ⟨hj, rfl, h0⟩ := wok_some hd
      obtain ⟨a1, a2, a3, a4, a5, a6, a7, a8⟩ := (x.2.2 i hi).2
      obtain ⟨w1, w2, w3, -⟩ := hS.2 i hi
      simp only [Option.map_some, jnl]
      unfold f_X7_nodes
      obtain ⟨N, p1, p2, p3⟩ := x_test (M := M) (nc := 104 + 3 * i) (wc := 47 + 3 * j) (hf j) (by omega) (by omega) w1 (by omega) w3 ⟨h, a j hj, a5⟩ a6 hz
      rw [q1_7 h, Option.bind_some, jiv_n a1, gR_n a1 a2, Option.bind_some]
      show ∃ N, jb2 (jiv 0 M 36 (f_X0_test 36 (104 + 3 * i) (47 + 3 * j) M)) _ = _ ∧ _
      rw [jiv_n (t36 h), p1, jb2_some]
      exact ⟨N, rfl, p2, p3⟩
theorem x_asked (h : Sh M) {z : Nat} (hz : rI M 36 2 = nI z) : f_X11_asked 1 M = some (nI z, M) := by
  unfold f_X11_asked f_X0_latest
  rw [q1_7 h, Option.bind_some, jiv_n (t36 h), gI_n (t36 h), Option.bind_some, hz]
  rfl
end SX2
