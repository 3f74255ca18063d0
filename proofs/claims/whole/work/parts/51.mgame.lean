/-! The reference's game. -/
/-- what has not changed: all but the ints at the places P -/
def Ey (P : Nat → Nat → Prop) (M N : jM) : Prop := N.1 = M.1 ∧ N.2.2 = M.2.2 ∧ ∀ c k, ¬ P c k → rI N c k = rI M c k
theorem Ey.rf {P : Nat → Nat → Prop} {M : jM} : Ey P M M := ⟨rfl, rfl, fun _ _ _ => rfl⟩
theorem Ey.tr {P : Nat → Nat → Prop} {M N O : jM} (h : Ey P M N) (k : Ey P N O) : Ey P M O := ⟨k.1.trans h.1, k.2.1.trans h.2.1, fun c i hc => (k.2.2 c i hc).trans (h.2.2 c i hc)⟩
theorem Ey.mono {P Q : Nat → Nat → Prop} {M N : jM} (h : Ey P M N) (hd : ∀ c k, P c k → Q c k) : Ey Q M N := ⟨h.1, h.2.1, fun c k hc => h.2.2 c k (fun q => hc (hd c k q))⟩
theorem Ex.y {C : Nat → Prop} {M N : jM} (h : Ex C M N) : Ey (fun c _ => C c) M N := ⟨h.1, h.2.1, fun c k hc => ex_rI h hc k⟩
theorem ey_wI {P : Nat → Nat → Prop} {M N : jM} {a k : Nat} {v : Int32} (h : Ey P M N) (ha : P a k) : Ey P M (wI N a k v) := ⟨h.1, h.2.1, fun c i hc => by
  rw [rI_wI, if_neg (fun q => hc (by rw [q.1, q.2]; exact ha))]
  exact h.2.2 c i hc⟩
theorem ey_tg {P : Nat → Nat → Prop} {M N : jM} (h : Ey P M N) (c : Nat) : tg N c = tg M c := by unfold tg; rw [h.1]
theorem ey_rR {P : Nat → Nat → Prop} {M N : jM} (h : Ey P M N) (c k : Nat) : rR N c k = rR M c k := by unfold rR; rw [h.2.1]
theorem ey_rL {P : Nat → Nat → Prop} {M N : jM} (h : Ey P M N) (c k : Nat) : rL N c k = rL M c k := by unfold rL; rw [h.2.1]
theorem ey_rI {P : Nat → Nat → Prop} {M N : jM} (h : Ey P M N) {c k : Nat} (hc : ¬ P c k) : rI N c k = rI M c k := h.2.2 c k hc
theorem Sh_ey {P : Nat → Nat → Prop} {M N : jM} (h : Ey P M N) (k : Sh M) : Sh N := ⟨fun c h1 h2 => by rw [ey_tg h]; exact k.1 c h1 h2, fun q hq => by rw [ey_rR h]; exact k.2.1 q hq, by rw [h.1]; exact k.2.2⟩
theorem MA_ey {P : Nat → Nat → Prop} {ws : Nat → Wd} {M N : jM} (h : Ey P M N) (k : MA ws M) (hc : ∀ c i, c = 66 ∨ c = 67 ∨ c = 68 → ¬ P c i) : MA ws N := fun w hw => by
  obtain ⟨a, b, c⟩ := k w hw
  exact ⟨by rw [ey_rI h (hc _ _ (by omega))]; exact a, fun q hq => by rw [ey_rI h (hc _ _ (by omega))]; exact b q hq, fun q hq => by rw [ey_rI h (hc _ _ (by omega))]; exact c q hq⟩
/-- the reference's rows -/
def GS (M : jM) (w1 w2 : Nat) (r : Rw) : Prop := rI M 65 5 = nI w1 ∧ rI M 65 6 = nI w2 ∧ rI M 65 7 = nI r.length ∧ r.length ≤ 5 ∧ ∀ k, k < r.length → rI M 71 k = nI (ro r k).1 ∧ rI M 72 k = nI (ro r k).2
def PG (c k : Nat) : Prop := (c = 65 ∧ (k = 5 ∨ k = 6 ∨ k = 7)) ∨ c = 71 ∨ c = 72
/-- all that the reference's game stands on -/
def GG (ws : Nat → Wd) (w1 w2 : Nat) (r : Rw) (M : jM) : Prop := Sh M ∧ MA ws M ∧ GS M w1 w2 r
theorem GS_ey {P : Nat → Nat → Prop} {M N : jM} {w1 w2 : Nat} {r : Rw} (h : Ey P M N) (k : GS M w1 w2 r) (hc : ∀ c i, PG c i → ¬ P c i) : GS N w1 w2 r := by
  obtain ⟨k1, k2, k3, k4, k5⟩ := k
  refine ⟨?_, ?_, ?_, k4, fun q hq => ?_⟩
  · rw [ey_rI h (hc _ _ (by unfold PG; omega))]; exact k1
  · rw [ey_rI h (hc _ _ (by unfold PG; omega))]; exact k2
  · rw [ey_rI h (hc _ _ (by unfold PG; omega))]; exact k3
  · rw [ey_rI h (hc _ _ (by unfold PG; omega)), ey_rI h (hc _ _ (by unfold PG; omega))]; exact k5 q hq
def plm (u v : Wd) (r : Rw) (m : Nat) : Bool := decide (u.2.1 (ro r m).1 = v.2.1 (ro r m).2) && allB (m + 1) (fun n => pl1 u v (ro r m) (ro r n))
theorem bool_iff {a b : Bool} (h : a = true ↔ b = true) : a = b := by
  cases a <;> cases b <;> simp_all
theorem plm_last {u v : Wd} {r : Rw} {p : Nat × Nat} : plm u v (p :: r) r.length = pla u v r p := by
  apply bool_iff
  unfold plm pla
  rw [ro_last, Bool.and_eq_true, Bool.and_eq_true, Bool.and_eq_true, allB_iff, all_ro]
  constructor
  · rintro ⟨h1, h2⟩
    refine ⟨h1, ?_, fun k hk => ?_⟩
    · have := h2 r.length (by omega); rw [ro_last] at this; exact this
    · have := h2 k (by omega); rw [ro_cons hk] at this; exact this
  · rintro ⟨h1, h2, h3⟩
    refine ⟨h1, fun k hk => ?_⟩
    by_cases hkr : k = r.length
    · rw [hkr, ro_last]; exact h2
    · rw [ro_cons (by omega)]; exact h3 k (by omega)
theorem plm_cons {u v : Wd} {r : Rw} {p : Nat × Nat} {m : Nat} (hm : m < r.length) : plm u v (p :: r) m = plm u v r m := by
  unfold plm
  rw [ro_cons hm]
  congr 1
  apply bool_iff
  rw [allB_iff, allB_iff]
  constructor
  · intro h k hk; have := h k hk; rw [ro_cons (by omega)] at this; exact this
  · intro h k hk; rw [ro_cons (by omega)]; exact h k hk
theorem alk_plm {u v : Wd} : ∀ r : Rw, alk u v r = allB r.length (plm u v r)
  | [] => rfl
  | p :: r => by
    apply bool_iff
    show (alk u v r && pla u v r p) = true ↔ _
    rw [alk_plm r, Bool.and_eq_true, allB_iff, allB_iff, ← plm_last]
    constructor
    · rintro ⟨h1, h2⟩ k hk
      have hk : k < r.length + 1 := hk
      by_cases hkr : k = r.length
      · rw [hkr]; exact h2
      · rw [plm_cons (by omega)]; exact h1 k (by omega)
    · intro h
      refine ⟨fun k hk => ?_, h r.length (by show r.length < r.length + 1; omega)⟩
      have := h k (by show k < r.length + 1; omega)
      rw [plm_cons hk] at this; exact this
/-- from i on -/
theorem allB_at {n i : Nat} {f : Nat → Bool} (hi : i < n) : allB n (fun k => decide (k < i) || f k) = (f i && allB n (fun k => decide (k < i + 1) || f k)) := by
  apply bool_iff
  rw [Bool.and_eq_true, allB_iff, allB_iff]
  constructor
  · intro h
    refine ⟨by have := h i hi; simpa using this, fun k hk => ?_⟩
    have := h k hk
    simp only [Bool.or_eq_true, decide_eq_true_eq] at this ⊢
    exact this.imp (fun q => by omega) id
  · rintro ⟨h1, h2⟩ k hk
    have := h2 k hk
    simp only [Bool.or_eq_true, decide_eq_true_eq] at this ⊢
    by_cases hki : k = i
    · rw [hki]; exact Or.inr h1
    · exact this.imp (fun q => by omega) id
theorem allB_end {n i : Nat} {f : Nat → Bool} (hi : n ≤ i) : allB n (fun k => decide (k < i) || f k) = true := allB_iff.mpr (fun k hk => by simp; omega)
theorem allB_0 {n : Nat} {f : Nat → Bool} : allB n (fun k => decide (k < 0) || f k) = allB n f := by simp
theorem anyB_at {n i : Nat} {f : Nat → Bool} (hi : i < n) : anyB n (fun k => decide (i ≤ k) && f k) = (f i || anyB n (fun k => decide (i + 1 ≤ k) && f k)) := by
  apply bool_iff
  rw [Bool.or_eq_true, anyB_iff, anyB_iff]
  constructor
  · rintro ⟨k, hk, h⟩
    simp only [Bool.and_eq_true, decide_eq_true_eq] at h
    by_cases hki : k = i
    · rw [← hki]; exact Or.inl h.2
    · exact Or.inr ⟨k, hk, by simp only [Bool.and_eq_true, decide_eq_true_eq]; exact ⟨by omega, h.2⟩⟩
  · rintro (h | ⟨k, hk, h⟩)
    · exact ⟨i, hi, by simp [h]⟩
    · simp only [Bool.and_eq_true, decide_eq_true_eq] at h
      exact ⟨k, hk, by simp only [Bool.and_eq_true, decide_eq_true_eq]; exact ⟨by omega, h.2⟩⟩
theorem anyB_end {n i : Nat} {f : Nat → Bool} (hi : n ≤ i) : anyB n (fun k => decide (i ≤ k) && f k) = false := by
  cases h : anyB n (fun k => decide (i ≤ k) && f k) with
  | false => rfl
  | true =>
    obtain ⟨k, hk, h2⟩ := anyB_iff.mp h
    simp only [Bool.and_eq_true, decide_eq_true_eq] at h2
    omega
theorem anyB_0 {n : Nat} {f : Nat → Bool} : anyB n (fun k => decide (0 ≤ k) && f k) = anyB n f := by simp
section N1
variable {M : jM} {ws : Nat → Wd} {w1 w2 : Nat} {r : Rw}
theorem n_place_49 (hf : WF ws) (h1 : w1 < 8) (h2 : w2 < 8) (g : GG ws w1 w2 r M) (hr : rv (ws w1) (ws w2) r) {m : Nat} (hm : m < r.length) : ∀ (n i : Nat) (b : Bool), i ≤ m + 1 → m + 1 - i < n → l_X12_isPlaceAlike_49 n 65 (nI m) (bI b) (nI i) M = some (bI (b && allB (m + 1) (fun q => decide (q < i) || pl1 (ws w1) (ws w2) (ro r m) (ro r q))), M) := by
  obtain ⟨h, a, s⟩ := g
  have h6 := (hf w1).1
  have h62 := (hf w2).1
  have hl := s.2.2.2.1
  have rI1 : ∀ k, k < r.length → ldI M 71 (nI k) = some (nI (ro r k).1) := fun k hk => by rw [ldI_n (t71 h) (by omega) (by decide), (s.2.2.2.2 k hk).1]
  have rI2 : ∀ k, k < r.length → ldI M 72 (nI k) = some (nI (ro r k).2) := fun k hk => by rw [ldI_n (t72 h) (by omega) (by decide), (s.2.2.2.2 k hk).2]
  intro n
  induction n with
  | zero => intro i b _ h; omega
  | succ n ih =>
    intro i b hi hn
    show b_X12_isPlaceAlike_49 (l_X12_isPlaceAlike_49 n) 65 (nI m) (bI b) (nI i) M = _
    unfold b_X12_isPlaceAlike_49
    by_cases him : m < i
    · rw [if_pos (nI_lt him (by omega)), allB_end (by omega), Bool.and_true, rZ_n]
    · rw [if_neg (nI_nlt (by omega) (by omega))]
      cases b with
      | false => rw [if_pos (show bI false = 0 from rfl)]; rfl
      | true =>
        have vm := hr _ (ro_mem hm)
        have vi := hr _ (ro_mem (show i < r.length by omega))
        have ihs := fun c : Bool => ih (i + 1) c (by omega) (by omega)
        rw [if_neg (show ¬ bI true = 0 by decide), q65_8 h, Option.bind_some, rI1 i (by omega), Option.bind_some, Option.bind_some, rI1 m hm, Option.bind_some, Bool.true_and, allB_at (by omega)]
        have fin0 : j_X12_isPlaceAlike_191 (l_X12_isPlaceAlike_49 n) 65 (nI m) (nI i) M = some (bI false, M) := by
          unfold j_X12_isPlaceAlike_191 j_X12_isPlaceAlike_192
          rw [nI_add]
          have := ihs false
          rw [Bool.false_and] at this
          exact this
        have fin : ∀ c d : Bool, j_X12_isPlaceAlike_98 (l_X12_isPlaceAlike_49 n) 65 (nI m) (nI i) (bI c) (bI d) M = some (bI (((c == d) && ((eb (ws w1) (ro r i).1 (ro r m).1 == eb (ws w2) (ro r i).2 (ro r m).2) && (eb (ws w1) (ro r m).1 (ro r i).1 == eb (ws w2) (ro r m).2 (ro r i).2))) && allB (m + 1) (fun q => decide (q < i + 1) || pl1 (ws w1) (ws w2) (ro r m) (ro r q))), M) := by
          intro c d
          unfold j_X12_isPlaceAlike_98
          by_cases hcd : c = d
          · subst hcd
            rw [if_pos rfl, gI_n (t65 h), Option.bind_some, s.1, q65_8 h, Option.bind_some, rI1 i (by omega), Option.bind_some, Option.bind_some, rI1 m hm, Option.bind_some, jiv_n (t65 h), m_isTied h a hf h1 (by omega) (by omega), jb2_some, gI_n (t65 h), Option.bind_some, s.2.1, q65_9 h, Option.bind_some, rI2 i (by omega), Option.bind_some, Option.bind_some, rI2 m hm, Option.bind_some, jiv_n (t65 h), m_isTied h a hf h2 (by omega) (by omega), jb2_some]
            cases he : (eb (ws w1) (ro r i).1 (ro r m).1 == eb (ws w2) (ro r i).2 (ro r m).2) with
            | false =>
              rw [if_neg (fun q => by rw [bI_e.mp q] at he; simp at he), fin0]
              simp
            | true =>
              rw [if_pos (by rw [eq_of_beq he]), gI_n (t65 h), Option.bind_some, s.1, q65_8 h, Option.bind_some, rI1 m hm, Option.bind_some, Option.bind_some, rI1 i (by omega), Option.bind_some, jiv_n (t65 h), m_isTied h a hf h1 (by omega) (by omega), jb2_some, gI_n (t65 h), Option.bind_some, s.2.1, q65_9 h, Option.bind_some, rI2 m hm, Option.bind_some, Option.bind_some, rI2 i (by omega), Option.bind_some, jiv_n (t65 h), m_isTied h a hf h2 (by omega) (by omega), jb2_some]
              cases he2 : (eb (ws w1) (ro r m).1 (ro r i).1 == eb (ws w2) (ro r m).2 (ro r i).2) with
              | false =>
                rw [if_neg (fun q => by rw [bI_e.mp q] at he2; simp at he2), fin0]
                simp
              | true =>
                rw [if_pos (by rw [eq_of_beq he2])]
                unfold j_X12_isPlaceAlike_192
                rw [nI_add]
                have := ihs true
                rw [show bI true = nI 1 from rfl] at this
                rw [this]
                simp
          · rw [if_neg (fun q => hcd (bI_e.mp q)), fin0]
            have : (c == d) = false := by cases c <;> cases d <;> simp_all
            rw [this]; simp
        have mid : ∀ c : Bool, j_X12_isPlaceAlike_78 (l_X12_isPlaceAlike_49 n) 65 (nI m) (nI i) (bI c) M = some (bI (((c == decide ((ro r i).2 = (ro r m).2)) && ((eb (ws w1) (ro r i).1 (ro r m).1 == eb (ws w2) (ro r i).2 (ro r m).2) && (eb (ws w1) (ro r m).1 (ro r i).1 == eb (ws w2) (ro r m).2 (ro r i).2))) && allB (m + 1) (fun q => decide (q < i + 1) || pl1 (ws w1) (ws w2) (ro r m) (ro r q))), M) := by
          intro c
          unfold j_X12_isPlaceAlike_78
          rw [q65_9 h, Option.bind_some, rI2 i (by omega), Option.bind_some, Option.bind_some, rI2 m hm, Option.bind_some]
          by_cases he : (ro r i).2 = (ro r m).2
          · rw [if_pos (by rw [he]), show nI 1 = bI true from rfl, fin c true, decide_eq_true he]
          · rw [if_neg (fun q => he ((nI_eq (by omega) (by omega)).mp q)), show nI 0 = bI false from rfl, fin c false, decide_eq_false he]
        by_cases he : (ro r i).1 = (ro r m).1
        · rw [if_pos (by rw [he]), show nI 1 = bI true from rfl, mid true]
          unfold pl1
          rw [decide_eq_true he]
        · rw [if_neg (fun q => he ((nI_eq (by omega) (by omega)).mp q)), show nI 0 = bI false from rfl, mid false]
          unfold pl1
          rw [decide_eq_false he]
theorem n_place (hf : WF ws) (h1 : w1 < 8) (h2 : w2 < 8) (g : GG ws w1 w2 r M) (hr : rv (ws w1) (ws w2) r) {m : Nat} (hm : m < r.length) : f_X12_isPlaceAlike 65 (nI m) M = some (bI (plm (ws w1) (ws w2) r m), M) := by
  have g' := g
  obtain ⟨h, a, s⟩ := g
  obtain ⟨n0, hn0⟩ := jF_is
  have h6 := (hf w1).1
  have h62 := (hf w2).1
  have hl := s.2.2.2.1
  have vm := hr _ (ro_mem hm)
  have m1 := (hf w1).2.1 (ro r m).1
  have m2 := (hf w2).2.1 (ro r m).2
  unfold f_X12_isPlaceAlike
  rw [q65_1 h, Option.bind_some, gI_n (t65 h), Option.bind_some, s.1, q65_8 h, Option.bind_some, ldI_n (t71 h) (by omega) (by decide), Option.bind_some, (s.2.2.2.2 m hm).1, m_marks h a h1 (by omega), Option.bind_some, Option.bind_some, gI_n (t65 h), Option.bind_some, s.2.1, q65_9 h, Option.bind_some, ldI_n (t72 h) (by omega) (by decide), Option.bind_some, (s.2.2.2.2 m hm).2, m_marks h a h2 (by omega), Option.bind_some]
  unfold plm j_X12_isPlaceAlike_46
  have go : ∀ b : Bool, l_X12_isPlaceAlike_49 jF0 65 (nI m) (bI b) (nI 0) M = some (bI (b && allB (m + 1) (fun n => pl1 (ws w1) (ws w2) (ro r m) (ro r n))), M) := by
    intro b
    have := n_place_49 hf h1 h2 g' hr hm jF0 0 b (Nat.zero_le _) (by omega)
    rw [allB_0] at this
    exact this
  by_cases he : (ws w1).2.1 (ro r m).1 = (ws w2).2.1 (ro r m).2
  · rw [if_pos (by rw [he]), show nI 1 = bI true from rfl, go true, decide_eq_true he]
  · have e0 := go false
    rw [show bI false = nI 0 from rfl] at e0
    rw [if_neg (fun q => he ((nI_eq (by omega) (by omega)).mp q)), e0, decide_eq_false he]
theorem n_alike_4 (hf : WF ws) (h1 : w1 < 8) (h2 : w2 < 8) (g : GG ws w1 w2 r M) (hr : rv (ws w1) (ws w2) r) : ∀ (n i : Nat) (b : Bool), i ≤ r.length → r.length - i < n → l_X12_areAlike_4 n 65 (bI b) (nI i) M = some (bI (b && allB r.length (fun q => decide (q < i) || plm (ws w1) (ws w2) r q)), M) := by
  have g' := g
  obtain ⟨h, a, s⟩ := g
  have hl := s.2.2.2.1
  intro n
  induction n with
  | zero => intro i b _ h; omega
  | succ n ih =>
    intro i b hi hn
    show b_X12_areAlike_4 (l_X12_areAlike_4 n) 65 (bI b) (nI i) M = _
    unfold b_X12_areAlike_4
    rw [gI_n (t65 h), Option.bind_some, s.2.2.1]
    by_cases hir : r.length ≤ i
    · rw [if_pos (nI_le hir (by omega)), allB_end hir, Bool.and_true, rZ_n]
    · rw [if_neg (nI_ge (by omega) (by omega))]
      cases b with
      | false => rw [if_pos (show bI false = 0 from rfl)]; rfl
      | true =>
        rw [if_neg (show ¬ bI true = 0 by decide), jiv_n (t65 h), n_place hf h1 h2 g' hr (show i < r.length by omega), jb2_some, nI_add, Bool.true_and, allB_at (by omega), ih (i + 1) _ (by omega) (by omega)]
theorem n_alike (hf : WF ws) (h1 : w1 < 8) (h2 : w2 < 8) (g : GG ws w1 w2 r M) (hr : rv (ws w1) (ws w2) r) : f_X12_areAlike 65 M = some (bI (alk (ws w1) (ws w2) r), M) := by
  obtain ⟨n0, hn0⟩ := jF_is
  have hl := g.2.2.2.2.2.1
  have := n_alike_4 hf h1 h2 g hr jF0 0 true (Nat.zero_le _) (by omega)
  rw [allB_0, Bool.true_and, ← alk_plm] at this
  exact this
theorem n_manyOf (h1 : w1 < 8) (h2 : w2 < 8) (g : GG ws w1 w2 r M) {side : Nat} (hs : side < 2) : f_X12_manyOf 65 (nI side) M = some (nI (if side = 0 then (ws w1).1 else (ws w2).1), M) := by
  obtain ⟨h, a, s⟩ := g
  unfold f_X12_manyOf j_X12_manyOf_19
  rw [q65_0 h, Option.bind_some]
  rcases (show side = 0 ∨ side = 1 by omega) with rfl | rfl
  · rw [if_pos (show nI 0 = 0 from rfl), gI_n (t65 h), Option.bind_some, s.1, m_things h a h1]; rfl
  · rw [if_neg (show ¬ nI 1 = 0 by decide), gI_n (t65 h), Option.bind_some, s.2.1, m_things h a h2]; rfl
theorem n_add (g : GG ws w1 w2 r M) (hl : r.length < 5) (x y : Nat) : ∃ N, f_X12_add 65 (nI x) (nI y) M = some ((), N) ∧ GG ws w1 w2 ((x, y) :: r) N ∧ Ey PG M N := by
  obtain ⟨h, a, s⟩ := g
  unfold f_X12_add
  rw [q65_8 h, Option.bind_some, gI_n (t65 h), Option.bind_some, s.2.2.1, stI_n (t71 h) hl (by decide), Option.bind_some]
  have e1 : Ey PG M (wI M 71 r.length (nI x)) := ey_wI Ey.rf (by unfold PG; omega)
  have h1 := Sh_ey e1 h
  rw [q65_9 h1, Option.bind_some, gI_n (t65 h1), Option.bind_some, rI_wI, if_neg (by omega), s.2.2.1, stI_n (t72 h1) hl (by decide), Option.bind_some]
  have e2 : Ey PG M (wI (wI M 71 r.length (nI x)) 72 r.length (nI y)) := ey_wI e1 (by unfold PG; omega)
  have h2 := Sh_ey e2 h
  rw [gI_n (t65 h2), Option.bind_some, rI_wI, if_neg (by omega), rI_wI, if_neg (by omega), s.2.2.1, pI_n (t65 h2), Option.bind_some, nI_add]
  have e3 : Ey PG M (wI (wI (wI M 71 r.length (nI x)) 72 r.length (nI y)) 65 7 (nI (r.length + 1))) := ey_wI e2 (by unfold PG; omega)
  refine ⟨_, rfl, ⟨Sh_ey e3 h, MA_ey e3 a (fun c i hc => by unfold PG; omega), ?_, ?_, ?_, by simp; omega, fun q hq => ?_⟩, e3⟩
  · simp only [rI_wI]; rw [if_neg (by omega), if_neg (by omega), if_neg (by omega)]; exact s.1
  · simp only [rI_wI]; rw [if_neg (by omega), if_neg (by omega), if_neg (by omega)]; exact s.2.1
  · rw [rI_wI]; simp
  · have hq : q < r.length + 1 := hq
    simp only [rI_wI]
    by_cases hql : q = r.length
    · subst hql
      rw [ro_last]
      refine ⟨?_, ?_⟩
      · rw [if_neg (by omega), if_neg (by omega)]; simp
      · rw [if_neg (by omega)]; simp
    · rw [ro_cons (by omega)]
      refine ⟨?_, ?_⟩
      · rw [if_neg (by omega), if_neg (by omega), if_neg (by omega)]; exact (s.2.2.2.2 q (by omega)).1
      · rw [if_neg (by omega), if_neg (by omega), if_neg (by omega)]; exact (s.2.2.2.2 q (by omega)).2
theorem n_addPick (g : GG ws w1 w2 r M) (hl : r.length < 5) {side : Nat} (hs : side < 2) (t s : Nat) : ∃ N, f_X12_addPick 65 (nI side) (nI t) (nI s) M = some ((), N) ∧ GG ws w1 w2 (pr2 side t s :: r) N ∧ Ey PG M N := by
  unfold f_X12_addPick
  rcases (show side = 0 ∨ side = 1 by omega) with rfl | rfl
  · obtain ⟨N, q1, q2, q3⟩ := n_add g hl t s
    rw [if_pos (show nI 0 = 0 from rfl), jiv_n (t65 g.1), q1]
    exact ⟨N, rfl, q2, q3⟩
  · obtain ⟨N, q1, q2, q3⟩ := n_add g hl s t
    rw [if_neg (show ¬ nI 1 = 0 by decide), jiv_n (t65 g.1), q1]
    exact ⟨N, rfl, q2, q3⟩
/-- size-- -/
theorem n_less {p : Nat × Nat} (g : GG ws w1 w2 (p :: r) M) : GG ws w1 w2 r (wI M 65 7 (rI M 65 7 - nI 1)) ∧ Ey PG M (wI M 65 7 (rI M 65 7 - nI 1)) := by
  obtain ⟨h, a, s⟩ := g
  have hl : r.length + 1 ≤ 5 := s.2.2.2.1
  have e1 : Ey PG M (wI M 65 7 (rI M 65 7 - nI 1)) := ey_wI Ey.rf (by unfold PG; omega)
  refine ⟨⟨Sh_ey e1 h, MA_ey e1 a (fun c i hc => by unfold PG; omega), ?_, ?_, ?_, by omega, fun q hq => ?_⟩, e1⟩
  · rw [rI_wI, if_neg (by omega)]; exact s.1
  · rw [rI_wI, if_neg (by omega)]; exact s.2.1
  · rw [rI_wI, s.2.2.1]
    simp only [and_self, if_true]
    rw [show (p :: r).length = r.length + 1 from rfl, pk_sub (by omega), Nat.add_sub_cancel]
  · rw [rI_wI, rI_wI, if_neg (by omega), if_neg (by omega)]
    have := s.2.2.2.2 q (by show q < r.length + 1; omega)
    rw [ro_cons hq] at this
    exact this
theorem rv_cons {u v : Wd} {p : Nat × Nat} (hr : rv u v r) (h1 : p.1 < u.1) (h2 : p.2 < v.1) : rv u v (p :: r) := fun q hq => by
  rcases List.mem_cons.mp hq with rfl | g
  · exact ⟨h1, h2⟩
  · exact hr q g
end N1
/-- how many things a side has -/
def sz2 (u v : Wd) (side : Nat) : Nat := if side = 0 then u.1 else v.1
theorem pr2_ok {u v : Wd} {side t s : Nat} (hs : side < 2) (h1 : t < sz2 u v side) (h2 : s < sz2 u v (1 - side)) : (pr2 side t s).1 < u.1 ∧ (pr2 side t s).2 < v.1 := by
  unfold sz2 at h1 h2
  unfold pr2
  rcases (show side = 0 ∨ side = 1 by omega) with rfl | rfl
  · exact ⟨h1, h2⟩
  · exact ⟨h2, h1⟩

section NK1
variable {ws : Nat → Wd} {w1 w2 : Nat} {r : Rw}
def wn1 (ws : Nat → Wd) (w1 w2 : Nat) (r : Rw) (p : Nat × Nat) : Bool := pla (ws w1) (ws w2) r p
theorem nk1_32 (hf : WF ws) (h1 : w1 < 8) (h2 : w2 < 8) (hr : rv (ws w1) (ws w2) r) (hl : r.length ≤ 4) {k7 : Nat → Int32 → Int32 → jM → jO Int32} {k14 : Nat → Int32 → Int32 → Int32 → jM → jO Int32} {side x : Nat} (hs : side < 2) (hx : x < sz2 (ws w1) (ws w2) side) : ∀ (n y : Nat) (b : Bool) (M : jM), GG ws w1 w2 r M → y ≤ sz2 (ws w1) (ws w2) (1 - side) → sz2 (ws w1) (ws w2) (1 - side) - y < n →
    ∃ N, l_X12_keeps1_32 k7 k14 n 65 (bI b) (nI side) (nI x) (nI y) M = k14 65 (bI (b || anyB (sz2 (ws w1) (ws w2) (1 - side)) (fun q => decide (y ≤ q) && wn1 ws w1 w2 r (pr2 side x q)))) (nI side) (nI (x + 1)) N ∧ GG ws w1 w2 r N ∧ Ey PG M N := by
  have h6 := (hf w1).1
  have h62 := (hf w2).1
  have hz : sz2 (ws w1) (ws w2) (1 - side) ≤ 6 := by unfold sz2; split <;> omega
  intro n
  induction n with
  | zero => intro y b M _ _ h; omega
  | succ n ih =>
    intro y b M g hy hn
    show ∃ N, b_X12_keeps1_32 k7 k14 (l_X12_keeps1_32 k7 k14 n) 65 (bI b) (nI side) (nI x) (nI y) M = _ ∧ _
    unfold b_X12_keeps1_32 j_X12_keeps1_83
    rw [pk_sub (by omega), jiv_n (t65 g.1), n_manyOf h1 h2 g (show 1 - side < 2 by omega), jb2_some]
    show ∃ N, (if nI (sz2 (ws w1) (ws w2) (1 - side)) ≤ nI y then _ else _) = _ ∧ _
    by_cases hyv : sz2 (ws w1) (ws w2) (1 - side) ≤ y
    · rw [if_pos (nI_le hyv (by omega)), anyB_end hyv, Bool.or_false, nI_add]
      exact ⟨M, rfl, g, Ey.rf⟩
    · rw [if_neg (nI_ge (by omega) (by omega))]
      cases b with
      | true =>
        rw [if_neg (show ¬ bI true = 0 by decide), nI_add, Bool.true_or]
        exact ⟨M, rfl, g, Ey.rf⟩
      | false =>
        rw [if_pos (show bI false = 0 from rfl), jiv_n (t65 g.1), Bool.false_or, anyB_at (by omega)]
        obtain ⟨N1, p1, p2, p3⟩ := n_addPick g (show r.length < 5 by omega) hs x y
        have hok := pr2_ok hs hx (show y < sz2 (ws w1) (ws w2) (1 - side) by omega)
        have hr2 := rv_cons hr hok.1 hok.2
        rw [p1, jb2_some, gI_n (t65 p2.1), Option.bind_some, p2.2.2.2.2.1, show (pr2 side x y :: r).length = r.length + 1 from rfl, pk_sub (by omega), Nat.add_sub_cancel, jiv_n (t65 p2.1), n_place hf h1 h2 p2 hr2 (show r.length < (pr2 side x y :: r).length by simp), jb2_some, plm_last]
        rw [gI_n (t65 p2.1), Option.bind_some, pI_n (t65 p2.1), Option.bind_some, nI_add]
        obtain ⟨g3, e3⟩ := n_less p2
        obtain ⟨N2, q1, q2, q3⟩ := ih (y + 1) (pla (ws w1) (ws w2) r (pr2 side x y)) _ g3 (by omega) (by omega)
        exact ⟨N2, q1, q2, (p3.tr e3).tr q3⟩
theorem nk1_14 (hf : WF ws) (h1 : w1 < 8) (h2 : w2 < 8) (hr : rv (ws w1) (ws w2) r) (hl : r.length ≤ 4) {k7 : Nat → Int32 → Int32 → jM → jO Int32} {side : Nat} (hs : side < 2) : ∀ (n x : Nat) (b : Bool) (M : jM), GG ws w1 w2 r M → x ≤ sz2 (ws w1) (ws w2) side → sz2 (ws w1) (ws w2) side - x < n →
    ∃ N, l_X12_keeps1_14 k7 n 65 (bI b) (nI side) (nI x) M = k7 65 (bI (b && allB (sz2 (ws w1) (ws w2) side) (fun p => decide (p < x) || anyB (sz2 (ws w1) (ws w2) (1 - side)) (fun q => wn1 ws w1 w2 r (pr2 side p q))))) (nI (side + 1)) N ∧ GG ws w1 w2 r N ∧ Ey PG M N := by
  have h6 := (hf w1).1
  have h62 := (hf w2).1
  have hz : sz2 (ws w1) (ws w2) side ≤ 6 := by unfold sz2; split <;> omega
  have hz2 : sz2 (ws w1) (ws w2) (1 - side) ≤ 6 := by unfold sz2; split <;> omega
  obtain ⟨n0, hn0⟩ := jF_is
  intro n
  induction n with
  | zero => intro x b M _ _ h; omega
  | succ n ih =>
    intro x b M g hx hn
    show ∃ N, b_X12_keeps1_14 k7 (l_X12_keeps1_14 k7 n) 65 (bI b) (nI side) (nI x) M = _ ∧ _
    unfold b_X12_keeps1_14 j_X12_keeps1_89
    rw [jiv_n (t65 g.1), n_manyOf h1 h2 g hs, jb2_some]
    show ∃ N, (if nI (sz2 (ws w1) (ws w2) side) ≤ nI x then _ else _) = _ ∧ _
    by_cases hxv : sz2 (ws w1) (ws w2) side ≤ x
    · rw [if_pos (nI_le hxv (by omega)), allB_end hxv, Bool.and_true, nI_add]
      exact ⟨M, rfl, g, Ey.rf⟩
    · rw [if_neg (nI_ge (by omega) (by omega))]
      cases b with
      | false =>
        rw [if_pos (show bI false = 0 from rfl), nI_add, Bool.false_and]
        exact ⟨M, rfl, g, Ey.rf⟩
      | true =>
        rw [if_neg (show ¬ bI true = 0 by decide), Bool.true_and, allB_at (by omega), show nI 0 = bI false from rfl]
        obtain ⟨N, q1, q2, q3⟩ := nk1_32 hf h1 h2 hr hl (k7 := k7) (k14 := l_X12_keeps1_14 k7 n) hs (show x < sz2 (ws w1) (ws w2) side by omega) jF0 0 false M g (Nat.zero_le _) (by omega)
        rw [show bI false = nI 0 from rfl] at q1 ⊢
        rw [q1, Bool.false_or, anyB_0]
        obtain ⟨N2, s1, s2, s3⟩ := ih (x + 1) (anyB (sz2 (ws w1) (ws w2) (1 - side)) (fun q => wn1 ws w1 w2 r (pr2 side x q))) N q2 (by omega) (by omega)
        exact ⟨N2, s1, s2, q3.tr s3⟩
def al1 (ws : Nat → Wd) (w1 w2 : Nat) (r : Rw) (side : Nat) : Bool := allB (sz2 (ws w1) (ws w2) side) (fun p => anyB (sz2 (ws w1) (ws w2) (1 - side)) (fun q => wn1 ws w1 w2 r (pr2 side p q)))
theorem nk1 (hf : WF ws) (h1 : w1 < 8) (h2 : w2 < 8) (hr : rv (ws w1) (ws w2) r) (hl : r.length ≤ 4) {M : jM} (g : GG ws w1 w2 r M) : ∃ N, f_X12_keeps1 65 M = some (bI (kw (ws w1) (ws w2) 1 r), N) ∧ GG ws w1 w2 r N ∧ Ey PG M N := by
  have h6 := (hf w1).1
  have h62 := (hf w2).1
  obtain ⟨n0, hn0⟩ := jF_is
  unfold f_X12_keeps1
  rw [jiv_n (t65 g.1), n_alike hf h1 h2 g hr, jb2_some]
  have step : ∀ (n side : Nat) (b : Bool) (M : jM), GG ws w1 w2 r M → side < 2 → ∃ N, l_X12_keeps1_7 (n + 1) 65 (bI b) (nI side) M = l_X12_keeps1_7 n 65 (bI (b && al1 ws w1 w2 r side)) (nI (side + 1)) N ∧ GG ws w1 w2 r N ∧ Ey PG M N := by
    intro n side b M g hs
    have hz : sz2 (ws w1) (ws w2) side ≤ 6 := by unfold sz2; split <;> omega
    show ∃ N, b_X12_keeps1_7 (l_X12_keeps1_7 n) 65 (bI b) (nI side) M = _ ∧ _
    unfold b_X12_keeps1_7
    rw [if_neg (nI_ge (by omega) (by decide))]
    obtain ⟨N, q1, q2, q3⟩ := nk1_14 hf h1 h2 hr hl (k7 := l_X12_keeps1_7 n) hs jF0 0 b M g (Nat.zero_le _) (by omega)
    rw [allB_0] at q1
    exact ⟨N, q1, q2, q3⟩
  rw [show jF0 = (jF0 - 2) + 1 + 1 by omega]
  obtain ⟨N1, a1, a2, a3⟩ := step (jF0 - 2 + 1) 0 (alk (ws w1) (ws w2) r) M g (by decide)
  obtain ⟨N2, b1, b2, b3⟩ := step (jF0 - 2) 1 (alk (ws w1) (ws w2) r && al1 ws w1 w2 r 0) N1 a2 (by decide)
  rw [a1, b1]
  refine ⟨N2, ?_, b2, a3.tr b3⟩
  rw [show jF0 - 2 = (jF0 - 3) + 1 by omega]
  show b_X12_keeps1_7 (l_X12_keeps1_7 (jF0 - 3)) 65 _ (nI (1 + 1)) N2 = _
  unfold b_X12_keeps1_7
  rw [if_pos (nI_le (by decide) (by decide)), rZ_n]
  congr 2
  congr 1
  show _ = (alk (ws w1) (ws w2) r && (allB (ws w1).1 (fun a => anyB (ws w2).1 (fun b => kw (ws w1) (ws w2) 0 ((a, b) :: r))) && allB (ws w2).1 (fun b => anyB (ws w1).1 (fun a => kw (ws w1) (ws w2) 0 ((a, b) :: r)))))
  rw [Bool.and_assoc]
  cases hal : alk (ws w1) (ws w2) r with
  | false => rfl
  | true =>
    have e : ∀ p, wn1 ws w1 w2 r p = kw (ws w1) (ws w2) 0 (p :: r) := by
      intro p
      unfold wn1
      show pla (ws w1) (ws w2) r p = (alk (ws w1) (ws w2) r && pla (ws w1) (ws w2) r p)
      rw [hal, Bool.true_and]
    unfold al1
    simp only [e]
    rfl
end NK1

section NK2
variable {ws : Nat → Wd} {w1 w2 : Nat} {r : Rw}
def wn2 (ws : Nat → Wd) (w1 w2 : Nat) (r : Rw) (p : Nat × Nat) : Bool := pla (ws w1) (ws w2) r p && kw (ws w1) (ws w2) 1 (p :: r)
theorem nk2_32 (hf : WF ws) (h1 : w1 < 8) (h2 : w2 < 8) (hr : rv (ws w1) (ws w2) r) (hl : r.length ≤ 3) {k7 : Nat → Int32 → Int32 → jM → jO Int32} {k14 : Nat → Int32 → Int32 → Int32 → jM → jO Int32} {side x : Nat} (hs : side < 2) (hx : x < sz2 (ws w1) (ws w2) side) : ∀ (n y : Nat) (b : Bool) (M : jM), GG ws w1 w2 r M → y ≤ sz2 (ws w1) (ws w2) (1 - side) → sz2 (ws w1) (ws w2) (1 - side) - y < n →
    ∃ N, l_X12_keeps2_32 k7 k14 n 65 (bI b) (nI side) (nI x) (nI y) M = k14 65 (bI (b || anyB (sz2 (ws w1) (ws w2) (1 - side)) (fun q => decide (y ≤ q) && wn2 ws w1 w2 r (pr2 side x q)))) (nI side) (nI (x + 1)) N ∧ GG ws w1 w2 r N ∧ Ey PG M N := by
  have h6 := (hf w1).1
  have h62 := (hf w2).1
  have hz : sz2 (ws w1) (ws w2) (1 - side) ≤ 6 := by unfold sz2; split <;> omega
  intro n
  induction n with
  | zero => intro y b M _ _ h; omega
  | succ n ih =>
    intro y b M g hy hn
    show ∃ N, b_X12_keeps2_32 k7 k14 (l_X12_keeps2_32 k7 k14 n) 65 (bI b) (nI side) (nI x) (nI y) M = _ ∧ _
    unfold b_X12_keeps2_32 j_X12_keeps2_98
    rw [pk_sub (by omega), jiv_n (t65 g.1), n_manyOf h1 h2 g (show 1 - side < 2 by omega), jb2_some]
    show ∃ N, (if nI (sz2 (ws w1) (ws w2) (1 - side)) ≤ nI y then _ else _) = _ ∧ _
    by_cases hyv : sz2 (ws w1) (ws w2) (1 - side) ≤ y
    · rw [if_pos (nI_le hyv (by omega)), anyB_end hyv, Bool.or_false, nI_add]
      exact ⟨M, rfl, g, Ey.rf⟩
    · rw [if_neg (nI_ge (by omega) (by omega))]
      cases b with
      | true =>
        rw [if_neg (show ¬ bI true = 0 by decide), nI_add, Bool.true_or]
        exact ⟨M, rfl, g, Ey.rf⟩
      | false =>
        rw [if_pos (show bI false = 0 from rfl), jiv_n (t65 g.1), Bool.false_or, anyB_at (by omega)]
        obtain ⟨N1, p1, p2, p3⟩ := n_addPick g (show r.length < 5 by omega) hs x y
        have hok := pr2_ok hs hx (show y < sz2 (ws w1) (ws w2) (1 - side) by omega)
        have hr2 := rv_cons hr hok.1 hok.2
        rw [p1, jb2_some, gI_n (t65 p2.1), Option.bind_some, p2.2.2.2.2.1, show (pr2 side x y :: r).length = r.length + 1 from rfl, pk_sub (by omega), Nat.add_sub_cancel, jiv_n (t65 p2.1), n_place hf h1 h2 p2 hr2 (show r.length < (pr2 side x y :: r).length by simp), jb2_some, plm_last]
        have fin : ∀ (c : Bool) (N : jM), GG ws w1 w2 (pr2 side x y :: r) N → Ey PG M N → ∃ N2, j_X12_keeps2_81 k7 k14 (l_X12_keeps2_32 k7 k14 n) 65 (nI side) (nI x) (nI y) (bI c) N = k14 65 (bI (c || anyB (sz2 (ws w1) (ws w2) (1 - side)) (fun q => decide (y + 1 ≤ q) && wn2 ws w1 w2 r (pr2 side x q)))) (nI side) (nI (x + 1)) N2 ∧ GG ws w1 w2 r N2 ∧ Ey PG M N2 := by
          intro c N gN eN
          unfold j_X12_keeps2_81
          rw [gI_n (t65 gN.1), Option.bind_some, pI_n (t65 gN.1), Option.bind_some, nI_add]
          obtain ⟨g3, e3⟩ := n_less gN
          obtain ⟨N2, q1, q2, q3⟩ := ih (y + 1) c _ g3 (by omega) (by omega)
          exact ⟨N2, q1, q2, (eN.tr e3).tr q3⟩
        unfold j_X12_keeps2_80
        cases hp : pla (ws w1) (ws w2) r (pr2 side x y) with
        | false =>
          rw [if_pos (show bI false = 0 from rfl)]
          have : wn2 ws w1 w2 r (pr2 side x y) = false := by unfold wn2; rw [hp, Bool.false_and]
          rw [this]
          exact fin false N1 p2 p3
        | true =>
          rw [if_neg (show ¬ bI true = 0 by decide), jiv_n (t65 p2.1)]
          obtain ⟨N2, s1, s2, s3⟩ := nk1 hf h1 h2 hr2 (show (pr2 side x y :: r).length ≤ 4 by simp; omega) p2
          rw [s1, jb2_some]
          have : wn2 ws w1 w2 r (pr2 side x y) = kw (ws w1) (ws w2) 1 (pr2 side x y :: r) := by unfold wn2; rw [hp, Bool.true_and]
          rw [this]
          cases hk : kw (ws w1) (ws w2) 1 (pr2 side x y :: r) with
          | false =>
            rw [if_pos (show bI false = 0 from rfl)]
            exact fin false N2 s2 (p3.tr s3)
          | true =>
            rw [if_neg (show ¬ bI true = 0 by decide)]
            exact fin true N2 s2 (p3.tr s3)
theorem nk2_14 (hf : WF ws) (h1 : w1 < 8) (h2 : w2 < 8) (hr : rv (ws w1) (ws w2) r) (hl : r.length ≤ 3) {k7 : Nat → Int32 → Int32 → jM → jO Int32} {side : Nat} (hs : side < 2) : ∀ (n x : Nat) (b : Bool) (M : jM), GG ws w1 w2 r M → x ≤ sz2 (ws w1) (ws w2) side → sz2 (ws w1) (ws w2) side - x < n →
    ∃ N, l_X12_keeps2_14 k7 n 65 (bI b) (nI side) (nI x) M = k7 65 (bI (b && allB (sz2 (ws w1) (ws w2) side) (fun p => decide (p < x) || anyB (sz2 (ws w1) (ws w2) (1 - side)) (fun q => wn2 ws w1 w2 r (pr2 side p q))))) (nI (side + 1)) N ∧ GG ws w1 w2 r N ∧ Ey PG M N := by
  have h6 := (hf w1).1
  have h62 := (hf w2).1
  have hz : sz2 (ws w1) (ws w2) side ≤ 6 := by unfold sz2; split <;> omega
  have hz2 : sz2 (ws w1) (ws w2) (1 - side) ≤ 6 := by unfold sz2; split <;> omega
  obtain ⟨n0, hn0⟩ := jF_is
  intro n
  induction n with
  | zero => intro x b M _ _ h; omega
  | succ n ih =>
    intro x b M g hx hn
    show ∃ N, b_X12_keeps2_14 k7 (l_X12_keeps2_14 k7 n) 65 (bI b) (nI side) (nI x) M = _ ∧ _
    unfold b_X12_keeps2_14 j_X12_keeps2_104
    rw [jiv_n (t65 g.1), n_manyOf h1 h2 g hs, jb2_some]
    show ∃ N, (if nI (sz2 (ws w1) (ws w2) side) ≤ nI x then _ else _) = _ ∧ _
    by_cases hxv : sz2 (ws w1) (ws w2) side ≤ x
    · rw [if_pos (nI_le hxv (by omega)), allB_end hxv, Bool.and_true, nI_add]
      exact ⟨M, rfl, g, Ey.rf⟩
    · rw [if_neg (nI_ge (by omega) (by omega))]
      cases b with
      | false =>
        rw [if_pos (show bI false = 0 from rfl), nI_add, Bool.false_and]
        exact ⟨M, rfl, g, Ey.rf⟩
      | true =>
        rw [if_neg (show ¬ bI true = 0 by decide), Bool.true_and, allB_at (by omega), show nI 0 = bI false from rfl]
        obtain ⟨N, q1, q2, q3⟩ := nk2_32 hf h1 h2 hr hl (k7 := k7) (k14 := l_X12_keeps2_14 k7 n) hs (show x < sz2 (ws w1) (ws w2) side by omega) jF0 0 false M g (Nat.zero_le _) (by omega)
        rw [show bI false = nI 0 from rfl] at q1 ⊢
        rw [q1, Bool.false_or, anyB_0]
        obtain ⟨N2, s1, s2, s3⟩ := ih (x + 1) (anyB (sz2 (ws w1) (ws w2) (1 - side)) (fun q => wn2 ws w1 w2 r (pr2 side x q))) N q2 (by omega) (by omega)
        exact ⟨N2, s1, s2, q3.tr s3⟩
def al2 (ws : Nat → Wd) (w1 w2 : Nat) (r : Rw) (side : Nat) : Bool := allB (sz2 (ws w1) (ws w2) side) (fun p => anyB (sz2 (ws w1) (ws w2) (1 - side)) (fun q => wn2 ws w1 w2 r (pr2 side p q)))
theorem nk2 (hf : WF ws) (h1 : w1 < 8) (h2 : w2 < 8) (hr : rv (ws w1) (ws w2) r) (hl : r.length ≤ 3) {M : jM} (g : GG ws w1 w2 r M) : ∃ N, f_X12_keeps2 65 M = some (bI (kw (ws w1) (ws w2) 2 r), N) ∧ GG ws w1 w2 r N ∧ Ey PG M N := by
  have h6 := (hf w1).1
  have h62 := (hf w2).1
  obtain ⟨n0, hn0⟩ := jF_is
  unfold f_X12_keeps2
  rw [jiv_n (t65 g.1), n_alike hf h1 h2 g hr, jb2_some]
  have step : ∀ (n side : Nat) (b : Bool) (M : jM), GG ws w1 w2 r M → side < 2 → ∃ N, l_X12_keeps2_7 (n + 1) 65 (bI b) (nI side) M = l_X12_keeps2_7 n 65 (bI (b && al2 ws w1 w2 r side)) (nI (side + 1)) N ∧ GG ws w1 w2 r N ∧ Ey PG M N := by
    intro n side b M g hs
    have hz : sz2 (ws w1) (ws w2) side ≤ 6 := by unfold sz2; split <;> omega
    show ∃ N, b_X12_keeps2_7 (l_X12_keeps2_7 n) 65 (bI b) (nI side) M = _ ∧ _
    unfold b_X12_keeps2_7
    rw [if_neg (nI_ge (by omega) (by decide))]
    obtain ⟨N, q1, q2, q3⟩ := nk2_14 hf h1 h2 hr hl (k7 := l_X12_keeps2_7 n) hs jF0 0 b M g (Nat.zero_le _) (by omega)
    rw [allB_0] at q1
    exact ⟨N, q1, q2, q3⟩
  rw [show jF0 = (jF0 - 2) + 1 + 1 by omega]
  obtain ⟨N1, a1, a2, a3⟩ := step (jF0 - 2 + 1) 0 (alk (ws w1) (ws w2) r) M g (by decide)
  obtain ⟨N2, b1, b2, b3⟩ := step (jF0 - 2) 1 (alk (ws w1) (ws w2) r && al2 ws w1 w2 r 0) N1 a2 (by decide)
  rw [a1, b1]
  refine ⟨N2, ?_, b2, a3.tr b3⟩
  rw [show jF0 - 2 = (jF0 - 3) + 1 by omega]
  show b_X12_keeps2_7 (l_X12_keeps2_7 (jF0 - 3)) 65 _ (nI (1 + 1)) N2 = _
  unfold b_X12_keeps2_7
  rw [if_pos (nI_le (by decide) (by decide)), rZ_n]
  congr 2
  congr 1
  show _ = (alk (ws w1) (ws w2) r && (allB (ws w1).1 (fun a => anyB (ws w2).1 (fun b => kw (ws w1) (ws w2) 1 ((a, b) :: r))) && allB (ws w2).1 (fun b => anyB (ws w1).1 (fun a => kw (ws w1) (ws w2) 1 ((a, b) :: r)))))
  rw [Bool.and_assoc]
  cases hal : alk (ws w1) (ws w2) r with
  | false => rfl
  | true =>
    have e : ∀ p, wn2 ws w1 w2 r p = kw (ws w1) (ws w2) 1 (p :: r) := by
      intro p
      unfold wn2
      cases hk : kw (ws w1) (ws w2) 1 (p :: r) with
      | false => rw [Bool.and_false]
      | true =>
        have := kw_alk hk
        unfold alk at this
        rw [Bool.and_eq_true] at this
        rw [this.2]; rfl
    unfold al2
    simp only [e]
    rfl
end NK2

section NK3
variable {ws : Nat → Wd} {w1 w2 : Nat} {r : Rw}
def wn3 (ws : Nat → Wd) (w1 w2 : Nat) (r : Rw) (p : Nat × Nat) : Bool := pla (ws w1) (ws w2) r p && kw (ws w1) (ws w2) 2 (p :: r)
theorem nk3_32 (hf : WF ws) (h1 : w1 < 8) (h2 : w2 < 8) (hr : rv (ws w1) (ws w2) r) (hl : r.length ≤ 2) {k7 : Nat → Int32 → Int32 → jM → jO Int32} {k14 : Nat → Int32 → Int32 → Int32 → jM → jO Int32} {side x : Nat} (hs : side < 2) (hx : x < sz2 (ws w1) (ws w2) side) : ∀ (n y : Nat) (b : Bool) (M : jM), GG ws w1 w2 r M → y ≤ sz2 (ws w1) (ws w2) (1 - side) → sz2 (ws w1) (ws w2) (1 - side) - y < n →
    ∃ N, l_X12_keeps3_32 k7 k14 n 65 (bI b) (nI side) (nI x) (nI y) M = k14 65 (bI (b || anyB (sz2 (ws w1) (ws w2) (1 - side)) (fun q => decide (y ≤ q) && wn3 ws w1 w2 r (pr2 side x q)))) (nI side) (nI (x + 1)) N ∧ GG ws w1 w2 r N ∧ Ey PG M N := by
  have h6 := (hf w1).1
  have h62 := (hf w2).1
  have hz : sz2 (ws w1) (ws w2) (1 - side) ≤ 6 := by unfold sz2; split <;> omega
  intro n
  induction n with
  | zero => intro y b M _ _ h; omega
  | succ n ih =>
    intro y b M g hy hn
    show ∃ N, b_X12_keeps3_32 k7 k14 (l_X12_keeps3_32 k7 k14 n) 65 (bI b) (nI side) (nI x) (nI y) M = _ ∧ _
    unfold b_X12_keeps3_32 j_X12_keeps3_98
    rw [pk_sub (by omega), jiv_n (t65 g.1), n_manyOf h1 h2 g (show 1 - side < 2 by omega), jb2_some]
    show ∃ N, (if nI (sz2 (ws w1) (ws w2) (1 - side)) ≤ nI y then _ else _) = _ ∧ _
    by_cases hyv : sz2 (ws w1) (ws w2) (1 - side) ≤ y
    · rw [if_pos (nI_le hyv (by omega)), anyB_end hyv, Bool.or_false, nI_add]
      exact ⟨M, rfl, g, Ey.rf⟩
    · rw [if_neg (nI_ge (by omega) (by omega))]
      cases b with
      | true =>
        rw [if_neg (show ¬ bI true = 0 by decide), nI_add, Bool.true_or]
        exact ⟨M, rfl, g, Ey.rf⟩
      | false =>
        rw [if_pos (show bI false = 0 from rfl), jiv_n (t65 g.1), Bool.false_or, anyB_at (by omega)]
        obtain ⟨N1, p1, p2, p3⟩ := n_addPick g (show r.length < 5 by omega) hs x y
        have hok := pr2_ok hs hx (show y < sz2 (ws w1) (ws w2) (1 - side) by omega)
        have hr2 := rv_cons hr hok.1 hok.2
        rw [p1, jb2_some, gI_n (t65 p2.1), Option.bind_some, p2.2.2.2.2.1, show (pr2 side x y :: r).length = r.length + 1 from rfl, pk_sub (by omega), Nat.add_sub_cancel, jiv_n (t65 p2.1), n_place hf h1 h2 p2 hr2 (show r.length < (pr2 side x y :: r).length by simp), jb2_some, plm_last]
        have fin : ∀ (c : Bool) (N : jM), GG ws w1 w2 (pr2 side x y :: r) N → Ey PG M N → ∃ N2, j_X12_keeps3_81 k7 k14 (l_X12_keeps3_32 k7 k14 n) 65 (nI side) (nI x) (nI y) (bI c) N = k14 65 (bI (c || anyB (sz2 (ws w1) (ws w2) (1 - side)) (fun q => decide (y + 1 ≤ q) && wn3 ws w1 w2 r (pr2 side x q)))) (nI side) (nI (x + 1)) N2 ∧ GG ws w1 w2 r N2 ∧ Ey PG M N2 := by
          intro c N gN eN
          unfold j_X12_keeps3_81
          rw [gI_n (t65 gN.1), Option.bind_some, pI_n (t65 gN.1), Option.bind_some, nI_add]
          obtain ⟨g3, e3⟩ := n_less gN
          obtain ⟨N2, q1, q2, q3⟩ := ih (y + 1) c _ g3 (by omega) (by omega)
          exact ⟨N2, q1, q2, (eN.tr e3).tr q3⟩
        unfold j_X12_keeps3_80
        cases hp : pla (ws w1) (ws w2) r (pr2 side x y) with
        | false =>
          rw [if_pos (show bI false = 0 from rfl)]
          have : wn3 ws w1 w2 r (pr2 side x y) = false := by unfold wn3; rw [hp, Bool.false_and]
          rw [this]
          exact fin false N1 p2 p3
        | true =>
          rw [if_neg (show ¬ bI true = 0 by decide), jiv_n (t65 p2.1)]
          obtain ⟨N2, s1, s2, s3⟩ := nk2 hf h1 h2 hr2 (show (pr2 side x y :: r).length ≤ 3 by simp; omega) p2
          rw [s1, jb2_some]
          have : wn3 ws w1 w2 r (pr2 side x y) = kw (ws w1) (ws w2) 2 (pr2 side x y :: r) := by unfold wn3; rw [hp, Bool.true_and]
          rw [this]
          cases hk : kw (ws w1) (ws w2) 2 (pr2 side x y :: r) with
          | false =>
            rw [if_pos (show bI false = 0 from rfl)]
            exact fin false N2 s2 (p3.tr s3)
          | true =>
            rw [if_neg (show ¬ bI true = 0 by decide)]
            exact fin true N2 s2 (p3.tr s3)
theorem nk3_14 (hf : WF ws) (h1 : w1 < 8) (h2 : w2 < 8) (hr : rv (ws w1) (ws w2) r) (hl : r.length ≤ 2) {k7 : Nat → Int32 → Int32 → jM → jO Int32} {side : Nat} (hs : side < 2) : ∀ (n x : Nat) (b : Bool) (M : jM), GG ws w1 w2 r M → x ≤ sz2 (ws w1) (ws w2) side → sz2 (ws w1) (ws w2) side - x < n →
    ∃ N, l_X12_keeps3_14 k7 n 65 (bI b) (nI side) (nI x) M = k7 65 (bI (b && allB (sz2 (ws w1) (ws w2) side) (fun p => decide (p < x) || anyB (sz2 (ws w1) (ws w2) (1 - side)) (fun q => wn3 ws w1 w2 r (pr2 side p q))))) (nI (side + 1)) N ∧ GG ws w1 w2 r N ∧ Ey PG M N := by
  have h6 := (hf w1).1
  have h62 := (hf w2).1
  have hz : sz2 (ws w1) (ws w2) side ≤ 6 := by unfold sz2; split <;> omega
  have hz2 : sz2 (ws w1) (ws w2) (1 - side) ≤ 6 := by unfold sz2; split <;> omega
  obtain ⟨n0, hn0⟩ := jF_is
  intro n
  induction n with
  | zero => intro x b M _ _ h; omega
  | succ n ih =>
    intro x b M g hx hn
    show ∃ N, b_X12_keeps3_14 k7 (l_X12_keeps3_14 k7 n) 65 (bI b) (nI side) (nI x) M = _ ∧ _
    unfold b_X12_keeps3_14 j_X12_keeps3_104
    rw [jiv_n (t65 g.1), n_manyOf h1 h2 g hs, jb2_some]
    show ∃ N, (if nI (sz2 (ws w1) (ws w2) side) ≤ nI x then _ else _) = _ ∧ _
    by_cases hxv : sz2 (ws w1) (ws w2) side ≤ x
    · rw [if_pos (nI_le hxv (by omega)), allB_end hxv, Bool.and_true, nI_add]
      exact ⟨M, rfl, g, Ey.rf⟩
    · rw [if_neg (nI_ge (by omega) (by omega))]
      cases b with
      | false =>
        rw [if_pos (show bI false = 0 from rfl), nI_add, Bool.false_and]
        exact ⟨M, rfl, g, Ey.rf⟩
      | true =>
        rw [if_neg (show ¬ bI true = 0 by decide), Bool.true_and, allB_at (by omega), show nI 0 = bI false from rfl]
        obtain ⟨N, q1, q2, q3⟩ := nk3_32 hf h1 h2 hr hl (k7 := k7) (k14 := l_X12_keeps3_14 k7 n) hs (show x < sz2 (ws w1) (ws w2) side by omega) jF0 0 false M g (Nat.zero_le _) (by omega)
        rw [show bI false = nI 0 from rfl] at q1 ⊢
        rw [q1, Bool.false_or, anyB_0]
        obtain ⟨N2, s1, s2, s3⟩ := ih (x + 1) (anyB (sz2 (ws w1) (ws w2) (1 - side)) (fun q => wn3 ws w1 w2 r (pr2 side x q))) N q2 (by omega) (by omega)
        exact ⟨N2, s1, s2, q3.tr s3⟩
def al3 (ws : Nat → Wd) (w1 w2 : Nat) (r : Rw) (side : Nat) : Bool := allB (sz2 (ws w1) (ws w2) side) (fun p => anyB (sz2 (ws w1) (ws w2) (1 - side)) (fun q => wn3 ws w1 w2 r (pr2 side p q)))
theorem nk3 (hf : WF ws) (h1 : w1 < 8) (h2 : w2 < 8) (hr : rv (ws w1) (ws w2) r) (hl : r.length ≤ 2) {M : jM} (g : GG ws w1 w2 r M) : ∃ N, f_X12_keeps3 65 M = some (bI (kw (ws w1) (ws w2) 3 r), N) ∧ GG ws w1 w2 r N ∧ Ey PG M N := by
  have h6 := (hf w1).1
  have h62 := (hf w2).1
  obtain ⟨n0, hn0⟩ := jF_is
  unfold f_X12_keeps3
  rw [jiv_n (t65 g.1), n_alike hf h1 h2 g hr, jb2_some]
  have step : ∀ (n side : Nat) (b : Bool) (M : jM), GG ws w1 w2 r M → side < 2 → ∃ N, l_X12_keeps3_7 (n + 1) 65 (bI b) (nI side) M = l_X12_keeps3_7 n 65 (bI (b && al3 ws w1 w2 r side)) (nI (side + 1)) N ∧ GG ws w1 w2 r N ∧ Ey PG M N := by
    intro n side b M g hs
    have hz : sz2 (ws w1) (ws w2) side ≤ 6 := by unfold sz2; split <;> omega
    show ∃ N, b_X12_keeps3_7 (l_X12_keeps3_7 n) 65 (bI b) (nI side) M = _ ∧ _
    unfold b_X12_keeps3_7
    rw [if_neg (nI_ge (by omega) (by decide))]
    obtain ⟨N, q1, q2, q3⟩ := nk3_14 hf h1 h2 hr hl (k7 := l_X12_keeps3_7 n) hs jF0 0 b M g (Nat.zero_le _) (by omega)
    rw [allB_0] at q1
    exact ⟨N, q1, q2, q3⟩
  rw [show jF0 = (jF0 - 2) + 1 + 1 by omega]
  obtain ⟨N1, a1, a2, a3⟩ := step (jF0 - 2 + 1) 0 (alk (ws w1) (ws w2) r) M g (by decide)
  obtain ⟨N2, b1, b2, b3⟩ := step (jF0 - 2) 1 (alk (ws w1) (ws w2) r && al3 ws w1 w2 r 0) N1 a2 (by decide)
  rw [a1, b1]
  refine ⟨N2, ?_, b2, a3.tr b3⟩
  rw [show jF0 - 2 = (jF0 - 3) + 1 by omega]
  show b_X12_keeps3_7 (l_X12_keeps3_7 (jF0 - 3)) 65 _ (nI (1 + 1)) N2 = _
  unfold b_X12_keeps3_7
  rw [if_pos (nI_le (by decide) (by decide)), rZ_n]
  congr 2
  congr 1
  show _ = (alk (ws w1) (ws w2) r && (allB (ws w1).1 (fun a => anyB (ws w2).1 (fun b => kw (ws w1) (ws w2) 2 ((a, b) :: r))) && allB (ws w2).1 (fun b => anyB (ws w1).1 (fun a => kw (ws w1) (ws w2) 2 ((a, b) :: r)))))
  rw [Bool.and_assoc]
  cases hal : alk (ws w1) (ws w2) r with
  | false => rfl
  | true =>
    have e : ∀ p, wn3 ws w1 w2 r p = kw (ws w1) (ws w2) 2 (p :: r) := by
      intro p
      unfold wn3
      cases hk : kw (ws w1) (ws w2) 2 (p :: r) with
      | false => rw [Bool.and_false]
      | true =>
        have := kw_alk hk
        unfold alk at this
        rw [Bool.and_eq_true] at this
        rw [this.2]; rfl
    unfold al3
    simp only [e]
    rfl
end NK3
