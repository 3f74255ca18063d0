/-! FORMULAS as trees. A leaf is an atom: sign + 256 * a + 4096 * b, a and b the owners of its variables (1 the outermost).
    A branch 45 is NOT, 64 ALL, 63 SOME, 38 AND, 124 OR (of its left side; the right one is leaf 0); a branch 0 puts a part ahead of others. -/
abbrev Fm : Type := Lean.RArray Nat
def isQ (k : Nat) : Bool := decide (k = 64) || decide (k = 63)
def sz : Fm → Nat
  | .leaf _ => 1
  | .branch k l r => if k = 0 then sz l + sz r else sz l + 1
def np : Fm → Nat
  | .leaf _ => 1
  | .branch k _ r => if k = 0 then np r + 1 else 1
/-- how deep its nodes lie; how deep its quantifiers -/
def dp : Fm → Nat
  | .leaf _ => 0
  | .branch k l r => if k = 0 then max (dp l) (dp r) else dp l + 1
def qd : Fm → Nat
  | .leaf _ => 0
  | .branch k l r => if k = 0 then max (qd l) (qd r) else if isQ k = true then qd l + 1 else qd l
/-- an atom within q quantifiers -/
def aok (q c : Nat) : Prop := (∃ s a, (s = 65 ∨ s = 66) ∧ 1 ≤ a ∧ a ≤ q ∧ c = s + 256 * a) ∨ (∃ s a b, (s = 69 ∨ s = 61) ∧ 1 ≤ a ∧ a ≤ q ∧ 1 ≤ b ∧ b ≤ q ∧ c = s + 256 * a + 4096 * b) ∨ c = 84 ∨ c = 70
/-- m = 0: a formula within q quantifiers; m = 1: parts, one or more; m = 2: parts, two or more -/
def wf : Nat → Nat → Fm → Prop
  | m, q, .leaf c => m ≠ 2 ∧ q ≤ 8 ∧ aok q c
  | m, q, .branch k l r => if k = 0 then m ≠ 0 ∧ wf 0 q l ∧ wf 1 q r else m ≠ 2 ∧ r = .leaf 0 ∧ (if k = 45 then wf 0 q l else if isQ k = true then q < 8 ∧ wf 0 (q + 1) l else if k = 38 ∨ k = 124 then wf 2 q l else False)
theorem sz_pos : ∀ f, 1 ≤ sz f
  | .leaf _ => Nat.le_refl _
  | .branch k l r => by
    have := sz_pos l
    simp only [sz]
    split <;> omega
theorem wf_q : ∀ (f : Fm) (m q : Nat), wf m q f → q ≤ 8
  | .leaf c, m, q, h => h.2.1
  | .branch k l r, m, q, h => by
    simp only [wf] at h
    by_cases h0 : k = 0
    · rw [if_pos h0] at h; exact wf_q l 0 q h.2.1
    · rw [if_neg h0] at h
      obtain ⟨-, -, h⟩ := h
      by_cases h1 : k = 45
      · rw [if_pos h1] at h; exact wf_q l 0 q h
      · rw [if_neg h1] at h
        by_cases h2 : isQ k = true
        · rw [if_pos h2] at h; omega
        · rw [if_neg h2] at h
          by_cases h3 : k = 38 ∨ k = 124
          · rw [if_pos h3] at h; exact wf_q l 2 q h
          · rw [if_neg h3] at h; exact absurd h id
theorem wf_21 {q : Nat} {f : Fm} (h : wf 2 q f) : wf 1 q f := by
  cases f with
  | leaf c => exact absurd rfl h.1
  | branch k l r =>
    simp only [wf] at h ⊢
    by_cases h0 : k = 0
    · rw [if_pos h0] at h ⊢; exact ⟨by decide, h.2⟩
    · rw [if_neg h0] at h; exact absurd rfl h.1
theorem wf_01 {q : Nat} {f : Fm} (h : wf 0 q f) : wf 1 q f := by
  cases f with
  | leaf c => exact ⟨by decide, h.2⟩
  | branch k l r =>
    simp only [wf] at h ⊢
    by_cases h0 : k = 0
    · rw [if_pos h0] at h; exact absurd rfl h.1
    · rw [if_neg h0] at h ⊢; exact ⟨by decide, h.2⟩
/-- how a thing is shown of all formulas (P) and of all rows of parts (B) -/
theorem fm_ind {P B : Nat → Fm → Prop} (ha : ∀ q c, q ≤ 8 → aok q c → P q (.leaf c))
    (hn : ∀ q l, wf 0 q l → P q l → P q (.branch 45 l (.leaf 0)))
    (hq : ∀ q k l, k = 64 ∨ k = 63 → q < 8 → wf 0 (q + 1) l → P (q + 1) l → P q (.branch k l (.leaf 0)))
    (hl : ∀ q k l, k = 38 ∨ k = 124 → wf 2 q l → B q l → P q (.branch k l (.leaf 0)))
    (h1 : ∀ q f, wf 0 q f → P q f → B q f)
    (hc : ∀ q l r, wf 0 q l → wf 1 q r → P q l → B q r → B q (.branch 0 l r)) : ∀ f q, (wf 0 q f → P q f) ∧ (wf 1 q f → B q f)
  | .leaf c, q => ⟨fun h => ha q c h.2.1 h.2.2, fun h => h1 q _ ⟨by decide, h.2⟩ (ha q c h.2.1 h.2.2)⟩
  | .branch k l r, q => by
    by_cases h0 : k = 0
    · subst h0
      refine ⟨fun h => ?_, fun h => ?_⟩
      · simp only [wf] at h; exact absurd rfl h.1
      · have h' := h
        simp only [wf] at h'
        exact hc q l r h'.2.1 h'.2.2 ((fm_ind ha hn hq hl h1 hc l q).1 h'.2.1) ((fm_ind ha hn hq hl h1 hc r q).2 h'.2.2)
    · have main : wf 0 q (.branch k l r) → P q (.branch k l r) := fun h => by
        simp only [wf] at h
        rw [if_neg h0] at h
        obtain ⟨-, rfl, h⟩ := h
        by_cases h1' : k = 45
        · rw [if_pos h1'] at h; subst h1'; exact hn q l h ((fm_ind ha hn hq hl h1 hc l q).1 h)
        · rw [if_neg h1'] at h
          by_cases h2 : isQ k = true
          · rw [if_pos h2] at h
            exact hq q k l (by simpa [isQ] using h2) h.1 h.2 ((fm_ind ha hn hq hl h1 hc l (q + 1)).1 h.2)
          · rw [if_neg h2] at h
            by_cases h3 : k = 38 ∨ k = 124
            · rw [if_pos h3] at h; exact hl q k l h3 h ((fm_ind ha hn hq hl h1 hc l q).2 (wf_21 h))
            · rw [if_neg h3] at h; exact absurd h id
      refine ⟨main, fun h => ?_⟩
      have h0' : wf 0 q (.branch k l r) := by
        simp only [wf] at h ⊢
        rw [if_neg h0] at h ⊢
        exact ⟨by decide, h.2⟩
      exact h1 q _ h0' (main h0')
/-- the class's row of nodes from place p on holds it -/
def Nx (g : Nat → Int32) : Nat → Nat → Fm → Prop
  | p, _, .leaf c => g p = nI (c + 65536)
  | p, q, .branch k l r => if k = 0 then Nx g p q l ∧ Nx g (p + sz l) q r else if isQ k = true then g p = nI (k + 256 * (q + 1) + 65536 * (sz l + 1)) ∧ Nx g (p + 1) (q + 1) l else g p = nI (k + 65536 * (sz l + 1)) ∧ Nx g (p + 1) q l
theorem Nx_congr {g g' : Nat → Int32} : ∀ (f : Fm) (p p' q : Nat), (∀ i, i < sz f → g' (p' + i) = g (p + i)) → Nx g p q f → Nx g' p' q f
  | .leaf c, p, p', q, h, n => by
    have := h 0 (by simp [sz])
    simp only [Nx] at n ⊢
    rw [Nat.add_zero, Nat.add_zero] at this
    rw [this]; exact n
  | .branch k l r, p, p', q, h, n => by
    have hl := sz_pos l
    simp only [Nx] at n ⊢
    simp only [sz] at h
    by_cases h0 : k = 0
    · rw [if_pos h0] at n h ⊢
      exact ⟨Nx_congr l p p' q (fun i hi => h i (by omega)) n.1, Nx_congr r (p + sz l) (p' + sz l) q (fun i hi => by rw [Nat.add_assoc, Nat.add_assoc]; exact h _ (by omega)) n.2⟩
    · rw [if_neg h0] at n h ⊢
      have z := h 0 (by omega)
      rw [Nat.add_zero, Nat.add_zero] at z
      by_cases h2 : isQ k = true
      · rw [if_pos h2] at n ⊢
        exact ⟨by rw [z]; exact n.1, Nx_congr l (p + 1) (p' + 1) (q + 1) (fun i hi => by rw [Nat.add_assoc, Nat.add_assoc]; exact h _ (by omega)) n.2⟩
      · rw [if_neg h2] at n ⊢
        exact ⟨by rw [z]; exact n.1, Nx_congr l (p + 1) (p' + 1) q (fun i hi => by rw [Nat.add_assoc, Nat.add_assoc]; exact h _ (by omega)) n.2⟩
/-- the reference's kinds of signs -/
def rk (s : Nat) : Nat := if s = 45 then 1 else if s = 64 then 2 else if s = 63 then 3 else if s = 38 then 4 else if s = 124 then 5 else if s = 65 then 6 else if s = 66 then 7 else if s = 69 then 8 else if s = 61 then 9 else if s = 84 then 10 else 11
def aS (c : Nat) : Nat := c % 256
def aA (c : Nat) : Nat := c / 256 % 16
def aB (c : Nat) : Nat := c / 4096
/-- the reference's rows of nodes from place p on hold it -/
def Nr (kd on tw : Nat → Int32) : Nat → Nat → Fm → Prop
  | p, _, .leaf c => kd p = nI (rk (aS c)) ∧ on p = nI (aA c - 1) ∧ tw p = nI (aB c - 1)
  | p, q, .branch k l r => if k = 0 then Nr kd on tw p q l ∧ Nr kd on tw (p + sz l) q r else (kd p = nI (rk k) ∧ on p = nI (if isQ k = true then q else if k = 45 then 0 else np l) ∧ tw p = nI 0) ∧ Nr kd on tw (p + 1) (if isQ k = true then q + 1 else q) l
/-- the reference's ends: each node's, counted from the sentence's first -/
def Ne (b : Nat) (en : Nat → Int32) : Nat → Fm → Prop
  | p, .leaf _ => en (b + p) = nI (p + 1)
  | p, .branch k l r => if k = 0 then Ne b en p l ∧ Ne b en (p + sz l) r else en (b + p) = nI (p + (sz l + 1)) ∧ Ne b en (p + 1) l
theorem Nr_congr {kd on tw kd' on' tw' : Nat → Int32} : ∀ (f : Fm) (p p' q : Nat), (∀ i, i < sz f → kd' (p' + i) = kd (p + i) ∧ on' (p' + i) = on (p + i) ∧ tw' (p' + i) = tw (p + i)) → Nr kd on tw p q f → Nr kd' on' tw' p' q f
  | .leaf c, p, p', q, h, n => by
    have := h 0 (by simp [sz])
    simp only [Nr] at n ⊢
    rw [Nat.add_zero, Nat.add_zero] at this
    rw [this.1, this.2.1, this.2.2]; exact n
  | .branch k l r, p, p', q, h, n => by
    have hl := sz_pos l
    simp only [Nr] at n ⊢
    simp only [sz] at h
    by_cases h0 : k = 0
    · rw [if_pos h0] at n h ⊢
      exact ⟨Nr_congr l p p' q (fun i hi => h i (by omega)) n.1, Nr_congr r (p + sz l) (p' + sz l) q (fun i hi => by rw [Nat.add_assoc, Nat.add_assoc]; exact h _ (by omega)) n.2⟩
    · rw [if_neg h0] at n h ⊢
      have z := h 0 (by omega)
      rw [Nat.add_zero, Nat.add_zero] at z
      refine ⟨by rw [z.1, z.2.1, z.2.2]; exact n.1, Nr_congr l (p + 1) (p' + 1) _ (fun i hi => by rw [Nat.add_assoc, Nat.add_assoc]; exact h _ (by omega)) n.2⟩
theorem Ne_congr {b b' : Nat} {en en' : Nat → Int32} : ∀ (f : Fm) (p : Nat), (∀ i, i < sz f → en' (b' + (p + i)) = en (b + (p + i))) → Ne b en p f → Ne b' en' p f
  | .leaf c, p, h, n => by
    have := h 0 (by simp [sz])
    simp only [Ne] at n ⊢
    rw [Nat.add_zero] at this
    rw [this]; exact n
  | .branch k l r, p, h, n => by
    have hl := sz_pos l
    simp only [Ne] at n ⊢
    simp only [sz] at h
    by_cases h0 : k = 0
    · rw [if_pos h0] at n h ⊢
      exact ⟨Ne_congr l p (fun i hi => h i (by omega)) n.1, Ne_congr r (p + sz l) (fun i hi => by rw [Nat.add_assoc]; exact h _ (by omega)) n.2⟩
    · rw [if_neg h0] at n h ⊢
      have z := h 0 (by omega)
      rw [Nat.add_zero] at z
      exact ⟨by rw [z]; exact n.1, Ne_congr l (p + 1) (fun i hi => by rw [Nat.add_assoc]; exact h _ (by omega)) n.2⟩
