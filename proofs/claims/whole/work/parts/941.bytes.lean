/-! READING: bytes; a parser that answers a tree or the wrong place. -/
theorem i8_of (y : Int8) : ∃ i, i < 256 ∧ y = Int8.ofNat i := by
  refine ⟨y.toBitVec.toNat, y.toBitVec.isLt, ?_⟩
  apply Int8.toBitVec_inj.mp
  simp
theorem i8_lo : ∀ i, i < 128 → (Int8.ofNat i).toInt32 = nI i := by decide +kernel
theorem i8_hi : ∀ i, i < 256 → 128 ≤ i → (Int8.ofNat i).toInt32 < 0 := by decide +kernel
theorem i8_u : ∀ i, i < 256 → (Int8.ofNat i).toInt32 &&& nI 255 = nI i := by decide +kernel
/-- a byte without its sign -/
def ub (x : Int32) : Nat := (x &&& nI 255).toNatClampNeg
theorem ub_is {x : Int32} (h : ∃ y : Int8, x = y.toInt32) : ub x < 256 ∧ x &&& nI 255 = nI (ub x) ∧ (ub x < 128 → x = nI (ub x)) ∧ (128 ≤ ub x → x < 0) := by
  obtain ⟨y, rfl⟩ := h
  obtain ⟨i, hi, rfl⟩ := i8_of y
  have e : ub (Int8.ofNat i).toInt32 = i := by unfold ub; rw [i8_u i hi, nI_clamp (by omega)]
  rw [e]
  exact ⟨hi, i8_u i hi, fun h => i8_lo i h, fun h => i8_hi i hi h⟩
theorem ub_eq {x : Int32} (h : ∃ y : Int8, x = y.toInt32) {c : Nat} (hc : c < 128) : x = nI c ↔ ub x = c := by
  obtain ⟨h1, -, h3, h4⟩ := ub_is h
  constructor
  · intro e
    by_cases h8 : ub x < 128
    · rw [h3 h8] at e; exact (nI_eq (by omega) (by omega)).mp e
    · exact absurd (h4 (by omega)) (by rw [e]; exact nI_pos (by omega))
  · intro e
    rw [h3 (by omega), e]
/-- the text's byte at k; 256 behind its end -/
def tb (t : Tp) (k : Nat) : Nat := if k < t.1 then ub (t.2 k) else 256
/-- the next place that is no blank -/
def skf (t : Tp) : Nat → Nat → Nat
  | 0, p => p
  | n + 1, p => if tb t p = 32 ∨ tb t p = 10 then skf t n (p + 1) else p
def sk (t : Tp) (p : Nat) : Nat := skf t (t.1 - p) p
theorem tb_lt {t : Tp} {p : Nat} (h : tb t p < 256) : p < t.1 := by
  unfold tb at h
  split at h
  · assumption
  · omega
theorem sk_blank {t : Tp} {p : Nat} (h : tb t p = 32 ∨ tb t p = 10) : sk t p = sk t (p + 1) := by
  have hp := tb_lt (t := t) (p := p) (by omega)
  unfold sk
  rw [show t.1 - p = (t.1 - (p + 1)) + 1 by omega, skf, if_pos h]
theorem sk_no {t : Tp} {p : Nat} (h : ¬ (tb t p = 32 ∨ tb t p = 10)) : sk t p = p := by
  unfold sk
  cases hn : t.1 - p with
  | zero => rfl
  | succ n => rw [skf, if_neg h]
theorem skf_ge {t : Tp} : ∀ n p, p ≤ skf t n p ∧ skf t n p ≤ p + n
  | 0, p => ⟨Nat.le_refl _, Nat.le_refl _⟩
  | n + 1, p => by
    rw [skf]
    split
    · have := skf_ge (t := t) n (p + 1); omega
    · omega
theorem sk_ge {t : Tp} {p : Nat} : p ≤ sk t p ∧ (p ≤ t.1 → sk t p ≤ t.1) := by
  have := skf_ge (t := t) (t.1 - p) p
  unfold sk
  omega
/-- at the end of the blanks stands no blank -/
theorem sk_nb {t : Tp} : ∀ n p, t.1 - p = n → ¬ (tb t (sk t p) = 32 ∨ tb t (sk t p) = 10)
  | 0, p, h => by
    have hp : ¬ p < t.1 := by omega
    have hb : tb t p = 256 := by unfold tb; rw [if_neg hp]
    rw [sk_no (by omega)]
    omega
  | n + 1, p, h => by
    by_cases hb : tb t p = 32 ∨ tb t p = 10
    · rw [sk_blank hb]; exact sk_nb n (p + 1) (by omega)
    · rw [sk_no hb]; exact hb
theorem sk_sk {t : Tp} {p : Nat} : sk t (sk t p) = sk t p := sk_no (sk_nb _ p rfl)
/-- the next byte that is no blank -/
def pb (t : Tp) (p : Nat) : Nat := tb t (sk t p)
/-- an answer: wrong at a place, or something and the place behind it -/
abbrev Rs (α : Type) : Type := Sum Nat (α × Nat)
def rmap {α β : Type} (r : Rs α) (g : α → Nat → Rs β) : Rs β := match r with
  | .inl w => .inl w
  | .inr (a, p) => g a p
/-- a variable: the number of its quantifier -/
def pOwn (t : Tp) (ow : Nat → Nat) (p : Nat) : Rs Nat := if 97 ≤ pb t p ∧ pb t p ≤ 104 ∧ ow (pb t p - 97) ≠ 0 then .inr (ow (pb t p - 97), sk t p + 1) else .inl (sk t p)
def pAtom (t : Tp) (ow : Nat → Nat) (p : Nat) : Rs Fm :=
  if pb t p = 69 ∨ pb t p = 61 then rmap (pOwn t ow (sk t p + 1)) fun a p1 => rmap (pOwn t ow p1) fun b p2 => .inr (.leaf (pb t p + 256 * a + 4096 * b), p2)
  else if pb t p = 65 ∨ pb t p = 66 then rmap (pOwn t ow (sk t p + 1)) fun a p1 => .inr (.leaf (pb t p + 256 * a), p1)
  else if pb t p = 84 ∨ pb t p = 70 then .inr (.leaf (pb t p), sk t p + 1)
  else .inl (sk t p)
/-- the parts behind a part, each behind the sign c -/
def pList (t : Tp) (rec_ : Nat → Rs Fm) (c : Nat) : Nat → Nat → Rs Fm
  | 0, p => .inl p
  | n + 1, p => rmap (rec_ (sk t p + 1)) fun f p1 => if pb t p1 = c then rmap (pList t rec_ c n p1) fun r p2 => .inr (.branch 0 f r, p2) else .inr (f, p1)
def pForm (t : Tp) (rec_ : Nat → Rs Fm) (p : Nat) : Rs Fm :=
  rmap (rec_ p) fun f p1 => if pb t p1 = 38 ∨ pb t p1 = 124 then rmap (pList t rec_ (pb t p1) 801 p1) fun r p2 => .inr (.branch (pb t p1) (.branch 0 f r) (.leaf 0), p2) else .inr (f, p1)
/-- a part, within s signs and q quantifiers -/
def pPart (t : Tp) : Nat → Nat → Nat → (Nat → Nat) → Nat → Rs Fm
  | 0, _, _, _, p => .inl p
  | n + 1, s, q, ow, p =>
    if isQ (pb t p) = true then
      (if 12 ≤ s ∨ 8 ≤ q then .inl (sk t p)
       else if 97 ≤ pb t (sk t p + 1) ∧ pb t (sk t p + 1) ≤ 104 then rmap (pPart t n (s + 1) (q + 1) (up1 ow (pb t (sk t p + 1) - 97) (q + 1)) (sk t (sk t p + 1) + 1)) fun f p1 => .inr (.branch (pb t p) f (.leaf 0), p1)
       else .inl (sk t (sk t p + 1)))
    else if pb t p = 45 then (if 12 ≤ s then .inl (sk t p) else rmap (pPart t n (s + 1) q ow (sk t p + 1)) fun f p1 => .inr (.branch 45 f (.leaf 0), p1))
    else if pb t p = 40 then (if 12 ≤ s then .inl (sk t p) else rmap (pForm t (pPart t n (s + 1) q ow) (sk t p + 1)) fun f p1 => if pb t p1 = 41 then .inr (f, sk t p1 + 1) else .inl (sk t p1))
    else pAtom t ow p
/-- the whole text: the tree, or the wrong place -/
def pText (t : Tp) : Sum Nat Fm := match pForm t (pPart t 13 0 0 (fun _ => 0)) 0 with
  | .inl w => .inl w
  | .inr (f, p) => if pb t p = 256 then .inr f else .inl (sk t p)
