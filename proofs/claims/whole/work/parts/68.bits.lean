/-! COLOURS: sets of colours as bits. -/
def gb (x : Int64) (i : Nat) : Bool := x.toBitVec.getLsbD i
theorem gb_ext {x y : Int64} : x = y ↔ ∀ i, i < 64 → gb x i = gb y i := by
  constructor
  · intro h i _; rw [h]
  · intro h
    exact Int64.toBitVec_inj.mp (BitVec.eq_of_getLsbD_eq (fun i hi => h i hi))
theorem gb_or {x y : Int64} {i : Nat} : gb (x ||| y) i = (gb x i || gb y i) := by
  show (x.toBitVec ||| y.toBitVec).getLsbD i = _
  rw [BitVec.getLsbD_or]
  rfl
theorem gb_0 : ∀ i, i < 64 → gb 0 i = false := by decide +kernel
def orG (k : Nat → Int64) : Nat → Int64
  | 0 => 0
  | x + 1 => orG k x ||| k x
theorem anyB_up {n : Nat} {f : Nat → Bool} : anyB (n + 1) f = (anyB n f || f n) := by
  refine bool_iff ?_
  rw [Bool.or_eq_true, anyB_iff, anyB_iff]
  constructor
  · intro ⟨k, hk, hf⟩
    by_cases h : k = n
    · subst h; exact Or.inr hf
    · exact Or.inl ⟨k, by omega, hf⟩
  · intro h
    rcases h with ⟨k, hk, hf⟩ | hf
    · exact ⟨k, by omega, hf⟩
    · exact ⟨n, by omega, hf⟩
theorem gb_orG {k : Nat → Int64} {i : Nat} (hi : i < 64) : ∀ n, gb (orG k n) i = anyB n (fun x => gb (k x) i)
  | 0 => by
    rw [show orG k 0 = 0 from rfl, gb_0 i hi]
    rfl
  | n + 1 => by
    rw [anyB_up, ← gb_orG hi n, ← gb_or]
    rfl
theorem gb_cbit : ∀ c, c < 72 → ∀ i, i < 64 → gb (cbit c) i = decide (c % 64 = i) := by decide +kernel
theorem orS_G {g : Nat → Nat} {h : Nat} : ∀ n, orS g h n = orG (fun x => if g x / 64 = h then cbit (g x) else 0) n
  | 0 => rfl
  | n + 1 => by
    unfold orS orG
    rw [orS_G n]
    by_cases q : g n / 64 = h
    · rw [if_pos q, if_pos q]
    · rw [if_neg q, if_neg q, Int64.or_zero]
theorem gb_orS {g : Nat → Nat} {h n i : Nat} (hg : ∀ x, x < n → g x < 72) (hi : i < 64) : gb (orS g h n) i = anyB n (fun x => decide (g x = 64 * h + i)) := by
  rw [orS_G, gb_orG hi]
  refine bool_iff ?_
  rw [anyB_iff, anyB_iff]
  refine exists_congr (fun x => and_congr_right (fun hx => ?_))
  have := hg x hx
  by_cases q : g x / 64 = h
  · rw [if_pos q, gb_cbit _ this i hi, decide_eq_true_iff, decide_eq_true_iff]
    omega
  · rw [if_neg q, gb_0 i hi, decide_eq_true_iff]
    constructor
    · intro c; cases c
    · intro c; omega
/-- the same colours at both -/
def sameC (g g' : Nat → Nat) (n n' : Nat) : Prop := ∀ c, c < 72 → anyB n (fun x => decide (g x = c)) = anyB n' (fun x => decide (g' x = c))
theorem no_big {g : Nat → Nat} {n c : Nat} (hg : ∀ x, x < n → g x < 72) (hc : 72 ≤ c) : anyB n (fun x => decide (g x = c)) = false := by
  cases h : anyB n (fun x => decide (g x = c)) with
  | false => rfl
  | true =>
    obtain ⟨k, hk, hf⟩ := anyB_iff.mp h
    have := hg k hk
    have := of_decide_eq_true hf
    omega
theorem orS_iff {g g' : Nat → Nat} {n n' : Nat} (hg : ∀ x, x < n → g x < 72) (hg' : ∀ x, x < n' → g' x < 72) : (orS g 0 n = orS g' 0 n' ∧ orS g 1 n = orS g' 1 n') ↔ sameC g g' n n' := by
  constructor
  · intro ⟨h0, h1⟩ c hc
    by_cases q : c < 64
    · have := gb_ext.mp h0 c q
      rw [gb_orS hg q, gb_orS hg' q] at this
      rw [show 64 * 0 + c = c by omega] at this
      exact this
    · have := gb_ext.mp h1 (c - 64) (by omega)
      rw [gb_orS hg (by omega), gb_orS hg' (by omega)] at this
      rw [show 64 * 1 + (c - 64) = c by omega] at this
      exact this
  · intro h
    have all : ∀ c, anyB n (fun x => decide (g x = c)) = anyB n' (fun x => decide (g' x = c)) := fun c => by
      by_cases q : c < 72
      · exact h c q
      · rw [no_big hg (by omega), no_big hg' (by omega)]
    exact ⟨gb_ext.mpr (fun i hi => by rw [gb_orS hg hi, gb_orS hg' hi]; exact all _), gb_ext.mpr (fun i hi => by rw [gb_orS hg hi, gb_orS hg' hi]; exact all _)⟩
