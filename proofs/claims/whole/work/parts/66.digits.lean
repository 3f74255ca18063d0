/-! COLOURS: counts as digits. -/
def cnt (f : Nat → Bool) (g : Nat → Nat) (c : Nat) : Nat → Nat
  | 0 => 0
  | y + 1 => cnt f g c y + (if f y = true ∧ g y = c then 1 else 0)
theorem cnt_le {f : Nat → Bool} {g : Nat → Nat} {c : Nat} : ∀ n, cnt f g c n ≤ n
  | 0 => Nat.le_refl _
  | n + 1 => by
    have := cnt_le (f := f) (g := g) (c := c) n
    unfold cnt
    split <;> omega
def dsum (a : Nat → Nat) : Nat → Nat
  | 0 => 0
  | c + 1 => dsum a c + a c * 16 ^ c
theorem dsum_lt {a : Nat → Nat} (h : ∀ c, a c < 16) : ∀ K, dsum a K < 16 ^ K
  | 0 => Nat.zero_lt_one
  | K + 1 => by
    have i := dsum_lt h K
    have := h K
    have e : 16 ^ (K + 1) = 16 * 16 ^ K := by rw [Nat.pow_succ, Nat.mul_comm]
    have m : a K * 16 ^ K ≤ 15 * 16 ^ K := Nat.mul_le_mul_right _ (by omega)
    show dsum a K + a K * 16 ^ K < _
    omega
theorem dsum_inj {a b : Nat → Nat} (ha : ∀ c, a c < 16) (hb : ∀ c, b c < 16) : ∀ K, dsum a K = dsum b K → ∀ c, c < K → a c = b c
  | 0, _, c, hc => absurd hc (Nat.not_lt_zero c)
  | K + 1, h, c, hc => by
    have l1 := dsum_lt ha K
    have l2 := dsum_lt hb K
    have h' : dsum a K + a K * 16 ^ K = dsum b K + b K * 16 ^ K := h
    have p : 0 < 16 ^ K := Nat.pow_pos (by decide)
    have d1 : (dsum a K + a K * 16 ^ K) / 16 ^ K = a K := by rw [Nat.add_mul_div_right _ _ p, Nat.div_eq_of_lt l1, Nat.zero_add]
    have d2 : (dsum b K + b K * 16 ^ K) / 16 ^ K = b K := by rw [Nat.add_mul_div_right _ _ p, Nat.div_eq_of_lt l2, Nat.zero_add]
    have e : a K = b K := by rw [← d1, ← d2, h']
    by_cases hk : c = K
    · rw [hk]; exact e
    · rw [e] at h'
      exact dsum_inj ha hb K (by omega) c (by omega)
theorem dsum_congr {a b : Nat → Nat} : ∀ K, (∀ c, c < K → a c = b c) → dsum a K = dsum b K
  | 0, _ => rfl
  | K + 1, h => by
    show dsum a K + a K * 16 ^ K = dsum b K + b K * 16 ^ K
    rw [dsum_congr K (fun c hc => h c (by omega)), h K (by omega)]
/-- one more of one digit -/
theorem dsum_up {a b : Nat → Nat} {d : Nat} : ∀ K, (∀ c, c < K → b c = a c + (if d = c then 1 else 0)) → dsum b K = dsum a K + (if d < K then 16 ^ d else 0)
  | 0, _ => rfl
  | K + 1, h => by
    have i := dsum_up K (fun c hc => h c (by omega))
    show dsum b K + b K * 16 ^ K = dsum a K + a K * 16 ^ K + _
    rw [i, h K (by omega)]
    by_cases hd : d = K
    · subst hd
      rw [if_pos rfl, if_neg (Nat.lt_irrefl _), if_pos (Nat.lt_succ_self _), Nat.add_mul, Nat.one_mul]
      omega
    · rw [if_neg hd, Nat.add_zero]
      by_cases hk : d < K
      · rw [if_pos hk, if_pos (by omega)]; omega
      · rw [if_neg hk, if_neg (by omega)]; omega
/-- the class's count, as a number -/
def ctN (f : Nat → Bool) (g : Nat → Nat) : Nat → Nat
  | 0 => 0
  | x + 1 => if f x = true then ctN f g x + 16 ^ g x else ctN f g x
theorem ctN_is {f : Nat → Bool} {g : Nat → Nat} {K : Nat} : ∀ n, (∀ y, y < n → g y < K) → ctN f g n = dsum (fun c => cnt f g c n) K
  | 0, _ => by
    have : ∀ K, dsum (fun c => cnt f g c 0) K = 0 := fun K => by
      induction K with
      | zero => rfl
      | succ K ih =>
        show dsum (fun c => cnt f g c 0) K + 0 * 16 ^ K = 0
        rw [ih]; omega
    exact (this K).symm
  | n + 1, h => by
    have i := ctN_is (f := f) n (fun y hy => h y (by omega))
    unfold ctN
    by_cases hf : f n = true
    · have u := dsum_up (a := fun c => cnt f g c n) (b := fun c => cnt f g c (n + 1)) (d := g n) K (fun c _ => by
        show cnt f g c n + (if f n = true ∧ g n = c then 1 else 0) = _
        by_cases hg : g n = c
        · rw [if_pos ⟨hf, hg⟩, if_pos hg]
        · rw [if_neg (fun q => hg q.2), if_neg hg])
      rw [if_pos hf, u, if_pos (h n (by omega)), i]
    · rw [if_neg hf, i]
      exact dsum_congr K (fun c _ => by
        show cnt f g c n = cnt f g c n + (if f n = true ∧ g n = c then 1 else 0)
        rw [if_neg (fun q => hf q.1)]; rfl)
theorem ctN_lt {f : Nat → Bool} {g : Nat → Nat} {n : Nat} (hn : n ≤ 6) (h : ∀ y, y < n → g y < 12) : ctN f g n < 16 ^ 12 := by
  rw [ctN_is n h]
  exact dsum_lt (fun c => by have := cnt_le (f := f) (g := g) (c := c) n; omega) 12
theorem ctN_iff {f f' : Nat → Bool} {g g' : Nat → Nat} {n n' K : Nat} (hn : n ≤ 6) (hn' : n' ≤ 6) (h : ∀ y, y < n → g y < K) (h' : ∀ y, y < n' → g' y < K) : ctN f g n = ctN f' g' n' ↔ ∀ c, c < K → cnt f g c n = cnt f' g' c n' := by
  rw [ctN_is n h, ctN_is n' h']
  constructor
  · intro e
    exact dsum_inj (fun c => by have := cnt_le (f := f) (g := g) (c := c) n; omega) (fun c => by have := cnt_le (f := f') (g := g') (c := c) n'; omega) K e
  · intro e
    exact dsum_congr K e
theorem one_is : ∀ c, c < 12 → one c = lN (16 ^ c) := by decide +kernel
theorem ctS_is {f : Nat → Bool} {g : Nat → Nat} : ∀ n, (∀ y, y < n → g y < 12) → ctS f g n = lN (ctN f g n)
  | 0, _ => rfl
  | n + 1, h => by
    have i := ctS_is (f := f) n (fun y hy => h y (by omega))
    unfold ctS ctN
    by_cases hf : f n = true
    · rw [if_pos hf, if_pos hf, i, one_is _ (h n (by omega))]
      exact (Int64.ofNat_add _ _).symm
    · rw [if_neg hf, if_neg hf, i]
theorem lN_inj {a b : Nat} (ha : a < 2 ^ 63) (hb : b < 2 ^ 63) : lN a = lN b ↔ a = b := by
  constructor
  · intro h
    have h2 : (lN a).toInt = (lN b).toInt := by rw [h]
    unfold lN at h2
    rw [Int64.toInt_ofNat_of_lt ha, Int64.toInt_ofNat_of_lt hb] at h2
    omega
  · intro h; rw [h]
theorem ctS_iff {f f' : Nat → Bool} {g g' : Nat → Nat} {n n' K : Nat} (hK : K ≤ 12) (hn : n ≤ 6) (hn' : n' ≤ 6) (h : ∀ y, y < n → g y < K) (h' : ∀ y, y < n' → g' y < K) : ctS f g n = ctS f' g' n' ↔ ∀ c, c < K → cnt f g c n = cnt f' g' c n' := by
  have k : (16 : Nat) ^ 12 < 2 ^ 63 := by decide
  have l1 := ctN_lt (f := f) hn (fun y hy => Nat.lt_of_lt_of_le (h y hy) hK)
  have l2 := ctN_lt (f := f') hn' (fun y hy => Nat.lt_of_lt_of_le (h' y hy) hK)
  rw [ctS_is n (fun y hy => Nat.lt_of_lt_of_le (h y hy) hK), ctS_is n' (fun y hy => Nat.lt_of_lt_of_le (h' y hy) hK), lN_inj (by omega) (by omega), ctN_iff hn hn' h h']
