/-! Replies, picks, ranks, as both find them. -/
def ff (f : Nat → Bool) : Nat → Nat → Option Nat
  | _, 0 => none
  | i, c + 1 => if f i = true then some i else ff f (i + 1) c
theorem ff_some {f : Nat → Bool} : ∀ {c i k : Nat}, ff f i c = some k → i ≤ k ∧ k < i + c ∧ f k = true
  | 0, i, k, h => by cases h
  | c + 1, i, k, h => by
    unfold ff at h
    split at h
    · rename_i hf; cases h; exact ⟨Nat.le_refl _, by omega, hf⟩
    · obtain ⟨h1, h2, h3⟩ := ff_some h; exact ⟨by omega, by omega, h3⟩
theorem ff_none {f : Nat → Bool} : ∀ {c i : Nat}, ff f i c = none → ∀ k, i ≤ k → k < i + c → f k = false
  | 0, i, h => fun k h1 h2 => by omega
  | c + 1, i, h => fun k h1 h2 => by
    unfold ff at h
    split at h
    · cases h
    · rename_i hf
      by_cases hk : k = i
      · rw [hk]; simpa using hf
      · exact ff_none h k (by omega) (by omega)
theorem ff_congr {f g : Nat → Bool} : ∀ {c i : Nat}, (∀ k, i ≤ k → k < i + c → f k = g k) → ff f i c = ff g i c
  | 0, i, h => rfl
  | c + 1, i, h => by
    unfold ff
    rw [h i (by omega) (by omega), ff_congr (fun k h1 h2 => h k (by omega) (by omega))]
def oI (o : Option Nat) (d : Int32) : Int32 := match o with
  | some s => nI s
  | none => d
/-- the least reply with which the keeper wins k rounds more -/
def lrep (u v : Wd) (r : Rw) (side t k : Nat) : Option Nat := ff (fun s => kw u v k (pr2 side t s :: r)) 0 (sz2 u v (1 - side))
/-- the first pick with which the seeker wins in k + 1 -/
def fpk (u v : Wd) (r : Rw) (front k : Nat) : Option Nat := match ff (fun t => (lrep u v r front t k).isNone) 0 (sz2 u v front) with
  | some t => some t
  | none => (ff (fun t => (lrep u v r (1 - front) t k).isNone) 0 (sz2 u v (1 - front))).map (10 + ·)
/-- the least number of rounds, from k on, c of them, in which the seeker wins -/
def lrd (u v : Wd) (r : Rw) (k c : Nat) : Option Nat := ff (fun k => !(kw u v k r)) k c
theorem n9 : ∀ s, s < 20 → ¬ nI s = (-9 : Int32) ∧ ¬ nI s < 0 ∧ 0 ≤ nI s := by decide +kernel
section R1
variable {a : Nat} {u v : Wd} {r : Rw}
theorem x_worldOn {M : jM} (h : MS M a u v) {side : Nat} (hs : side < 2) : f_X3_worldOn a (nI side) M = some (if side = 0 then a + 1 else a + 4, M) ∧ Wat M (if side = 0 then a + 1 else a + 4) (if side = 0 then u else v) := by
  unfold f_X3_worldOn
  rcases (show side = 0 ∨ side = 1 by omega) with rfl | rfl
  · rw [if_pos (show nI 0 = 0 from rfl), gR_n h.1.1 h.1.2.1]; exact ⟨rfl, h.2.1⟩
  · rw [if_neg (show ¬ nI 1 = 0 by decide), gR_n h.1.1 h.1.2.2.1]; exact ⟨rfl, h.2.2.1⟩
theorem x_sizeOn {M : jM} (h : MS M a u v) {side : Nat} (hs : side < 2) {β : Type} {g : Int32 → jM → Option β} : (jb2 (jiv 3 M a (f_X3_worldOn a (nI side) M)) fun r2 M1 => jb2 (jiv 8 M1 r2 (f_X9_size r2 M1)) g) = g (nI (sz2 u v side)) M := by
  obtain ⟨q1, q2⟩ := x_worldOn h hs
  rw [jiv_n h.1.1, q1, jb2_some, jiv_n q2.1.1, w_size q2, jb2_some]
  unfold sz2
  split <;> rfl
theorem x_lrep_3 (hu : wwf u) (hv : wwf v) (hal : alk u v r = true) (hr : rv u v r) {side t k : Nat} (hs : side < 2) (ht : t < sz2 u v side) (hk : k + 1 + r.length ≤ 3) : ∀ (n s : Nat) (M : jM), MS M a u v → MR M a r → s ≤ sz2 u v (1 - side) → sz2 u v (1 - side) - s < n → ∃ N, l_X3_leastReply_3 n a (nI side) (nI t) (nI (k + 1)) (nI s) M = some (oI (ff (fun s => kw u v k (pr2 side t s :: r)) s (sz2 u v (1 - side) - s)) (-9), N) ∧ KL M N a u v r (12 * r.length) := by
  have h6 := hu.1
  have h62 := hv.1
  have hz : sz2 u v (1 - side) ≤ 6 := by unfold sz2; split <;> omega
  intro n
  induction n with
  | zero => intro s M _ _ _ h; omega
  | succ n ih =>
    intro s M h m hse hn
    show ∃ N, b_X3_leastReply_3 (l_X3_leastReply_3 n) a (nI side) (nI t) (nI (k + 1)) (nI s) M = _ ∧ _
    unfold b_X3_leastReply_3
    rw [pk_sub (by omega), x_sizeOn h (show 1 - side < 2 by omega)]
    by_cases hsz : sz2 u v (1 - side) ≤ s
    · rw [if_pos (nI_le hsz (by omega)), show sz2 u v (1 - side) - s = 0 by omega]
      exact ⟨M, rfl, h, m, Ex.rf, fun _ _ => rfl⟩
    · rw [if_neg (nI_ge (by omega) (by omega)), jiv_n h.1.1]
      have hok := pr2_ok (u := u) (v := v) hs ht (show s < sz2 u v (1 - side) by omega)
      rw [x_staysAlike h m hu hv hr hs hok.1 hok.2, jb2_some, show sz2 u v (1 - side) - s = (sz2 u v (1 - side) - (s + 1)) + 1 by omega]
      unfold ff j_X3_leastReply_44
      cases hp : pla u v r (pr2 side t s) with
      | false =>
        have hkf : kw u v k (pr2 side t s :: r) = false := by
          cases hw : kw u v k (pr2 side t s :: r) with
          | false => rfl
          | true => have := kw_alk hw; unfold alk at this; rw [hp, Bool.and_false] at this; cases this
        rw [if_pos (show bI false = 0 from rfl), nI_add, hkf]
        exact ih (s + 1) M h m (by omega) (by omega)
      | true =>
        rw [if_neg (show ¬ bI true = 0 by decide), jiv_n h.1.1]
        obtain ⟨N, q1, q2⟩ := x_kww (side := side) (t := t) (s := s) hu hv (x_keeperWins (a := a) hu hv jR0 k (by have := jR0_eq; omega)) hs hk hp hal hr hok h m
        rw [q1, jb2_some]
        have q2 := q2.le (show 12 * r.length ≤ 12 * r.length + 12 by omega)
        cases hw : kw u v k (pr2 side t s :: r) with
        | false =>
          rw [if_pos (show bI false = 0 from rfl), nI_add]
          obtain ⟨N2, p1, p2⟩ := ih (s + 1) N q2.1 q2.2.1 (by omega) (by omega)
          exact ⟨N2, p1, q2.tr p2⟩
        | true =>
          rw [if_neg (show ¬ bI true = 0 by decide)]
          exact ⟨N, rfl, q2⟩
theorem x_lrep (hu : wwf u) (hv : wwf v) (hal : alk u v r = true) (hr : rv u v r) {side t k : Nat} (hs : side < 2) (ht : t < sz2 u v side) (hk : k + 1 + r.length ≤ 3) {M : jM} (h : MS M a u v) (m : MR M a r) : ∃ N, f_X3_leastReply a (nI side) (nI t) (nI (k + 1)) M = some (oI (lrep u v r side t k) (-9), N) ∧ KL M N a u v r (12 * r.length) := by
  have h6 := hu.1
  have h62 := hv.1
  have hz : sz2 u v (1 - side) ≤ 6 := by unfold sz2; split <;> omega
  obtain ⟨n0, hn0⟩ := jF_is
  exact x_lrep_3 hu hv hal hr hs ht hk jF0 0 M h m (Nat.zero_le _) (by omega)
theorem lrep_lt {side t k s : Nat} (hu : wwf u) (hv : wwf v) (h : lrep u v r side t k = some s) : s < 6 ∧ s < sz2 u v (1 - side) := by
  have h6 := hu.1
  have h62 := hv.1
  have hz : sz2 u v (1 - side) ≤ 6 := by unfold sz2; split <;> omega
  obtain ⟨-, h2, -⟩ := ff_some h
  omega
theorem oI9 {o : Option Nat} (ho : ∀ s, o = some s → s < 20) : (oI o (-9) = (-9 : Int32)) ↔ o.isNone = true := by
  cases o with
  | none => exact ⟨fun _ => rfl, fun _ => rfl⟩
  | some s => exact ⟨fun h => absurd h (n9 s (ho s rfl)).1, fun h => by cases h⟩
theorem x_fpk_36 (hu : wwf u) (hv : wwf v) (hal : alk u v r = true) (hr : rv u v r) {front k : Nat} (hs : front < 2) (hk : k + 1 + r.length ≤ 3) : ∀ (n t : Nat) (M : jM), MS M a u v → MR M a r → t ≤ sz2 u v (1 - front) → sz2 u v (1 - front) - t < n → ∃ N, l_X3_firstPick_36 n a (nI front) (nI (k + 1)) (nI t) M = some (oI ((ff (fun t => (lrep u v r (1 - front) t k).isNone) t (sz2 u v (1 - front) - t)).map (10 + ·)) (-9), N) ∧ KL M N a u v r (12 * r.length) := by
  have h6 := hu.1
  have h62 := hv.1
  have hz : sz2 u v (1 - front) ≤ 6 := by unfold sz2; split <;> omega
  intro n
  induction n with
  | zero => intro s M _ _ _ h; omega
  | succ n ih =>
    intro t M h m hse hn
    show ∃ N, b_X3_firstPick_36 (l_X3_firstPick_36 n) a (nI front) (nI (k + 1)) (nI t) M = _ ∧ _
    unfold b_X3_firstPick_36
    rw [pk_sub (by omega), x_sizeOn h (show 1 - front < 2 by omega)]
    by_cases hsz : sz2 u v (1 - front) ≤ t
    · rw [if_pos (nI_le hsz (by omega)), show sz2 u v (1 - front) - t = 0 by omega]
      exact ⟨M, rfl, h, m, Ex.rf, fun _ _ => rfl⟩
    · rw [if_neg (nI_ge (by omega) (by omega)), jiv_n h.1.1]
      obtain ⟨N, q1, q2⟩ := x_lrep (a := a) hu hv hal hr (show 1 - front < 2 by omega) (show t < sz2 u v (1 - front) by omega) hk h m
      rw [q1, jb2_some, show sz2 u v (1 - front) - t = (sz2 u v (1 - front) - (t + 1)) + 1 by omega]
      unfold ff
      have h9 := oI9 (o := lrep u v r (1 - front) t k) (fun s hs => by have := (lrep_lt hu hv hs).1; omega)
      by_cases hn : (lrep u v r (1 - front) t k).isNone = true
      · rw [if_pos (h9.mpr hn), if_pos hn, nI_add]
        exact ⟨N, rfl, q2⟩
      · rw [if_neg (fun q => hn (h9.mp q)), if_neg hn, nI_add]
        obtain ⟨N2, p1, p2⟩ := ih (t + 1) N q2.1 q2.2.1 (by omega) (by omega)
        exact ⟨N2, p1, q2.tr p2⟩
theorem x_fpk_2 (hu : wwf u) (hv : wwf v) (hal : alk u v r = true) (hr : rv u v r) {front k : Nat} (hs : front < 2) (hk : k + 1 + r.length ≤ 3) : ∀ (n t : Nat) (M : jM), MS M a u v → MR M a r → t ≤ sz2 u v front → sz2 u v front - t < n → ∃ N, l_X3_firstPick_2 n a (nI front) (nI (k + 1)) (nI t) M = some (oI (match ff (fun t => (lrep u v r front t k).isNone) t (sz2 u v front - t) with
      | some t => some t
      | none => (ff (fun t => (lrep u v r (1 - front) t k).isNone) 0 (sz2 u v (1 - front))).map (10 + ·)) (-9), N) ∧ KL M N a u v r (12 * r.length) := by
  have h6 := hu.1
  have h62 := hv.1
  have hz : sz2 u v front ≤ 6 := by unfold sz2; split <;> omega
  have hz2 : sz2 u v (1 - front) ≤ 6 := by unfold sz2; split <;> omega
  obtain ⟨n0, hn0⟩ := jF_is
  intro n
  induction n with
  | zero => intro s M _ _ _ h; omega
  | succ n ih =>
    intro t M h m hse hn
    show ∃ N, b_X3_firstPick_2 (l_X3_firstPick_2 n) a (nI front) (nI (k + 1)) (nI t) M = _ ∧ _
    unfold b_X3_firstPick_2
    rw [x_sizeOn h hs]
    by_cases hsz : sz2 u v front ≤ t
    · rw [if_pos (nI_le hsz (by omega)), show sz2 u v front - t = 0 by omega]
      exact x_fpk_36 hu hv hal hr hs hk jF0 0 M h m (Nat.zero_le _) (by omega)
    · rw [if_neg (nI_ge (by omega) (by omega)), jiv_n h.1.1]
      obtain ⟨N, q1, q2⟩ := x_lrep (a := a) hu hv hal hr hs (show t < sz2 u v front by omega) hk h m
      rw [q1, jb2_some, show sz2 u v front - t = (sz2 u v front - (t + 1)) + 1 by omega]
      have e : ff (fun t => (lrep u v r front t k).isNone) t (sz2 u v front - (t + 1) + 1) = if (lrep u v r front t k).isNone = true then some t else ff (fun t => (lrep u v r front t k).isNone) (t + 1) (sz2 u v front - (t + 1)) := rfl
      rw [e]
      have h9 := oI9 (o := lrep u v r front t k) (fun s hs => by have := (lrep_lt hu hv hs).1; omega)
      by_cases hn : (lrep u v r front t k).isNone = true
      · rw [if_pos (h9.mpr hn), if_pos hn]
        exact ⟨N, rfl, q2⟩
      · rw [if_neg (fun q => hn (h9.mp q)), if_neg hn, nI_add]
        obtain ⟨N2, p1, p2⟩ := ih (t + 1) N q2.1 q2.2.1 (by omega) (by omega)
        exact ⟨N2, p1, q2.tr p2⟩
theorem x_fpk (hu : wwf u) (hv : wwf v) (hal : alk u v r = true) (hr : rv u v r) {front k : Nat} (hs : front < 2) (hk : k + 1 + r.length ≤ 3) {M : jM} (h : MS M a u v) (m : MR M a r) : ∃ N, f_X3_firstPick a (nI front) (nI (k + 1)) M = some (oI (fpk u v r front k) (-9), N) ∧ KL M N a u v r (12 * r.length) := by
  have h6 := hu.1
  have h62 := hv.1
  have hz : sz2 u v front ≤ 6 := by unfold sz2; split <;> omega
  obtain ⟨n0, hn0⟩ := jF_is
  exact x_fpk_2 hu hv hal hr hs hk jF0 0 M h m (Nat.zero_le _) (by omega)
theorem x_lrd_2 (hu : wwf u) (hv : wwf v) (hal : alk u v r = true) (hr : rv u v r) : ∀ (n k : Nat) (M : jM), MS M a u v → MR M a r → k + r.length ≤ 4 → 4 - r.length - k < n → ∃ N, l_X3_leastRounds_2 n a (nI k) M = some (oI (lrd u v r k (4 - r.length - k)) (-9), N) ∧ KL M N a u v r (12 * r.length) := by
  intro n
  induction n with
  | zero => intro s M _ _ _ h; omega
  | succ n ih =>
    intro k M h m hk hn
    have hl := m.2.1
    show ∃ N, b_X3_leastRounds_2 (l_X3_leastRounds_2 n) a (nI k) M = _ ∧ _
    unfold b_X3_leastRounds_2
    rw [gI_n h.1.1, Option.bind_some, m.1, pk_sub (by omega)]
    by_cases hk3 : 3 - r.length < k
    · rw [if_pos (nI_lt hk3 (by omega)), show 4 - r.length - k = 0 by omega]
      exact ⟨M, rfl, h, m, Ex.rf, fun _ _ => rfl⟩
    · rw [if_neg (nI_nlt (by omega) (by omega)), jiv_n h.1.1]
      obtain ⟨N, q1, q2⟩ := x_keeperWins (a := a) hu hv jR0 k (by have := jR0_eq; omega) r M (by omega) hal hr h m
      rw [q1, jb2_some, show 4 - r.length - k = (4 - r.length - (k + 1)) + 1 by omega]
      unfold lrd ff
      cases hw : kw u v k r with
      | false => rw [if_pos (show bI false = 0 from rfl)]; exact ⟨N, rfl, q2⟩
      | true =>
        rw [if_neg (show ¬ bI true = 0 by decide), nI_add]
        obtain ⟨N2, p1, p2⟩ := ih (k + 1) N q2.1 q2.2.1 (by omega) (by omega)
        exact ⟨N2, p1, q2.tr p2⟩
theorem x_lrd (hu : wwf u) (hv : wwf v) (hal : alk u v r = true) (hr : rv u v r) {M : jM} (h : MS M a u v) (m : MR M a r) : ∃ N, f_X3_leastRounds a M = some (oI (lrd u v r 1 (3 - r.length)) (-9), N) ∧ KL M N a u v r (12 * r.length) := by
  have hl := m.2.1
  obtain ⟨n0, hn0⟩ := jF_is
  obtain ⟨N, q1, q2⟩ := x_lrd_2 (a := a) hu hv hal hr jF0 1 M h m (by omega) (by omega)
  rw [show 4 - r.length - 1 = 3 - r.length by omega] at q1
  exact ⟨N, q1, q2⟩
end R1
section R2
variable {ws : Nat → Wd} {w1 w2 : Nat} {r : Rw}
theorem n_keeps (hf : WF ws) (h1 : w1 < 8) (h2 : w2 < 8) (hr : rv (ws w1) (ws w2) r) {k : Nat} (hk : k + r.length ≤ 5) (hk3 : k ≤ 3) {M : jM} (g : GG ws w1 w2 r M) : ∃ N, f_X12_keeps 65 (nI k) M = some (bI (kw (ws w1) (ws w2) k r), N) ∧ GG ws w1 w2 r N ∧ Ey PG M N := by
  unfold f_X12_keeps
  rcases (show k = 0 ∨ k = 1 ∨ k = 2 ∨ k = 3 by omega) with rfl | rfl | rfl | rfl
  · rw [if_pos (show nI 0 = 0 from rfl), jiv_n (t65 g.1), n_alike hf h1 h2 g hr, jb2_some, rZ_n]
    exact ⟨M, rfl, g, Ey.rf⟩
  · obtain ⟨N, q1, q2, q3⟩ := nk1 hf h1 h2 hr (by omega) g
    rw [if_neg (show ¬ nI 1 = 0 by decide), if_pos rfl, jiv_n (t65 g.1), q1, jb2_some, rZ_n]
    exact ⟨N, rfl, q2, q3⟩
  · obtain ⟨N, q1, q2, q3⟩ := nk2 hf h1 h2 hr (by omega) g
    rw [if_neg (show ¬ nI 2 = 0 by decide), if_neg (show ¬ nI 2 = nI 1 by decide), if_pos rfl, jiv_n (t65 g.1), q1, jb2_some, rZ_n]
    exact ⟨N, rfl, q2, q3⟩
  · obtain ⟨N, q1, q2, q3⟩ := nk3 hf h1 h2 hr (by omega) g
    rw [if_neg (show ¬ nI 3 = 0 by decide), if_neg (show ¬ nI 3 = nI 1 by decide), if_neg (show ¬ nI 3 = nI 2 by decide), jiv_n (t65 g.1), q1, jb2_some, rZ_n]
    exact ⟨N, rfl, q2, q3⟩
theorem n_lrep_3 (hf : WF ws) (h1 : w1 < 8) (h2 : w2 < 8) (hr : rv (ws w1) (ws w2) r) {side t k : Nat} (hs : side < 2) (ht : t < sz2 (ws w1) (ws w2) side) (hk : k + 1 + r.length ≤ 5) (hk3 : k ≤ 3) : ∀ (n s : Nat) (M : jM), GG ws w1 w2 r M → s ≤ sz2 (ws w1) (ws w2) (1 - side) → sz2 (ws w1) (ws w2) (1 - side) - s < n → ∃ N, l_X12_answerTo_3 n 65 (nI side) (nI t) (nI k) (nI s) M = some (oI (ff (fun s => kw (ws w1) (ws w2) k (pr2 side t s :: r)) s (sz2 (ws w1) (ws w2) (1 - side) - s)) (-1), N) ∧ GG ws w1 w2 r N ∧ Ey PG M N := by
  have h6 := (hf w1).1
  have h62 := (hf w2).1
  have hz : sz2 (ws w1) (ws w2) (1 - side) ≤ 6 := by unfold sz2; split <;> omega
  intro n
  induction n with
  | zero => intro s M _ _ h; omega
  | succ n ih =>
    intro s M g hse hn
    show ∃ N, b_X12_answerTo_3 (l_X12_answerTo_3 n) 65 (nI side) (nI t) (nI k) (nI s) M = _ ∧ _
    unfold b_X12_answerTo_3
    rw [pk_sub (by omega), jiv_n (t65 g.1), n_manyOf h1 h2 g (show 1 - side < 2 by omega), jb2_some]
    show ∃ N, (if nI (sz2 (ws w1) (ws w2) (1 - side)) ≤ nI s then _ else _) = _ ∧ _
    by_cases hsz : sz2 (ws w1) (ws w2) (1 - side) ≤ s
    · rw [if_pos (nI_le hsz (by omega)), show sz2 (ws w1) (ws w2) (1 - side) - s = 0 by omega]
      exact ⟨M, rfl, g, Ey.rf⟩
    · rw [if_neg (nI_ge (by omega) (by omega)), jiv_n (t65 g.1)]
      have hok := pr2_ok hs ht (show s < sz2 (ws w1) (ws w2) (1 - side) by omega)
      obtain ⟨N1, p1, p2, p3⟩ := n_addPick g (show r.length < 5 by omega) hs t s
      obtain ⟨N2, q1, q2, q3⟩ := n_keeps hf h1 h2 (rv_cons hr hok.1 hok.2) (show k + (pr2 side t s :: r).length ≤ 5 by simp; omega) hk3 p2
      obtain ⟨g3, e3⟩ := n_less q2
      rw [p1, jb2_some, jiv_n (t65 p2.1), q1, jb2_some, gI_n (t65 q2.1), Option.bind_some, pI_n (t65 q2.1), Option.bind_some, show sz2 (ws w1) (ws w2) (1 - side) - s = (sz2 (ws w1) (ws w2) (1 - side) - (s + 1)) + 1 by omega]
      unfold ff
      cases hw : kw (ws w1) (ws w2) k (pr2 side t s :: r) with
      | false =>
        rw [if_pos (show bI false = 0 from rfl), nI_add]
        obtain ⟨N4, s1, s2, s3⟩ := ih (s + 1) _ g3 (by omega) (by omega)
        exact ⟨N4, s1, s2, (p3.tr (q3.tr e3)).tr s3⟩
      | true =>
        rw [if_neg (show ¬ bI true = 0 by decide)]
        exact ⟨_, rfl, g3, p3.tr (q3.tr e3)⟩
theorem n_lrep (hf : WF ws) (h1 : w1 < 8) (h2 : w2 < 8) (hr : rv (ws w1) (ws w2) r) {side t k : Nat} (hs : side < 2) (ht : t < sz2 (ws w1) (ws w2) side) (hk : k + 1 + r.length ≤ 5) (hk3 : k ≤ 3) {M : jM} (g : GG ws w1 w2 r M) : ∃ N, f_X12_answerTo 65 (nI side) (nI t) (nI k) M = some (oI (lrep (ws w1) (ws w2) r side t k) (-1), N) ∧ GG ws w1 w2 r N ∧ Ey PG M N := by
  have h6 := (hf w1).1
  have h62 := (hf w2).1
  have hz : sz2 (ws w1) (ws w2) (1 - side) ≤ 6 := by unfold sz2; split <;> omega
  obtain ⟨n0, hn0⟩ := jF_is
  exact n_lrep_3 hf h1 h2 hr hs ht hk hk3 jF0 0 M g (Nat.zero_le _) (by omega)
theorem n_least_2 (hf : WF ws) (h1 : w1 < 8) (h2 : w2 < 8) (hr : rv (ws w1) (ws w2) r) {m : Nat} (hm : m + r.length ≤ 5) (hm3 : m ≤ 3) : ∀ (n k : Nat) (M : jM), GG ws w1 w2 r M → k ≤ m + 1 → m + 1 - k < n → ∃ N, l_X12_least_2 n 65 (nI m) (nI k) M = some (oI (lrd (ws w1) (ws w2) r k (m + 1 - k)) (-1), N) ∧ GG ws w1 w2 r N ∧ Ey PG M N := by
  intro n
  induction n with
  | zero => intro s M _ _ h; omega
  | succ n ih =>
    intro k M g hk hn
    show ∃ N, b_X12_least_2 (l_X12_least_2 n) 65 (nI m) (nI k) M = _ ∧ _
    unfold b_X12_least_2
    by_cases hkm : m < k
    · rw [if_pos (nI_lt hkm (by omega)), show m + 1 - k = 0 by omega]
      exact ⟨M, rfl, g, Ey.rf⟩
    · rw [if_neg (nI_nlt (by omega) (by omega)), jiv_n (t65 g.1)]
      obtain ⟨N, q1, q2, q3⟩ := n_keeps hf h1 h2 hr (show k + r.length ≤ 5 by omega) (by omega) g
      rw [q1, jb2_some, show m + 1 - k = (m + 1 - (k + 1)) + 1 by omega]
      unfold lrd ff
      cases hw : kw (ws w1) (ws w2) k r with
      | false => rw [if_pos (show bI false = 0 from rfl)]; exact ⟨N, rfl, q2, q3⟩
      | true =>
        rw [if_neg (show ¬ bI true = 0 by decide), nI_add]
        obtain ⟨N2, p1, p2, p3⟩ := ih (k + 1) N q2 (by omega) (by omega)
        exact ⟨N2, p1, p2, q3.tr p3⟩
theorem n_least (hf : WF ws) (h1 : w1 < 8) (h2 : w2 < 8) (hr : rv (ws w1) (ws w2) r) {m : Nat} (hm : m + r.length ≤ 5) (hm3 : m ≤ 3) {M : jM} (g : GG ws w1 w2 r M) : ∃ N, f_X12_least 65 (nI m) M = some (oI (lrd (ws w1) (ws w2) r 0 (m + 1)) (-1), N) ∧ GG ws w1 w2 r N ∧ Ey PG M N := by
  obtain ⟨n0, hn0⟩ := jF_is
  exact n_least_2 hf h1 h2 hr hm hm3 jF0 0 M g (Nat.zero_le _) (by omega)
theorem lrd_0 {u v : Wd} (hal : alk u v r = true) (c : Nat) : lrd u v r 0 (c + 1) = lrd u v r 1 c := by
  unfold lrd
  show (if (!(kw u v 0 r)) = true then some 0 else ff _ 1 c) = _
  rw [show kw u v 0 r = true from hal]; rfl
theorem n_begin {M : jM} (h : Sh M) (a : MA ws M) : ∃ N, f_X12_begin 65 (nI w1) (nI w2) M = some ((), N) ∧ GG ws w1 w2 [] N ∧ Ey PG M N := by
  unfold f_X12_begin
  have e1 : Ey PG M (wI M 65 5 (nI w1)) := ey_wI Ey.rf (by unfold PG; omega)
  have e2 := ey_wI (a := 65) (k := 6) (v := nI w2) e1 (by unfold PG; omega)
  have e3 := ey_wI (a := 65) (k := 7) (v := nI 0) e2 (by unfold PG; omega)
  rw [pI_n (t65 h), Option.bind_some, pI_n (t65 (Sh_ey e1 h)), Option.bind_some, pI_n (t65 (Sh_ey e2 h)), Option.bind_some]
  refine ⟨_, rfl, ⟨Sh_ey e3 h, MA_ey e3 a (fun c i hc => by unfold PG; omega), ?_, ?_, ?_, by decide, fun k hk => by simp at hk⟩, e3⟩
  · simp [rI_wI]
  · simp [rI_wI]
  · simp [rI_wI]
end R2
