/-! PARTINGS: the class's atoms. -/
/-- what a parting changes -/
def CXp (c : Nat) : Prop := c = 6 ∨ c = 15 ∨ c = 16 ∨ c = 32 ∨ c = 33
def C3x (c : Nat) : Prop := c = 32 ∨ c = 33
theorem Ey.x {P : Nat → Nat → Prop} {C : Nat → Prop} {M N : jM} (e : Ey P M N) (h : ∀ c k, P c k → C c) : Ex C M N := ⟨e.1, e.2.1, fun c hc => by
  funext k
  exact e.2.2 c k (fun z => hc (h c k z))⟩
theorem PNo_x {M N : jM} (e : Ey PNo M N) : Ex C3x M N := e.x (fun c k h => by unfold PNo at h; unfold C3x; omega)
def vU (f : Nat) (u v : Wd) : Wd := if f = 0 then u else v
def vR (f : Nat) (r : Rw) : Rw := if f = 0 then r else swp r
def rsd (f : Nat) (r : Rw) (k : Nat) : Nat := if f = 0 then (ro r k).1 else (ro r k).2
theorem vR_len {f : Nat} {r : Rw} : (vR f r).length = r.length := by
  unfold vR
  split
  · rfl
  · exact swp_len
theorem ro_view {f : Nat} (hf : f < 2) {r : Rw} {k : Nat} (hk : k < r.length) : (ro (vR f r) k).1 = rsd f r k ∧ (ro (vR f r) k).2 = rsd (1 - f) r k := by
  unfold vR rsd
  by_cases h0 : f = 0
  · rw [if_pos h0, if_pos h0, if_neg (by omega)]; exact ⟨rfl, rfl⟩
  · rw [if_neg h0, if_neg h0, if_pos (by omega), swp_ro hk]; exact ⟨rfl, rfl⟩
theorem bit4 : ∀ a, a < 4 → ∀ b, b < 4 → a.testBit 0 = b.testBit 0 → a.testBit 1 = b.testBit 1 → a = b := by decide
/-- if no atom parts the rows, they stay alike -/
theorem pla_of {u v : Wd} (hu : wwf u) (hv : wwf v) {r : Rw} {p : Nat × Nat} (h1 : ∀ n, n < r.length → df u v (p :: r) 61 n r.length = false) (h2 : df u v (p :: r) 65 r.length r.length = false) (h3 : df u v (p :: r) 66 r.length r.length = false) (h4 : ∀ n, n < r.length + 1 → (df u v (p :: r) 69 n r.length || df u v (p :: r) 69 r.length n) = false) : pla u v r p = true := by
  have hm : ro (p :: r) r.length = p := ro_last
  have e61 : ∀ w a b, av w 61 a b = decide (a = b) := fun w a b => rfl
  have e65 : ∀ w a b, av w 65 a b = (w.2.1 a).testBit 0 := fun w a b => rfl
  have e66 : ∀ w a b, av w 66 a b = (w.2.1 a).testBit 1 := fun w a b => rfl
  have e69 : ∀ w a b, av w 69 a b = eb w a b := fun w a b => rfl
  have ne : ∀ {a b : Bool}, (a != b) = false → a = b := fun {a b} h => by cases a <;> cases b <;> first | rfl | cases h
  unfold df at h1 h2 h3 h4
  rw [hm] at h2 h3
  rw [e65, e65] at h2
  rw [e66, e66] at h3
  have g : ∀ n, n < r.length + 1 → eb u (ro (p :: r) n).1 p.1 = eb v (ro (p :: r) n).2 p.2 ∧ eb u p.1 (ro (p :: r) n).1 = eb v p.2 (ro (p :: r) n).2 := by
    intro n hn
    have z := h4 n hn
    rw [hm, e69, e69, e69, e69, Bool.or_eq_false_iff] at z
    exact ⟨ne z.1, ne z.2⟩
  unfold pla
  rw [Bool.and_eq_true, Bool.and_eq_true]
  refine ⟨decide_eq_true (bit4 _ (hu.2.1 _) _ (hv.2.1 _) (ne h2) (ne h3)), ?_, all_ro.mpr fun k hk => ?_⟩
  · have z := g r.length (by omega)
    rw [hm] at z
    unfold pl1
    rw [z.1]
    simp
  · have z := g k (by omega)
    rw [ro_cons hk] at z
    have z1 := h1 k hk
    rw [hm, ro_cons hk, e61, e61] at z1
    unfold pl1
    rw [z.1, z.2, ne z1]
    simp
theorem jb2_a {τ σ β : Type} {o : jO τ} {f : τ → jM → jO σ} {g : σ → jM → Option β} : jb2 (jb2 o f) g = jb2 o fun x M => jb2 (f x M) g := by
  cases o with
  | none => rfl
  | some q => rfl
theorem jb2_rt {τ β : Type} {x : τ} {M : jM} {f : τ → jM → Option β} : jb2 (rt x M) f = f x M := rfl
/-- what an atom says of the things of one side -/
def hO_row (v0 : Nat) (v1 v2 v3 v4 : Int32) (M : jM) : jO Int32 :=
  jb2 (jiv 3 M v0 (f_X3_worldOn v0 v1 M)) fun r2 M1 =>
  jb2 (jiv 3 M1 v0 (f_X3_rowThing v0 v1 (v3 - (nI 1)) M1)) fun x4 M3 =>
  jb2 (jiv 3 M3 v0 (f_X3_rowThing v0 v1 (v4 - (nI 1)) M3)) fun x6 M5 =>
  jiv 8 M5 r2 (f_X9_holdsAtom r2 v2 x4 x6 M5)
theorem aip_un (v0 v1 : Nat) (v2 v3 v4 v5 : Int32) (M : jM) : f_X5_addIfParting v0 v1 v2 v3 v4 v5 M = jb2 (hO_row v0 v2 v3 v4 v5 M) fun x2 M1 => jb2 (hO_row v0 ((nI 1) - v2) v3 v4 v5 M1) fun x4 M3 =>
    if x2 = x4 then rZ (nI 0) M3
    else jb2 (jiv 4 M3 v1 (f_X4_count v1 M3)) fun x6 M5 =>
      if x2 = 0 then jb2 (jiv 4 M5 v1 (f_X4_add v1 (nI 45) (nI 0) (nI 0) M5)) fun _ M7 => j_X5_addIfParting_93 v1 v3 v4 v5 x6 M7
      else j_X5_addIfParting_93 v1 v3 v4 v5 x6 M5 := by
  unfold f_X5_addIfParting hO_row
  simp only [jb2_a]
section XA6
variable {M : jM} {u v : Wd} {r : Rw} {c q f : Nat}
theorem rsd_lt (hu : wwf u) (hv : wwf v) (hr : rv u v r) {k : Nat} (hk : k < r.length) (f : Nat) : rsd f r k < 6 := by
  have := hr _ (ro_mem hk)
  have := hu.1
  have := hv.1
  unfold rsd
  split <;> omega
theorem x_rowT (h : MS M 6 u v) (m : MR M 6 r) {side k : Nat} (hs : side < 2) (hk : k < r.length) : f_X3_rowThing 6 (nI side) (nI k) M = some (nI (rsd side r k), M) := by
  have h3 := m.2.1
  obtain ⟨m1, m2, m3⟩ := m
  obtain ⟨hM, -⟩ := h
  have ht := hM.1
  have hr4 := hM.2.2.2.2.2.1
  have ht9 := hM.2.2.2.2.2.2.2.2.2.1
  unfold f_X3_rowThing
  have hy : nI side * nI 3 + nI k = nI (3 * side + k) := by
    have : side = 0 ∨ side = 1 := by omega
    rcases this with rfl | rfl
    · rw [show nI 0 * nI 3 = nI 0 by decide, nI_add]
    · rw [show nI 1 * nI 3 = nI 3 by decide, nI_add]
  rw [hy, jv_b, if_neg (nI_pos (by omega)), gI_n ht, Option.bind_some, m1, if_neg (nI_ge hk (by omega)), if_neg (nI_pos (by omega)), gR_n ht hr4, Option.bind_some, ln_n ht9 (by decide) (by decide), Option.bind_some, if_neg (nI_ge (by omega) (by decide)), Option.bind_some, ldI_n ht9 (by omega) (by decide), Option.bind_some]
  unfold rsd
  by_cases h0 : side = 0
  · rw [if_pos h0, h0, Nat.mul_zero, Nat.zero_add, (m3 k hk).1]; rfl
  · rw [if_neg h0, show 3 * side + k = 3 + k by omega, (m3 k hk).2]; rfl
theorem x_rowN {side : Nat} (hs : side < 2) : f_X3_rowThing 6 (nI side) (nI 0 - nI 1) M = some (nI 0, M) := by
  unfold f_X3_rowThing
  rw [jv_b, if_pos (by decide)]
  rfl
theorem x_hor (hu : wwf u) (hv : wwf v) (hr : rv u v r) (h : MS M 6 u v) (m : MR M 6 r) {side s n k : Nat} (hs : side < 2) (hS : s = 61 ∨ s = 69) (hn : n < r.length) (hk : k < r.length) : hO_row 6 (nI side) (nI s) (nI (n + 1)) (nI (k + 1)) M = some (bI (av (vU side u v) s (rsd side r n) (rsd side r k)), M) := by
  obtain ⟨w1, w2⟩ := x_worldOn h hs
  have hW : wwf (if side = 0 then u else v) := by split <;> assumption
  have hi : isW M (if side = 0 then 6 + 1 else 6 + 4) := w2.1
  have ht := h.1.1
  unfold hO_row
  rw [jiv_n ht, w1, jb2_some, nI_sb (by omega), Nat.add_sub_cancel, jiv_n ht, x_rowT h m hs hn, jb2_some, nI_sb (by omega), Nat.add_sub_cancel, jiv_n ht, x_rowT h m hs hk, jb2_some, jiv_n hi.1, a_atom w2 hW (by omega) (rsd_lt hu hv hr hn side) (rsd_lt hu hv hr hk side)]
  unfold av vU
  rcases hS with rfl | rfl <;> rfl
theorem x_hor1 (hu : wwf u) (hv : wwf v) (hr : rv u v r) (h : MS M 6 u v) (m : MR M 6 r) {side s n : Nat} (hs : side < 2) (hS : s = 65 ∨ s = 66) (hn : n < r.length) : hO_row 6 (nI side) (nI s) (nI (n + 1)) (nI 0) M = some (bI (av (vU side u v) s (rsd side r n) (rsd side r n)), M) := by
  obtain ⟨w1, w2⟩ := x_worldOn h hs
  have hW : wwf (if side = 0 then u else v) := by split <;> assumption
  have hi : isW M (if side = 0 then 6 + 1 else 6 + 4) := w2.1
  have ht := h.1.1
  unfold hO_row
  rw [jiv_n ht, w1, jb2_some, nI_sb (by omega), Nat.add_sub_cancel, jiv_n ht, x_rowT h m hs hn, jb2_some, jiv_n ht, x_rowN hs, jb2_some, jiv_n hi.1, a_atom1 w2 hW hS (rsd_lt hu hv hr hn side)]
  unfold av vU
  rcases hS with rfl | rfl <;> rfl
/-- a closed node is closed again -/
theorem x_nclose2 {a : Nat} (h : Sh M) (hc : rI M 32 1 = nI c) (h8 : c ≤ 800) (ha : a < c) {w s : Nat} (hv : w < 65536) (hs : s ≤ 800) (hx : rI M 33 a = nI (w + 65536 * s)) : f_X4_close 32 (nI a) M = some ((), wI M 33 a (nI (w + 65536 * (c - a)))) := by
  unfold f_X4_close
  have e1 : (nI (w + 65536 * s) &&& nI 65535) ||| (nI (c - a) <<< (nI 16 &&& 31)) = nI (w + 65536 * (c - a)) := by
    rw [nI_and, nI_shl (by decide) (by omega), nI_or]
    have z1 : (w + 65536 * s) &&& 65535 = w := by
      rw [show (65535 : Nat) = 2 ^ 16 - 1 from rfl, Nat.and_two_pow_sub_one_eq_mod]
      omega
    rw [z1, Nat.or_comm, ← Nat.shiftLeft_add_eq_or_of_lt (by omega : w < 2 ^ 16), Nat.shiftLeft_eq]
    congr 1
    omega
  rw [if_neg (nI_pos (by omega)), gI_n (t32 h), Option.bind_some, hc, if_neg (nI_ge ha (by omega)), q32_0 h, Option.bind_some, ln_n (t33 h) (by decide) (by decide), Option.bind_some, if_neg (nI_ge (by omega) (by omega)), Option.bind_some, Option.bind_some, ldI_n (t33 h) (by omega) (by omega), Option.bind_some, Option.bind_some, hx, nI_sb (by omega), e1, stI_n (t33 h) (by omega) (by omega), Option.bind_some]
  rfl
/-- what a part leaves -/
def XO (u v : Wd) (r : Rw) (q c : Nat) (T : Fm) (M N : jM) : Prop := Ex CXp M N ∧ MS N 6 u v ∧ MR N 6 r ∧ rI N 32 1 = nI (c + sz T) ∧ Nx (rI N 33) c q T ∧ ∀ i, i < c → rI N 33 i = rI M 33 i
theorem MS_3x {N : jM} (e : Ex C3x M N) (h : MS M 6 u v) : MS N 6 u v := MS_ex e h (fun c h1 h2 => by unfold C3x; omega)
theorem MR_3x {N : jM} (e : Ex C3x M N) (h : MR M 6 r) : MR N 6 r := MR_ex e h (by unfold C3x; omega) (by unfold C3x; omega)
theorem C3_Xp {c : Nat} (h : C3x c) : CXp c := by unfold C3x at h; unfold CXp; omega
theorem put_lit (hS : Sh M) (h : MS M 6 u v) (m : MR M 6 r) (hc : rI M 32 1 = nI c) (h8 : c + 2 ≤ 800) {s n k : Nat} (hs : s = 61 ∨ s = 65 ∨ s = 66 ∨ s = 69) (hn : n < 15) (hk : k < 15) {A B : Int32} (hA : A = nI (n + 1)) (hB : B = if s = 65 ∨ s = 66 then nI 0 else nI (k + 1)) {x : Bool} {U : Wd} {R : Rw} (hx : x = av U s (ro R n).1 (ro R k).1) : ∃ N, (if bI x = 0 then (jb2 (jiv 4 M 32 (f_X4_add 32 (nI 45) (nI 0) (nI 0) M)) fun _ M7 => j_X5_addIfParting_93 32 (nI s) A B (nI c) M7) else j_X5_addIfParting_93 32 (nI s) A B (nI c) M) = some (bI true, N) ∧ XO u v r q c (lit U R s n k) M N := by
  have hac : ac s n k < 65536 := by unfold ac; split <;> omega
  have enc : ∀ M : jM, f_X4_encode (nI s) A B M = some (nI (ac s n k + 65536), M) := by
    intro M
    rw [hA, hB]
    unfold ac
    by_cases h6 : s = 65 ∨ s = 66
    · rw [if_pos h6, if_pos h6]; exact enc_n s (by omega) (n + 1) (by omega) M
    · rw [if_neg h6, if_neg h6]; exact enc_2 s (by omega) (n + 1) (by omega) (k + 1) (by omega) M
  unfold j_X5_addIfParting_93 lit
  rw [← hx]
  cases x with
  | true =>
    rw [if_neg (by decide), if_pos rfl]
    have a1 := x_nadd hS hc (by omega) (enc M)
    have e1 : Ey PNo M (wI (wI M 33 c (nI (ac s n k + 65536))) 32 1 (nI (c + 1))) := ey_wI (ey_wI Ey.rf (Or.inr rfl)) (Or.inl ⟨rfl, rfl⟩)
    have h1 := Sh_ey e1 hS
    have c1 : rI (wI (wI M 33 c (nI (ac s n k + 65536))) 32 1 (nI (c + 1))) 32 1 = nI (c + 1) := by rw [rI_wI, if_pos ⟨rfl, rfl⟩]
    have z := x_nclose2 (a := c) (w := ac s n k) (s := 1) h1 c1 (by omega) (by omega) hac (by decide) (by rw [rI_wI, if_neg (by omega), rI_wI, if_pos ⟨rfl, rfl⟩])
    have e2 : Ey PNo M (wI (wI (wI M 33 c (nI (ac s n k + 65536))) 32 1 (nI (c + 1))) 33 c (nI (ac s n k + 65536 * (c + 1 - c)))) := ey_wI e1 (Or.inr rfl)
    rw [jiv_n (t32 hS), a1, jb2_some, jiv_n (t32 h1), z, jb2_some]
    refine ⟨_, rfl, (PNo_x e2).mono fun _ => C3_Xp, MS_3x (PNo_x e2) h, MR_3x (PNo_x e2) m, by rw [rI_wI, if_neg (by omega)]; exact c1, ?_, fun i hi => by rw [rI_wI, if_neg (by omega), rI_wI, if_neg (by omega), rI_wI, if_neg (by omega)]⟩
    simp only [Nx]
    rw [rI_wI, if_pos ⟨rfl, rfl⟩]
    congr 1
    omega
  | false =>
    rw [if_pos (show bI false = 0 from rfl), if_neg (by decide)]
    have en45 := enc_n 45 (by decide) 0 (by decide) M
    have a0 := x_nadd hS hc (by omega) en45
    have e0 : Ey PNo M (wI (wI M 33 c (nI (45 + 256 * 0 + 65536))) 32 1 (nI (c + 1))) := ey_wI (ey_wI Ey.rf (Or.inr rfl)) (Or.inl ⟨rfl, rfl⟩)
    have h0 := Sh_ey e0 hS
    have c0 : rI (wI (wI M 33 c (nI (45 + 256 * 0 + 65536))) 32 1 (nI (c + 1))) 32 1 = nI (c + 1) := by rw [rI_wI, if_pos ⟨rfl, rfl⟩]
    have x0 : rI (wI (wI M 33 c (nI (45 + 256 * 0 + 65536))) 32 1 (nI (c + 1))) 33 c = nI (45 + 65536 * 1) := by rw [rI_wI, if_neg (by omega), rI_wI, if_pos ⟨rfl, rfl⟩]
    have l0 : ∀ i, i < c → rI (wI (wI M 33 c (nI (45 + 256 * 0 + 65536))) 32 1 (nI (c + 1))) 33 i = rI M 33 i := fun i hi => by rw [rI_wI, if_neg (by omega), rI_wI, if_neg (by omega)]
    rw [jiv_n (t32 hS), a0, jb2_some]
    generalize wI (wI M 33 c (nI (45 + 256 * 0 + 65536))) 32 1 (nI (c + 1)) = M0 at *
    have a1 := x_nadd h0 c0 (by omega) (enc M0)
    have e1 : Ey PNo M0 (wI (wI M0 33 (c + 1) (nI (ac s n k + 65536))) 32 1 (nI (c + 1 + 1))) := ey_wI (ey_wI Ey.rf (Or.inr rfl)) (Or.inl ⟨rfl, rfl⟩)
    have h1 := Sh_ey e1 h0
    have c1 : rI (wI (wI M0 33 (c + 1) (nI (ac s n k + 65536))) 32 1 (nI (c + 1 + 1))) 32 1 = nI (c + 1 + 1) := by rw [rI_wI, if_pos ⟨rfl, rfl⟩]
    have z := x_nclose2 (a := c) (w := 45) (s := 1) h1 c1 (by omega) (by omega) (by decide) (by decide) (by rw [rI_wI, if_neg (by omega), rI_wI, if_neg (by omega)]; exact x0)
    have e2 : Ey PNo M (wI (wI (wI M0 33 (c + 1) (nI (ac s n k + 65536))) 32 1 (nI (c + 1 + 1))) 33 c (nI (45 + 65536 * (c + 1 + 1 - c)))) := ey_wI (e0.tr e1) (Or.inr rfl)
    rw [jiv_n (t32 h0), a1, jb2_some, jiv_n (t32 h1), z, jb2_some]
    refine ⟨_, rfl, (PNo_x e2).mono fun _ => C3_Xp, MS_3x (PNo_x e2) h, MR_3x (PNo_x e2) m, by rw [rI_wI, if_neg (by omega), c1, sz_u (by decide)]; rfl, ?_, fun i hi => by rw [rI_wI, if_neg (by omega), rI_wI, if_neg (by omega), rI_wI, if_neg (by omega)]; exact l0 i hi⟩
    rw [Nx_n]
    refine ⟨?_, ?_⟩
    · rw [rI_wI, if_pos ⟨rfl, rfl⟩]
      have : sz (Lean.RArray.leaf (ac s n k)) = 1 := rfl
      rw [this]
      congr 1
      omega
    · simp only [Nx]
      rw [rI_wI, if_neg (by omega), rI_wI, if_neg (by omega), rI_wI, if_pos ⟨rfl, rfl⟩]
theorem x_aip (hS : Sh M) (hu : wwf u) (hv : wwf v) (hr : rv u v r) (h : MS M 6 u v) (m : MR M 6 r) (hf : f < 2) (hc : rI M 32 1 = nI c) (h8 : c + 2 ≤ 800) {s n k : Nat} (hs : s = 61 ∨ s = 65 ∨ s = 66 ∨ s = 69) (hn : n < r.length) (hk : k < r.length) (hnk : s = 65 ∨ s = 66 → n = k) {A B : Int32} (hA : A = nI (n + 1)) (hB : B = if s = 65 ∨ s = 66 then nI 0 else nI (k + 1)) :
    (df (vU f u v) (vU (1 - f) u v) (vR f r) s n k = false → f_X5_addIfParting 6 32 (nI f) (nI s) A B M = some (bI false, M)) ∧ (df (vU f u v) (vU (1 - f) u v) (vR f r) s n k = true → ∃ N, f_X5_addIfParting 6 32 (nI f) (nI s) A B M = some (bI true, N) ∧ XO u v r q c (lit (vU f u v) (vR f r) s n k) M N) := by
  have h3 := m.2.1
  obtain ⟨n1, n2⟩ := ro_view hf hn
  obtain ⟨k1, k2⟩ := ro_view hf hk
  have hor : ∀ side, side < 2 → hO_row 6 (nI side) (nI s) A B M = some (bI (av (vU side u v) s (rsd side r n) (rsd side r k)), M) := by
    intro side hsd
    rw [hA, hB]
    by_cases h6 : s = 65 ∨ s = 66
    · rw [if_pos h6, ← hnk h6]; exact x_hor1 hu hv hr h m hsd h6 hn
    · rw [if_neg h6]; exact x_hor hu hv hr h m hsd (by omega) hn hk
  have h1f : nI 1 - nI f = nI (1 - f) := nI_sb (by omega)
  unfold df
  rw [aip_un]
  rw [hor f hf, jb2_some, h1f, hor (1 - f) (by omega), jb2_some, n1, n2, k1, k2]
  generalize hx : av (vU f u v) s (rsd f r n) (rsd f r k) = x
  generalize av (vU (1 - f) u v) s (rsd (1 - f) r n) (rsd (1 - f) r k) = y
  constructor
  · intro z
    have : x = y := by cases x <;> cases y <;> first | rfl | cases z
    rw [if_pos (by rw [this])]
    rfl
  · intro z
    have : x ≠ y := fun w => by rw [w] at z; cases y <;> cases z
    rw [if_neg (fun w => this (bI_e.mp w)), jiv_n (t32 hS), x_ncount hS hc, jb2_some]
    exact put_lit hS h m hc h8 hs (by omega) (by omega) hA hB (by rw [n1, k1]; exact hx.symm)
end XA6
