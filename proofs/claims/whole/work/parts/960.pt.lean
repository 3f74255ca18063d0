/-! PARTINGS: what is made, as a tree. -/
/-- the rows the other way round -/
def swp (r : Rw) : Rw := r.map (fun p => (p.2, p.1))
theorem swp_sw (r : Rw) : swp (swp r) = r := by
  unfold swp
  rw [List.map_map]
  exact (List.map_congr_left (fun p _ => rfl)).trans (List.map_id r)
theorem swp_len {r : Rw} : (swp r).length = r.length := by unfold swp; rw [List.length_map]
theorem swp_cons {p : Nat × Nat} {r : Rw} : swp (p :: r) = (p.2, p.1) :: swp r := rfl
theorem swp_ro {r : Rw} {k : Nat} (h : k < r.length) : ro (swp r) k = ((ro r k).2, (ro r k).1) := by
  unfold ro
  rw [swp_len, List.getD_eq_getElem?_getD, List.getD_eq_getElem?_getD]
  unfold swp
  rw [List.getElem?_map, List.getElem?_eq_getElem (by omega)]
  rfl
theorem rv_sw {u v : Wd} {r : Rw} (h : rv u v r) : rv v u (swp r) := fun p hp => by
  unfold swp at hp
  obtain ⟨q, h1, h2⟩ := List.mem_map.mp hp
  rw [← h2]
  exact ⟨(h q h1).2, (h q h1).1⟩
theorem pl1_sw {u v : Wd} {p q : Nat × Nat} : pl1 v u (p.2, p.1) (q.2, q.1) = pl1 u v p q := by
  unfold pl1
  rw [Bool.beq_comm (a := decide (q.2 = p.2)), Bool.beq_comm (a := eb v q.2 p.2), Bool.beq_comm (a := eb v p.2 q.2)]
theorem all_sw {r : Rw} {f : Nat × Nat → Bool} : (swp r).all f = r.all (fun p => f (p.2, p.1)) := by unfold swp; rw [List.all_map]; rfl
theorem pla_sw {u v : Wd} {r : Rw} {p : Nat × Nat} : pla v u (swp r) (p.2, p.1) = pla u v r p := by
  unfold pla
  rw [all_sw, pl1_sw (p := p) (q := p)]
  have e1 : (r.all fun q => pl1 v u (p.2, p.1) (q.2, q.1)) = r.all (pl1 u v p) := by
    congr 1
    funext q
    exact pl1_sw
  rw [e1]
  congr 1
  exact decide_eq_decide.mpr ⟨fun h => h.symm, fun h => h.symm⟩
theorem alk_sw {u v : Wd} : ∀ r : Rw, alk v u (swp r) = alk u v r
  | [] => rfl
  | p :: r => by
    rw [swp_cons, alk, alk, alk_sw r, pla_sw]
theorem kw_sw {u v : Wd} : ∀ (k : Nat) (r : Rw), kw v u k (swp r) = kw u v k r
  | 0, r => alk_sw r
  | k + 1, r => by
    rw [kw, kw, alk_sw]
    have e : ∀ a b, kw v u k ((a, b) :: swp r) = kw u v k ((b, a) :: r) := fun a b => kw_sw k ((b, a) :: r)
    simp only [e]
    rw [Bool.and_comm (x := allB v.1 _)]
theorem kw_mono {u v : Wd} : ∀ (k : Nat) (r : Rw), kw u v (k + 1) r = true → kw u v k r = true
  | 0, r, h => kw_alk h
  | k + 1, r, h => by
    rw [kw] at h ⊢
    simp only [Bool.and_eq_true, allB_iff, anyB_iff] at h ⊢
    obtain ⟨h1, h2, h3⟩ := h
    refine ⟨h1, fun a ha => ?_, fun b hb => ?_⟩
    · obtain ⟨b, hb, h4⟩ := h2 a ha; exact ⟨b, hb, kw_mono k _ h4⟩
    · obtain ⟨a, ha, h4⟩ := h3 b hb; exact ⟨a, ha, kw_mono k _ h4⟩
theorem kw_le {u v : Wd} {r : Rw} {k : Nat} : ∀ (d : Nat), kw u v k r = false → kw u v (k + d) r = false
  | 0, h => h
  | d + 1, h => by
    have z := kw_le d h
    cases hx : kw u v (k + (d + 1)) r with
    | false => rfl
    | true => rw [kw_mono (k + d) r hx] at z; cases z
theorem lrep_sw {u v : Wd} {r : Rw} {t k : Nat} : lrep u v r 1 t k = lrep v u (swp r) 0 t k ∧ lrep u v r 0 t k = lrep v u (swp r) 1 t k := by
  unfold lrep
  refine ⟨ff_congr fun s _ _ => ?_, ff_congr fun s _ _ => ?_⟩
  · show kw u v k ((s, t) :: r) = kw v u k ((t, s) :: swp r); exact (kw_sw k ((s, t) :: r)).symm
  · show kw u v k ((t, s) :: r) = kw v u k ((s, t) :: swp r); exact (kw_sw k ((t, s) :: r)).symm
theorem fpk_sw {u v : Wd} {r : Rw} {k : Nat} : fpk u v r 1 k = fpk v u (swp r) 0 k := by
  unfold fpk
  have e1 : (fun t => (lrep u v r 1 t k).isNone) = fun t => (lrep v u (swp r) 0 t k).isNone := by funext t; rw [lrep_sw.1]
  have e2 : (fun t => (lrep u v r (1 - 1) t k).isNone) = fun t => (lrep v u (swp r) (1 - 0) t k).isNone := by funext t; exact congrArg Option.isNone lrep_sw.2
  rw [e1, e2]
  rfl
theorem lrd_sw {u v : Wd} {r : Rw} {k c : Nat} : lrd v u (swp r) k c = lrd u v r k c := by
  unfold lrd
  exact ff_congr fun s _ _ => by rw [kw_sw]
/-- atoms of the rows -/
def av (w : Wd) (s a b : Nat) : Bool := if s = 61 then decide (a = b) else if s = 65 then (w.2.1 a).testBit 0 else if s = 66 then (w.2.1 a).testBit 1 else eb w a b
def df (u v : Wd) (r : Rw) (s n m : Nat) : Bool := av u s (ro r n).1 (ro r m).1 != av v s (ro r n).2 (ro r m).2
def ac (s n m : Nat) : Nat := if s = 65 ∨ s = 66 then s + 256 * (n + 1) else s + 256 * (n + 1) + 4096 * (m + 1)
def lit (u : Wd) (r : Rw) (s n m : Nat) : Fm := if av u s (ro r n).1 (ro r m).1 = true then .leaf (ac s n m) else .branch 45 (.leaf (ac s n m)) (.leaf 0)
def ptT (u v : Wd) (r : Rw) (m : Nat) : Fm := match ff (fun n => df u v r 61 n m) 0 m with
  | some n => lit u r 61 n m
  | none => if df u v r 65 m m = true then lit u r 65 m m else if df u v r 66 m m = true then lit u r 66 m m else match ff (fun n => df u v r 69 n m || df u v r 69 m n) 0 (m + 1) with
    | some n => if df u v r 69 n m = true then lit u r 69 n m else lit u r 69 m n
    | none => .leaf 84
/-- formulas, each but once -/
noncomputable def dl (g : Nat → Fm) : Nat → List Fm
  | 0 => []
  | j + 1 => @ite _ (g j ∈ dl g j) (Classical.propDecidable _) (dl g j) (dl g j ++ [g j])
def tr : List Fm → Fm
  | [] => .leaf 84
  | f :: fs => match fs with
    | [] => f
    | _ :: _ => .branch 0 f (tr fs)
def ptR (fs : List Fm) : Fm := match fs with
  | [f] => f
  | fs => .branch 38 (tr fs) (.leaf 0)
/-- rows that are alike, n rounds left; u is in front -/
noncomputable def ptA : Nat → Wd → Wd → Rw → Fm
  | 0, _, _, _ => .leaf 84
  | n + 1, u, v, r => match fpk u v r 0 ((lrd u v r 1 (n + 1)).getD 1 - 1) with
    | none => .leaf 84
    | some x => if x < 10 then .branch 63 (ptR (dl (fun y => if pla u v r (x, y) = true then ptA n u v ((x, y) :: r) else ptT u v ((x, y) :: r) r.length) v.1)) (.leaf 0)
        else .branch 45 (.branch 63 (ptR (dl (fun y => if pla v u (swp r) (x - 10, y) = true then ptA n v u ((x - 10, y) :: swp r) else ptT v u ((x - 10, y) :: swp r) r.length) u.1)) (.leaf 0)) (.leaf 0)
/-- a reply's part -/
noncomputable def ptL (n : Nat) (u v : Wd) (r : Rw) (p : Nat × Nat) : Fm := if pla u v r p = true then ptA n u v (p :: r) else ptT u v (p :: r) r.length
theorem ptA_s {n : Nat} {u v : Wd} {r : Rw} : ptA (n + 1) u v r = match fpk u v r 0 ((lrd u v r 1 (n + 1)).getD 1 - 1) with
    | none => .leaf 84
    | some x => if x < 10 then .branch 63 (ptR (dl (fun y => ptL n u v r (x, y)) v.1)) (.leaf 0)
        else .branch 45 (.branch 63 (ptR (dl (fun y => ptL n v u (swp r) (x - 10, y)) u.1)) (.leaf 0)) (.leaf 0) := by
  rw [ptA]
  unfold ptL
  simp only [swp_len]
/-! how large they are -/
def szL (fs : List Fm) : Nat := (fs.map sz).sum
theorem tr_2 {f g : Fm} {fs : List Fm} : tr (f :: g :: fs) = .branch 0 f (tr (g :: fs)) := rfl
theorem dl_len (g : Nat → Fm) : ∀ j, (dl g j).length ≤ j ∧ (0 < j → dl g j ≠ [])
  | 0 => ⟨Nat.le_refl _, fun h => absurd h (Nat.lt_irrefl _)⟩
  | j + 1 => by
    obtain ⟨h1, h2⟩ := dl_len g j
    rw [dl]
    split
    · rename_i hm
      exact ⟨by omega, fun _ z => by rw [z] at hm; cases hm⟩
    · exact ⟨by rw [List.length_append]; show _ + 1 ≤ _; omega, fun _ => by simp⟩
theorem dl_mem {g : Nat → Fm} {f : Fm} : ∀ j, f ∈ dl g j → ∃ i, i < j ∧ f = g i
  | 0, h => by cases h
  | j + 1, h => by
    rw [dl] at h
    split at h
    · obtain ⟨i, h1, h2⟩ := dl_mem j h; exact ⟨i, by omega, h2⟩
    · rcases List.mem_append.mp h with h | h
      · obtain ⟨i, h1, h2⟩ := dl_mem j h; exact ⟨i, by omega, h2⟩
      · exact ⟨j, by omega, by simpa using h⟩
/-- a size of a tree: within q quantifiers at most A nodes, L signs, D deep -/
def ok3 (q A L D : Nat) (f : Fm) : Prop := wf 0 q f ∧ sz f ≤ A ∧ (∀ ip sg, (wr q ip sg f).length ≤ L) ∧ dp f ≤ D
theorem tr_ok {q A L D : Nat} : ∀ (fs : List Fm), fs ≠ [] → (∀ f ∈ fs, ok3 q A L D f) → wf 1 q (tr fs) ∧ (2 ≤ fs.length → wf 2 q (tr fs)) ∧ sz (tr fs) = szL fs ∧ sz (tr fs) ≤ A * fs.length ∧ (∀ sg, (wr q true sg (tr fs)).length + 1 ≤ (L + 1) * fs.length) ∧ dp (tr fs) ≤ D
  | [], h, _ => absurd rfl h
  | [f], _, h => by
    obtain ⟨h1, h2, h3, h4⟩ := h f (by simp)
    refine ⟨wf_01 h1, fun z => by simp at z, ?_, by show sz f ≤ A * 1; omega, fun sg => ?_, h4⟩
    · show sz f = _; unfold szL; simp
    · have := h3 true sg
      show (wr q true sg f).length + 1 ≤ (L + 1) * 1
      omega
  | f :: g :: fs, _, h => by
    obtain ⟨h1, h2, h3, h4⟩ := h f (by simp)
    obtain ⟨t1, t2, t3, t4, t5, t6⟩ := tr_ok (g :: fs) (by simp) (fun x hx => h x (by simp only [List.mem_cons] at hx ⊢; exact Or.inr hx))
    rw [tr_2]
    have hl : (f :: g :: fs).length = (g :: fs).length + 1 := rfl
    have w2 : wf 2 q (.branch 0 f (tr (g :: fs))) := by simp only [wf]; exact ⟨by decide, h1, t1⟩
    refine ⟨wf_21 w2, fun _ => w2, ?_, ?_, fun sg => ?_, ?_⟩
    · rw [sz_c, t3]; unfold szL; simp
    · rw [sz_c, hl, Nat.mul_add]; omega
    · have z1 := h3 true sg
      have z2 := t5 sg
      rw [wr_c, List.length_append, List.length_cons, hl, Nat.mul_add]
      omega
    · rw [dp_c]; omega
theorem ptR_ok {q A L D : Nat} (hA : 1 ≤ A) {fs : List Fm} (hne : fs ≠ []) (h : ∀ f ∈ fs, ok3 q A L D f) (h6 : fs.length ≤ 6) : ok3 q (6 * A + 1) (6 * L + 7) (D + 1) (ptR fs) := by
  have mk : 2 ≤ fs.length → ok3 q (6 * A + 1) (6 * L + 7) (D + 1) (.branch 38 (tr fs) (.leaf 0)) := by
    intro h2
    obtain ⟨t1, t2, t3, t4, t5, t6⟩ := tr_ok fs hne h
    have m1 : A * fs.length ≤ A * 6 := Nat.mul_le_mul_left _ h6
    have m2 : (L + 1) * fs.length ≤ (L + 1) * 6 := Nat.mul_le_mul_left _ h6
    refine ⟨?_, by rw [sz_u (by decide)]; omega, fun ip sg => ?_, by rw [dp_u (by decide)]; omega⟩
    · simp only [wf]
      rw [if_neg (by decide), if_neg (by decide), if_neg (by decide), if_pos (by decide)]
      exact ⟨by decide, trivial, t2 h2⟩
    · have := t5 38
      rw [wr_l (Or.inl rfl), List.length_append, List.length_append]
      cases ip <;> simp <;> omega
  match fs, hne, h, mk with
  | [f], _, h, _ =>
    obtain ⟨h1, h2, h3, h4⟩ := h f (by simp)
    exact ⟨h1, by show sz f ≤ _; omega, fun ip sg => by have := h3 ip sg; show (wr q ip sg f).length ≤ _; omega, by show dp f ≤ _; omega⟩
  | f :: g :: fs, _, h, mk => exact mk (by simp)
def bz : Nat → Nat
  | 0 => 2
  | n + 1 => 6 * bz n + 3
def bw : Nat → Nat
  | 0 => 4
  | n + 1 => 6 * bw n + 10
theorem ac_ok {q s n m : Nat} (hq : q ≤ 8) (hs : s = 61 ∨ s = 65 ∨ s = 66 ∨ s = 69) (hn : n < q) (hm : m < q) : aok q (ac s n m) := by
  unfold ac
  by_cases h : s = 65 ∨ s = 66
  · rw [if_pos h]; exact Or.inl ⟨s, n + 1, h, by omega, by omega, rfl⟩
  · rw [if_neg h]; exact Or.inr (Or.inl ⟨s, n + 1, m + 1, by omega, by omega, by omega, by omega, by omega, rfl⟩)
theorem wa_3 {q c : Nat} (hq : q ≤ 8) (ok : aok q c) : (wa c).length ≤ 3 := by
  rcases wa_is hq ok with ⟨s1, a', -, -, hw⟩ | ⟨s1, a', b', -, -, hw⟩ | ⟨-, hw⟩ | ⟨-, hw⟩ <;> rw [hw] <;> simp
theorem lit_ok {u : Wd} {r : Rw} {q s n m : Nat} (hq : q ≤ 8) (hs : s = 61 ∨ s = 65 ∨ s = 66 ∨ s = 69) (hn : n < q) (hm : m < q) : ok3 q 2 4 1 (lit u r s n m) := by
  have ok := ac_ok hq hs hn hm
  have h3 := wa_3 hq ok
  have w0 : wf 0 q (.leaf (ac s n m)) := ⟨by decide, hq, ok⟩
  unfold lit
  split
  · exact ⟨w0, by show 1 ≤ 2; omega, fun ip sg => by rw [wr_leaf]; omega, Nat.zero_le _⟩
  · refine ⟨?_, by rw [sz_u (by decide)]; show 1 + 1 ≤ 2; omega, fun ip sg => by rw [wr_n, wr_leaf, List.length_cons]; omega, by rw [dp_u (by decide)]; show 0 + 1 ≤ 1; omega⟩
    simp only [wf]
    rw [if_neg (by decide)]
    exact ⟨by decide, trivial, w0⟩
theorem T_ok {q : Nat} (hq : q ≤ 8) : ok3 q 2 4 1 (.leaf 84) := ⟨⟨by decide, hq, Or.inr (Or.inr (Or.inl rfl))⟩, by show 1 ≤ 2; omega, fun ip sg => by rw [wr_leaf]; show 1 ≤ 4; omega, Nat.zero_le _⟩
theorem ptT_ok {u v : Wd} {r : Rw} {q m : Nat} (hq : q ≤ 8) (hm : m < q) : ok3 q 2 4 1 (ptT u v r m) := by
  unfold ptT
  cases h1 : ff (fun n => df u v r 61 n m) 0 m with
  | some n => exact lit_ok hq (Or.inl rfl) (by have := (ff_some h1).2.1; omega) hm
  | none =>
    dsimp only
    split
    · exact lit_ok hq (by simp) hm hm
    · split
      · exact lit_ok hq (by simp) hm hm
      · cases h2 : ff (fun n => df u v r 69 n m || df u v r 69 m n) 0 (m + 1) with
        | none => exact T_ok hq
        | some n =>
          have := (ff_some h2).2.1
          dsimp only
          split
          · exact lit_ok hq (by simp) (by omega) hm
          · exact lit_ok hq (by simp) hm (by omega)
theorem ok3_le {q A L D A' L' D' : Nat} {f : Fm} (h : ok3 q A L D f) (h1 : A ≤ A') (h2 : L ≤ L') (h3 : D ≤ D') : ok3 q A' L' D' f := ⟨h.1, Nat.le_trans h.2.1 h1, fun ip sg => Nat.le_trans (h.2.2.1 ip sg) h2, Nat.le_trans h.2.2.2 h3⟩
theorem bz_2 : ∀ n, 2 ≤ bz n ∧ 4 ≤ bw n
  | 0 => ⟨Nat.le_refl _, Nat.le_refl _⟩
  | n + 1 => by have := bz_2 n; rw [bz, bw]; omega
theorem ptA_ok : ∀ (n : Nat) (u v : Wd) (r : Rw), wwf u → wwf v → 0 < u.1 → 0 < v.1 → r.length + n ≤ 7 → ok3 r.length (bz n) (bw n) (3 * n + 1) (ptA n u v r)
  | 0, u, v, r, _, _, _, _, h => T_ok (by omega)
  | n + 1, u, v, r, hu, hv, h1, h2, h => by
    have b := bz_2 n
    have one : ∀ (u v : Wd) (r : Rw) (x : Nat), wwf u → wwf v → 0 < u.1 → 0 < v.1 → r.length + (n + 1) ≤ 7 → ok3 r.length (6 * bz n + 2) (6 * bw n + 9) (3 * n + 3) (.branch 63 (ptR (dl (fun y => ptL n u v r (x, y)) v.1)) (.leaf 0)) := by
      intro u v r x hu hv h1 h2 h
      have part : ∀ f ∈ dl (fun y => ptL n u v r (x, y)) v.1, ok3 (r.length + 1) (bz n) (bw n) (3 * n + 1) f := by
        intro f hf
        obtain ⟨y, hy, rfl⟩ := dl_mem _ hf
        unfold ptL
        split
        · exact ptA_ok n u v ((x, y) :: r) hu hv h1 h2 (by rw [List.length_cons]; omega)
        · exact ok3_le (ptT_ok (by omega) (by omega)) b.1 b.2 (by omega)
      have hl := dl_len (fun y => ptL n u v r (x, y)) v.1
      obtain ⟨r1, r2, r3, r4⟩ := ptR_ok (by omega) (hl.2 h2) part (by have := hv.1; omega)
      refine ⟨?_, by rw [sz_u (by decide)]; omega, fun ip sg => by rw [wr_q (Or.inr rfl), List.length_cons, List.length_cons]; have := r3 true sg; omega, by rw [dp_u (by decide)]; omega⟩
      simp only [wf]
      rw [if_neg (by decide), if_neg (by decide), if_pos (by rfl)]
      exact ⟨by decide, trivial, by omega, r1⟩
    rw [ptA_s]
    cases fpk u v r 0 ((lrd u v r 1 (n + 1)).getD 1 - 1) with
    | none => exact ok3_le (T_ok (by omega)) (by rw [bz]; omega) (by rw [bw]; omega) (by omega)
    | some x =>
      dsimp only
      split
      · exact ok3_le (one u v r x hu hv h1 h2 h) (by rw [bz]; omega) (by rw [bw]; omega) (by omega)
      · obtain ⟨r1, r2, r3, r4⟩ := one v u (swp r) (x - 10) hv hu h2 h1 (by rw [swp_len]; exact h)
        rw [swp_len] at r1 r3
        refine ⟨?_, by rw [sz_u (by decide), bz]; omega, fun ip sg => by rw [wr_n, List.length_cons, bw]; have := r3 true sg; omega, by rw [dp_u (by decide)]; omega⟩
        simp only [wf] at r1 ⊢
        rw [if_neg (by decide)]
        exact ⟨by decide, trivial, r1⟩
