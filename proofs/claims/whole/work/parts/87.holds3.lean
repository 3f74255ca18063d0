/-! ASKING: the reference's holds, node by node. -/
/-- what the loop is to do for a formula, and for a row of parts -/
def HP (ws : Nat → Wd) (s wi b q : Nat) (f : Fm) : Prop := ∀ (so : Bool) (env : Nat → Nat) (D p n F : Nat) (M : jM), HW ws M → HQ b M p q f → p + sz f ≤ 600 → D + dp f ≤ 60 → (∀ j, j < q → rI M 92 j = nI (env (j + 1))) → (∀ j, env j < 6) → rI M 65 38 = nI D → rI M 65 45 = nI n → n ≤ 100000 →
  (n + (ev (ws wi) so env q f).2 ≤ 100000 → ∃ g N, jF0 ≤ g + dp f ∧ l_X12_holds_37 (F + (ev (ws wi) so env q f).2) 65 (nI s) (nI wi) (nI b) (nI p) M = hC s wi b F g (ev (ws wi) so env q f).1 N ∧ HR D q M N ∧ rI N 65 38 = nI D ∧ rI N 65 45 = nI (n + (ev (ws wi) so env q f).2)) ∧
  (100000 < n + (ev (ws wi) so env q f).2 → 100001 ≤ F + n → ∃ N, l_X12_holds_37 F 65 (nI s) (nI wi) (nI b) (nI p) M = some (-6, N) ∧ Ey PH M N ∧ rI N 65 44 = rI M 65 44)
def HB (ws : Nat → Wd) (s wi b q : Nat) (f : Fm) : Prop := ∀ (so : Bool) (env : Nat → Nat) (D p n F k0 : Nat) (M : jM), HW ws M → HQ b M p q f → p + sz f ≤ 600 → D + 1 + dp f ≤ 60 → (∀ j, j < q → rI M 92 j = nI (env (j + 1))) → (∀ j, env j < 6) → rI M 65 38 = nI (D + 1) → rI M 65 45 = nI n → n ≤ 100000 →
  rI M 88 D = nI k0 → k0 < 600 → rI M 76 (b + k0) = nI (if so = true then 5 else 4) → rI M 79 (b + k0) = nI (p + sz f) → rI M 90 D = nI (p + fs f) →
  (n + (ev (ws wi) so env q f).2 ≤ 100000 → ∃ g N, jF0 ≤ g + dp f + 1 ∧ l_X12_holds_37 (F + (ev (ws wi) so env q f).2) 65 (nI s) (nI wi) (nI b) (nI p) M = hC s wi b F g (ev (ws wi) so env q f).1 N ∧ HR D q M N ∧ rI N 65 38 = nI D ∧ rI N 65 45 = nI (n + (ev (ws wi) so env q f).2)) ∧
  (100000 < n + (ev (ws wi) so env q f).2 → 100001 ≤ F + n → ∃ N, l_X12_holds_37 F 65 (nI s) (nI wi) (nI b) (nI p) M = some (-6, N) ∧ Ey PH M N ∧ rI N 65 44 = rI M 65 44)
section HC
variable {ws : Nat → Wd} {s wi b : Nat}
theorem hp_atom (hf : WF ws) (hw : wi < 6) (hb : b = 600 * s) (hs : s < 20) {q c : Nat} (hq : q ≤ 8) (ok : aok q c) : HP ws s wi b q (.leaf c) := by
  intro so env D p n F M h hQ hp hdp he he6 hd hn h1
  have hp' : p < 600 := by simp only [sz] at hp; omega
  have hK : rI M 76 (b + p) = nI (rk (aS c)) := hQ.1.1
  have hK6 : 6 ≤ rk (aS c) ∧ rk (aS c) < 12 := by
    have sg : aS c = 65 ∨ aS c = 66 ∨ aS c = 69 ∨ aS c = 61 ∨ aS c = 84 ∨ aS c = 70 := by unfold aS; rcases ok with ⟨s, a, hs, ha, hb, rfl⟩ | ⟨s, a, b, hs, ha, hb, hc, hd, rfl⟩ | rfl | rfl <;> omega
    rcases sg with z | z | z | z | z | z <;> rw [z] <;> decide
  constructor
  · intro hc
    have hc : n + 1 ≤ 100000 := hc
    have e1 : Ey PH M (wI M 65 45 (nI (n + 1))) := ey_wI Ey.rf (by unfold PH; omega)
    have q1 := HW_ey e1 h
    refine ⟨jF0, wI M 65 45 (nI (n + 1)), Nat.le_add_right _ _, ?_, ⟨e1, fun j _ => ⟨by rw [rI_wI, if_neg (by omega)], by rw [rI_wI, if_neg (by omega)], by rw [rI_wI, if_neg (by omega)]⟩, fun j _ => by rw [rI_wI, if_neg (by omega)], by rw [rI_wI, if_neg (by omega)]⟩, by rw [rI_wI, if_neg (by omega)]; exact hd, by rw [rI_wI, if_pos ⟨rfl, rfl⟩]; rfl⟩
    show b_X12_holds_37 (l_X12_holds_37 F) 65 (nI s) (nI wi) (nI b) (nI p) M = _
    unfold b_X12_holds_37 j_X12_holds_190
    rw [if_neg (nI_pos (by omega)), gI_n (t65 h.1), Option.bind_some, hn, nI_add, pI_n (t65 h.1), Option.bind_some, gI_n (t65 q1.1), Option.bind_some, show rI (wI M 65 45 (nI (n + 1))) 65 45 = nI (n + 1) by rw [rI_wI, if_pos ⟨rfl, rfl⟩], if_pos (nI_le hc (by decide)), nI_add]
    show ((gR 11 (wI M 65 45 (nI (n + 1))) 65 19).bind fun r8 => _) = _
    rw [q65_19 q1.1, Option.bind_some, ldB_n (t76 q1.1) (by omega) (by decide), Option.bind_some, show rI (wI M 65 45 (nI (n + 1))) 76 (b + p) = nI (rk (aS c)) by rw [rI_wI, if_neg (by omega)]; exact hK, if_neg (nI_nlt hK6.1 (by omega)), jiv_n (t65 q1.1), h_atom hf hw (by omega) q1 hq hp' ok (HQ_ey e1 (fun c k h1 h2 => PH_no h1 h2) hQ) (fun j hj => by rw [rI_wI, if_neg (by omega)]; exact he j hj) he6, jb2_some, jiv_n (t65 q1.1)]
    unfold f_X12_nextAsked
    rw [nm_mul, ← hb]
    rfl
  · intro hc hF
    have hc : 100000 < n + 1 := hc
    obtain ⟨F, rfl⟩ : ∃ F', F = F' + 1 := ⟨F - 1, by omega⟩
    exact ⟨_, h_spent h.1 hn (by omega) (by omega), ey_wI Ey.rf (by unfold PH; omega), by rw [rI_wI, if_neg (by omega)]⟩
theorem hC_up {F g : Nat} {is is' : Bool} {M N : jM} (h : l_X12_nextAsked_10 (g + 1) 65 (nI wi) (nI b) (bI is) M = l_X12_nextAsked_10 g 65 (nI wi) (nI b) (bI is') N) : hC s wi b F (g + 1) is M = hC s wi b F g is' N := by unfold hC; rw [h]
theorem hC_on {F g x : Nat} {is : Bool} {M N : jM} (h : l_X12_nextAsked_10 (g + 1) 65 (nI wi) (nI b) (bI is) M = some (nI x, N)) : hC s wi b F (g + 1) is M = l_X12_holds_37 F 65 (nI s) (nI wi) (nI b) (nI x) N := by unfold hC; rw [h]; rfl
theorem hp_not (hb : b = 600 * s) (hs : s < 20) {q : Nat} {l : Fm} (hwl : wf 0 q l) (ih : HP ws s wi b q l) : HP ws s wi b q (.branch 45 l (.leaf 0)) := by
  intro so env D p n F M h hQ hp hdp he he6 hd hn h1
  obtain ⟨n0, hn0⟩ := jF_is
  have hz := sz_pos l
  rw [sz_u (by decide)] at hp
  rw [dp_u (by decide)] at hdp ⊢
  rw [ev_n]
  obtain ⟨r1, r2⟩ := hQ
  rw [Nr_n] at r1
  rw [Ne_u (by decide)] at r2
  by_cases hc1 : n + 1 ≤ 100000
  · have down := fun F => h_down (wi := wi) (s := s) (F := F) h.1 (show b + 600 ≤ 12000 by omega) hd (by omega) hn hc1 (show p + 1 < 600 by omega) r1.1.1 (by decide) (Ne_0 hwl r2.2) r1.1.2.1 (fun z => by omega)
    have next : ∀ N, Ey PH M N → (∀ j, rI N 92 j = rI M 92 j) → HW ws N ∧ HQ b N (p + 1) q l ∧ ∀ j, j < q → rI N 92 j = nI (env (j + 1)) := fun N e k => ⟨HW_ey e h, HQ_ey e (fun c k h1 h2 => PH_no h1 h2) ⟨r1.2, r2.2⟩, fun j hj => by rw [k j]; exact he j hj⟩
    constructor
    · intro hc
      have hc : n + ((ev (ws wi) so env q l).2 + 1) ≤ 100000 := hc
      obtain ⟨M1, d1, d2, d3, d4, d5, d6, d7, d8, d9, d10⟩ := down (F + (ev (ws wi) so env q l).2)
      have d9' : ∀ j, rI M1 92 j = rI M 92 j := fun j => by rw [d9 j, if_neg (by omega)]
      obtain ⟨n1, n2, n3⟩ := next M1 d2 d9'
      obtain ⟨g, N, p1, p2, p3, p4, p5⟩ := (ih so env (D + 1) (p + 1) (n + 1) F M1 n1 n2 (by omega) (by omega) n3 he6 d3 d4 hc1).1 (by omega)
      obtain ⟨g, rfl⟩ : ∃ g', g = g' + 1 := ⟨g - 1, by omega⟩
      have hN := HW_ey p3.1 n1
      have k88 : rI N 88 D = nI p := by rw [(p3.2.1 D (by omega)).1, d5]
      have k76 : rI N 76 (b + p) = nI 1 := by rw [ey_rI p3.1 (PH_no (by omega) (by omega)), ey_rI d2 (PH_no (by omega) (by omega))]; exact r1.1.1
      have up := u_head (wi := wi) (g := g) (is := (ev (ws wi) so env q l).1) hN.1 p4 (show D < 64 by omega) k88 (show b + p < 12000 by omega) k76 (by decide)
      rw [if_pos rfl] at up
      have hr1 : HR D q M M1 := ⟨d2, d8, fun j _ => d9' j, d10⟩
      refine ⟨g, wI N 65 38 (nI D), by omega, ?_, (hr1.tr (p3.le (by omega) (Nat.le_refl _))).tr hr_deep, by rw [rI_wI, if_pos ⟨rfl, rfl⟩], ?_⟩
      · rw [show F + ((ev (ws wi) so env q l).2 + 1) = F + (ev (ws wi) so env q l).2 + 1 by omega, d1, p2, hC_up up]
      · rw [rI_wI, if_neg (by omega), p5, show n + 1 + (ev (ws wi) so env q l).2 = n + ((ev (ws wi) so env q l).2 + 1) by omega]
    · intro hc hF
      have hc : 100000 < n + ((ev (ws wi) so env q l).2 + 1) := hc
      obtain ⟨F, rfl⟩ : ∃ F', F = F' + 1 := ⟨F - 1, by omega⟩
      obtain ⟨M1, d1, d2, d3, d4, d5, d6, d7, d8, d9, d10⟩ := down F
      have d9' : ∀ j, rI M1 92 j = rI M 92 j := fun j => by rw [d9 j, if_neg (by omega)]
      obtain ⟨n1, n2, n3⟩ := next M1 d2 d9'
      obtain ⟨N, p1, p2, p3⟩ := (ih so env (D + 1) (p + 1) (n + 1) F M1 n1 n2 (by omega) (by omega) n3 he6 d3 d4 hc1).2 (by omega) (by omega)
      exact ⟨N, d1.trans p1, d2.tr p2, p3.trans d10⟩
  · constructor
    · intro hc
      have hc : n + ((ev (ws wi) so env q l).2 + 1) ≤ 100000 := hc
      omega
    · intro _ hF
      obtain ⟨F, rfl⟩ : ∃ F', F = F' + 1 := ⟨F - 1, by omega⟩
      exact ⟨_, h_spent h.1 hn (by omega) (by omega), ey_wI Ey.rf (by unfold PH; omega), by rw [rI_wI, if_neg (by omega)]⟩
theorem hp_list (hb : b = 600 * s) (hs : s < 20) {q k : Nat} {l : Fm} (hk : k = 38 ∨ k = 124) (hwl : wf 2 q l) (ih : HB ws s wi b q l) : HP ws s wi b q (.branch k l (.leaf 0)) := by
  intro so env D p n F M h hQ hp hdp he he6 hd hn h1
  have hz := sz_pos l
  rw [sz_u (by omega)] at hp
  rw [dp_u (by omega)] at hdp ⊢
  rw [ev_l hk]
  obtain ⟨r1, r2⟩ := hQ
  rw [Nr_l hk] at r1
  rw [Ne_u (by omega)] at r2
  have hK : (if k = 38 then 4 else 5) = (if decide (k = 124) = true then 5 else 4) := by rcases hk with rfl | rfl <;> rfl
  by_cases hc1 : n + 1 ≤ 100000
  · have down := fun F => h_down (wi := wi) (s := s) (F := F) h.1 (show b + 600 ≤ 12000 by omega) hd (by omega) hn hc1 (show p + 1 < 600 by omega) r1.1.1 (by split <;> decide) (Ne_h (wf_21 hwl) r2.2) r1.1.2.1 (fun z => by split at z <;> omega)
    have next : ∀ F, ∃ M1, l_X12_holds_37 (F + 1) 65 (nI s) (nI wi) (nI b) (nI p) M = l_X12_holds_37 F 65 (nI s) (nI wi) (nI b) (nI (p + 1)) M1 ∧ HR D q M M1 ∧ ((n + 1 + (ev (ws wi) (decide (k = 124)) env q l).2 ≤ 100000 → ∀ F, ∃ g N, jF0 ≤ g + dp l + 1 ∧ l_X12_holds_37 (F + (ev (ws wi) (decide (k = 124)) env q l).2) 65 (nI s) (nI wi) (nI b) (nI (p + 1)) M1 = hC s wi b F g (ev (ws wi) (decide (k = 124)) env q l).1 N ∧ HR D q M1 N ∧ rI N 65 38 = nI D ∧ rI N 65 45 = nI (n + 1 + (ev (ws wi) (decide (k = 124)) env q l).2)) ∧ (100000 < n + 1 + (ev (ws wi) (decide (k = 124)) env q l).2 → ∀ F, 100001 ≤ F + (n + 1) → ∃ N, l_X12_holds_37 F 65 (nI s) (nI wi) (nI b) (nI (p + 1)) M1 = some (-6, N) ∧ Ey PH M1 N ∧ rI N 65 44 = rI M1 65 44)) := by
      intro F
      obtain ⟨M1, d1, d2, d3, d4, d5, d6, d7, d8, d9, d10⟩ := down F
      have d9' : ∀ j, rI M1 92 j = rI M 92 j := fun j => by rw [d9 j, if_neg (fun z => by have := z.1; split at this <;> omega)]
      have I := fun F => ih (decide (k = 124)) env D (p + 1) (n + 1) F p M1 (HW_ey d2 h) (HQ_ey d2 (fun c k h1 h2 => PH_no h1 h2) ⟨r1.2, r2.2⟩) (by omega) (by omega) (fun j hj => by rw [d9' j]; exact he j hj) he6 d3 d4 hc1 d5 (by omega) (by rw [ey_rI d2 (PH_no (by omega) (by omega)), ← hK]; exact r1.1.1) (by rw [ey_rI d2 (PH_no (by omega) (by omega)), r2.1, show p + (sz l + 1) = p + 1 + sz l by omega]) d7
      exact ⟨M1, d1, ⟨d2, d8, fun j _ => d9' j, d10⟩, fun hc F => (I F).1 hc, fun hc F hF => (I F).2 hc hF⟩
    constructor
    · intro hc
      have hc : n + ((ev (ws wi) (decide (k = 124)) env q l).2 + 1) ≤ 100000 := hc
      obtain ⟨M1, d1, d2, d3, -⟩ := next (F + (ev (ws wi) (decide (k = 124)) env q l).2)
      obtain ⟨g, N, p1, p2, p3, p4, p5⟩ := d3 (by omega) F
      refine ⟨g, N, by omega, ?_, d2.tr p3, p4, ?_⟩
      · rw [show F + ((ev (ws wi) (decide (k = 124)) env q l).2 + 1) = F + (ev (ws wi) (decide (k = 124)) env q l).2 + 1 by omega, d1, p2]
      · rw [p5, show n + 1 + (ev (ws wi) (decide (k = 124)) env q l).2 = n + ((ev (ws wi) (decide (k = 124)) env q l).2 + 1) by omega]
    · intro hc hF
      have hc : 100000 < n + ((ev (ws wi) (decide (k = 124)) env q l).2 + 1) := hc
      obtain ⟨F, rfl⟩ : ∃ F', F = F' + 1 := ⟨F - 1, by omega⟩
      obtain ⟨M1, d1, d2, -, d3⟩ := next F
      obtain ⟨N, p1, p2, p3⟩ := d3 (by omega) F (by omega)
      exact ⟨N, d1.trans p1, d2.1.tr p2, p3.trans d2.2.2.2⟩
  · constructor
    · intro hc
      have hc : n + ((ev (ws wi) (decide (k = 124)) env q l).2 + 1) ≤ 100000 := hc
      omega
    · intro _ hF
      obtain ⟨F, rfl⟩ : ∃ F', F = F' + 1 := ⟨F - 1, by omega⟩
      exact ⟨_, h_spent h.1 hn (by omega) (by omega), ey_wI Ey.rf (by unfold PH; omega), by rw [rI_wI, if_neg (by omega)]⟩
/-- a part is answered: up, out of the list -/
theorem hb_up {F g D p n k0 q c : Nat} {is so : Bool} {N : jM} (hN : Sh N) (hd : rI N 65 38 = nI (D + 1)) (hD : D < 64) (h88 : rI N 88 D = nI k0) (hk : b + k0 < 12000) (h76 : rI N 76 (b + k0) = nI (if so = true then 5 else 4)) (hx : is = so ∨ (is = !so ∧ ∃ e, rI N 90 D = nI e ∧ rI N 79 (b + k0) = nI e)) : hC s wi b F (g + 1) is N = hC s wi b F g is (wI N 65 38 (nI D)) := by
  refine hC_up ?_
  rw [u_list hN hd hD h88 hk h76]
  rcases hx with rfl | ⟨rfl, e, x1, x2⟩
  · exact u_pop_l hN hd
  · exact u_end_l hN hd hD hk x1 x2
theorem hb_one (hb : b = 600 * s) (hs : s < 20) {q : Nat} {l : Fm} (hwl : wf 0 q l) (ih : HP ws s wi b q l) : HB ws s wi b q l := by
  intro so env D p n F k0 M h hQ hp hdp he he6 hd hn h1 h88 hk0 h76 h79 h90
  obtain ⟨n0, hn0⟩ := jF_is
  have I := ih so env (D + 1) p n F M h hQ hp (by omega) he he6 hd hn h1
  refine ⟨fun hc => ?_, fun hc hF => I.2 hc hF⟩
  obtain ⟨g, N, p1, p2, p3, p4, p5⟩ := I.1 hc
  obtain ⟨g, rfl⟩ : ∃ g', g = g' + 1 := ⟨g - 1, by omega⟩
  have hN := HW_ey p3.1 h
  obtain ⟨k1, k2, k3⟩ := p3.2.1 D (by omega)
  have up := hb_up (s := s) (wi := wi) (b := b) (F := F) (g := g) (p := p) (n := n) (q := q) (c := 0) (is := (ev (ws wi) so env q l).1) (so := so) hN.1 p4 (by omega) (by rw [k1]; exact h88) (by omega) (by rw [ey_rI p3.1 (PH_no (by omega) (by omega))]; exact h76) (by
    by_cases hv : (ev (ws wi) so env q l).1 = so
    · exact Or.inl hv
    · refine Or.inr ⟨by revert hv; cases (ev (ws wi) so env q l).1 <;> cases so <;> simp, p + sz l, by rw [k3, h90, fs_0 hwl], by rw [ey_rI p3.1 (PH_no (by omega) (by omega))]; exact h79⟩)
  exact ⟨g, wI N 65 38 (nI D), by omega, by rw [p2, up], (p3.le (by omega) (Nat.le_refl _)).tr hr_deep, by rw [rI_wI, if_pos ⟨rfl, rfl⟩], by rw [rI_wI, if_neg (by omega)]; exact p5⟩
theorem hb_cons (hb : b = 600 * s) (hs : s < 20) {q : Nat} {l r : Fm} (hwl : wf 0 q l) (hwr : wf 1 q r) (ih : HP ws s wi b q l) (ih2 : HB ws s wi b q r) : HB ws s wi b q (.branch 0 l r) := by
  intro so env D p n F k0 M h hQ hp hdp he he6 hd hn h1 h88 hk0 h76 h79 h90
  obtain ⟨n0, hn0⟩ := jF_is
  have hz := sz_pos l
  have hz2 := sz_pos r
  obtain ⟨r1, r2⟩ := hQ
  rw [Nr_c] at r1
  rw [Ne_c] at r2
  rw [sz_c] at hp h79
  rw [dp_c] at hdp ⊢
  rw [fs_c] at h90
  have I := fun F => ih so env (D + 1) p n F M h ⟨r1.1, r2.1⟩ (by omega) (by omega) he he6 hd hn h1
  rw [ev_c]
  -- once the first part is answered within the count
  have mid : n + (ev (ws wi) so env q l).2 ≤ 100000 → ¬ (ev (ws wi) so env q l).1 = so → ∀ F, ∃ M1, l_X12_holds_37 (F + (ev (ws wi) so env q l).2) 65 (nI s) (nI wi) (nI b) (nI p) M = l_X12_holds_37 F 65 (nI s) (nI wi) (nI b) (nI (p + sz l)) M1 ∧ HR D q M M1 ∧ HW ws M1 ∧ HQ b M1 (p + sz l) q r ∧ (∀ j, j < q → rI M1 92 j = nI (env (j + 1))) ∧ rI M1 65 38 = nI (D + 1) ∧ rI M1 65 45 = nI (n + (ev (ws wi) so env q l).2) ∧ rI M1 88 D = nI k0 ∧ rI M1 76 (b + k0) = nI (if so = true then 5 else 4) ∧ rI M1 79 (b + k0) = nI (p + sz l + sz r) ∧ rI M1 90 D = nI (p + sz l + fs r) := by
    intro hc hv F
    obtain ⟨g, N, p1, p2, p3, p4, p5⟩ := (I F).1 hc
    obtain ⟨g, rfl⟩ : ∃ g', g = g' + 1 := ⟨g - 1, by omega⟩
    have hN := HW_ey p3.1 h
    obtain ⟨k1, k2, k3⟩ := p3.2.1 D (by omega)
    have hv' : (ev (ws wi) so env q l).1 = !so := by revert hv; cases (ev (ws wi) so env q l).1 <;> cases so <;> simp
    have n76 : rI N 76 (b + k0) = nI (if so = true then 5 else 4) := by rw [ey_rI p3.1 (PH_no (by omega) (by omega))]; exact h76
    have n79 : rI N 79 (b + k0) = nI (p + (sz l + sz r)) := by rw [ey_rI p3.1 (PH_no (by omega) (by omega))]; exact h79
    have nE : rI N 79 (b + (p + sz l)) = nI (p + sz l + fs r) := by rw [ey_rI p3.1 (PH_no (by omega) (by omega))]; exact Ne_h hwr r2.2
    have on := u_list (wi := wi) (g := g) (is := !so) (so := so) hN.1 p4 (show D < 64 by omega) (by rw [k1]; exact h88) (show b + k0 < 12000 by omega) n76
    rw [u_next_l hN.1 p4 (by omega) (by omega) (by rw [k3]; exact h90) n79 (by omega) (by omega) nE] at on
    have eN : HR D q N (wI N 90 D (nI (p + sz l + fs r))) := ⟨ey_wI Ey.rf (by unfold PH; omega), fun j hj => ⟨by rw [rI_wI, if_neg (by omega)], by rw [rI_wI, if_neg (by omega)], by rw [rI_wI, if_neg (by omega)]⟩, fun j _ => by rw [rI_wI, if_neg (by omega)], by rw [rI_wI, if_neg (by omega)]⟩
    have R := (p3.le (show D ≤ D + 1 by omega) (Nat.le_refl q)).tr eN
    refine ⟨wI N 90 D (nI (p + sz l + fs r)), ?_, R, HW_ey R.1 h, HQ_ey R.1 (fun c k h1 h2 => PH_no h1 h2) ⟨r1.2, r2.2⟩, fun j hj => by rw [R.2.2.1 j hj]; exact he j hj, by rw [rI_wI, if_neg (by omega)]; exact p4, by rw [rI_wI, if_neg (by omega)]; exact p5, by rw [rI_wI, if_neg (by omega), k1]; exact h88, by rw [rI_wI, if_neg (by omega)]; exact n76, by rw [rI_wI, if_neg (by omega), n79, Nat.add_assoc], by rw [rI_wI, if_pos ⟨rfl, rfl⟩]⟩
    rw [p2, hv', hC_on on]
  by_cases hv : (ev (ws wi) so env q l).1 = so
  · rw [if_pos hv]
    refine ⟨fun hc => ?_, fun hc hF => (I F).2 hc hF⟩
    have hc : n + (ev (ws wi) so env q l).2 ≤ 100000 := hc
    obtain ⟨g, N, p1, p2, p3, p4, p5⟩ := (I F).1 hc
    obtain ⟨g, rfl⟩ : ∃ g', g = g' + 1 := ⟨g - 1, by omega⟩
    have hN := HW_ey p3.1 h
    obtain ⟨k1, k2, k3⟩ := p3.2.1 D (by omega)
    have up := hb_up (s := s) (wi := wi) (b := b) (F := F) (g := g) (p := p) (n := n) (q := q) (c := 0) (is := so) (so := so) hN.1 p4 (by omega) (by rw [k1]; exact h88) (by omega) (by rw [ey_rI p3.1 (PH_no (by omega) (by omega))]; exact h76) (Or.inl rfl)
    rw [hv] at p2
    exact ⟨g, wI N 65 38 (nI D), by omega, by rw [p2, up], (p3.le (by omega) (Nat.le_refl _)).tr hr_deep, by rw [rI_wI, if_pos ⟨rfl, rfl⟩], by rw [rI_wI, if_neg (by omega)]; exact p5⟩
  · rw [if_neg hv]
    refine ⟨fun hc => ?_, fun hc hF => ?_⟩
    · have hc : n + ((ev (ws wi) so env q l).2 + (ev (ws wi) so env q r).2) ≤ 100000 := hc
      obtain ⟨M1, m1, m2, m3, m4, m5, m6, m7, m8, m9, m10, m11⟩ := mid (by omega) hv (F + (ev (ws wi) so env q r).2)
      obtain ⟨g, N, p1, p2, p3, p4, p5⟩ := (ih2 so env D (p + sz l) (n + (ev (ws wi) so env q l).2) F k0 M1 m3 m4 (by omega) (by omega) m5 he6 m6 m7 (by omega) m8 hk0 m9 m10 m11).1 (by omega)
      refine ⟨g, N, by omega, ?_, m2.tr p3, p4, by rw [p5, Nat.add_assoc]⟩
      show l_X12_holds_37 (F + ((ev (ws wi) so env q l).2 + (ev (ws wi) so env q r).2)) 65 (nI s) (nI wi) (nI b) (nI p) M = _
      rw [show F + ((ev (ws wi) so env q l).2 + (ev (ws wi) so env q r).2) = F + (ev (ws wi) so env q r).2 + (ev (ws wi) so env q l).2 by omega, m1, p2]
    · have hc : 100000 < n + ((ev (ws wi) so env q l).2 + (ev (ws wi) so env q r).2) := hc
      by_cases hl : n + (ev (ws wi) so env q l).2 ≤ 100000
      · obtain ⟨F, rfl⟩ : ∃ F', F = F' + (ev (ws wi) so env q l).2 := ⟨F - (ev (ws wi) so env q l).2, by omega⟩
        obtain ⟨M1, m1, m2, m3, m4, m5, m6, m7, m8, m9, m10, m11⟩ := mid hl hv F
        obtain ⟨N, p1, p2, p3⟩ := (ih2 so env D (p + sz l) (n + (ev (ws wi) so env q l).2) F k0 M1 m3 m4 (by omega) (by omega) m5 he6 m6 m7 hl m8 hk0 m9 m10 m11).2 (by omega) (by omega)
        exact ⟨N, m1.trans p1, m2.1.tr p2, p3.trans m2.2.2.2⟩
      · exact (I F).2 (by omega) hF
end HC
