/-! ASKING: the reference's holds, quantifiers; the whole of it. -/
section HE
variable {ws : Nat → Wd} {s wi b : Nat}
theorem hq_loop (hf : WF ws) (hw : wi < 6) (hb : b = 600 * s) (hs : s < 20) {q D p : Nat} {l : Fm} (hq : q < 8) (hp : p + 1 + sz l ≤ 600) (hdp : D + 1 + dp l ≤ 60) (ih : HP ws s wi b (q + 1) l) {so so' : Bool} {env : Nat → Nat} (he6 : ∀ j, env j < 6) :
    ∀ (m t n : Nat) (M : jM), t + (m + 1) = (ws wi).1 → HW ws M → HQ b M (p + 1) (q + 1) l → (∀ j, j < q → rI M 92 j = nI (env (j + 1))) → rI M 92 q = nI t → rI M 65 38 = nI (D + 1) → rI M 65 45 = nI n → n ≤ 100000 → rI M 88 D = nI p → rI M 89 D = nI t → rI M 76 (b + p) = nI (if so' = true then 3 else 2) → rI M 77 (b + p) = nI q → ∀ F,
    (n + (lpq (fun t => ev (ws wi) so (up1 env (q + 1) t) (q + 1) l) so' (m + 1) t).2 ≤ 100000 → ∃ g N, jF0 ≤ g + dp l + 1 ∧ l_X12_holds_37 (F + (lpq (fun t => ev (ws wi) so (up1 env (q + 1) t) (q + 1) l) so' (m + 1) t).2) 65 (nI s) (nI wi) (nI b) (nI (p + 1)) M = hC s wi b F g (lpq (fun t => ev (ws wi) so (up1 env (q + 1) t) (q + 1) l) so' (m + 1) t).1 N ∧ HR D q M N ∧ rI N 65 38 = nI D ∧ rI N 65 45 = nI (n + (lpq (fun t => ev (ws wi) so (up1 env (q + 1) t) (q + 1) l) so' (m + 1) t).2)) ∧
    (100000 < n + (lpq (fun t => ev (ws wi) so (up1 env (q + 1) t) (q + 1) l) so' (m + 1) t).2 → 100001 ≤ F + n → ∃ N, l_X12_holds_37 F 65 (nI s) (nI wi) (nI b) (nI (p + 1)) M = some (-6, N) ∧ Ey PH M N ∧ rI N 65 44 = rI M 65 44) := by
  have h6 := (hf wi).1
  have hz := sz_pos l
  obtain ⟨n0, hn0⟩ := jF_is
  intro m
  induction m with
  | zero =>
    intro t n M ht h hQ he hth hd hn h1 h88 h89 h76 h77 F
    have I := ih so (up1 env (q + 1) t) (D + 1) (p + 1) n F M h hQ (by omega) (by omega) (fun j hj => by
      unfold up1
      by_cases hjq : j = q
      · rw [hjq, if_pos rfl]; exact hth
      · rw [if_neg (by omega)]; exact he j (by omega)) (fun j => by unfold up1; split; omega; exact he6 j) hd hn h1
    simp only [lpq]
    have hX : (if (ev (ws wi) so (up1 env (q + 1) t) (q + 1) l).1 = so' then (so', (ev (ws wi) so (up1 env (q + 1) t) (q + 1) l).2) else (!so', (ev (ws wi) so (up1 env (q + 1) t) (q + 1) l).2 + 0)) = ev (ws wi) so (up1 env (q + 1) t) (q + 1) l := by
      generalize ev (ws wi) so (up1 env (q + 1) t) (q + 1) l = z
      obtain ⟨z1, z2⟩ := z
      cases z1 <;> cases so' <;> rfl
    rw [hX]
    refine ⟨fun hc => ?_, fun hc hF => I.2 hc hF⟩
    obtain ⟨g, N, p1, p2, p3, p4, p5⟩ := I.1 hc
    obtain ⟨g, rfl⟩ : ∃ g', g = g' + 1 := ⟨g - 1, by omega⟩
    have hN := HW_ey p3.1 h
    obtain ⟨k1, k2, k3⟩ := p3.2.1 D (by omega)
    have n76 : rI N 76 (b + p) = nI (if so' = true then 3 else 2) := by rw [ey_rI p3.1 (PH_no (by omega) (by omega))]; exact h76
    have up : hC s wi b F (g + 1) (ev (ws wi) so (up1 env (q + 1) t) (q + 1) l).1 N = hC s wi b F g (ev (ws wi) so (up1 env (q + 1) t) (q + 1) l).1 (wI N 65 38 (nI D)) := by
      refine hC_up ?_
      rw [u_quant hN.1 p4 (by omega) (by rw [k1]; exact h88) (by omega) n76]
      by_cases hv : (ev (ws wi) so (up1 env (q + 1) t) (q + 1) l).1 = so'
      · rw [hv]; exact u_pop_q hN.1 p4
      · have hv' : (ev (ws wi) so (up1 env (q + 1) t) (q + 1) l).1 = !so' := by revert hv; cases (ev (ws wi) so (up1 env (q + 1) t) (q + 1) l).1 <;> cases so' <;> simp
        rw [hv']
        exact u_end_q hN.1 hN.2 hf hw p4 (by omega) (by rw [k2]; exact h89) (by omega)
    exact ⟨g, wI N 65 38 (nI D), by omega, by rw [p2, up], (p3.le (by omega) (by omega)).tr hr_deep, by rw [rI_wI, if_pos ⟨rfl, rfl⟩], by rw [rI_wI, if_neg (by omega)]; exact p5⟩
  | succ m IH =>
    intro t n M ht h hQ he hth hd hn h1 h88 h89 h76 h77 F
    have I := fun F => ih so (up1 env (q + 1) t) (D + 1) (p + 1) n F M h hQ (by omega) (by omega) (fun j hj => by
      unfold up1
      by_cases hjq : j = q
      · rw [hjq, if_pos rfl]; exact hth
      · rw [if_neg (by omega)]; exact he j (by omega)) (fun j => by unfold up1; split; omega; exact he6 j) hd hn h1
    rw [lpq]
    have mid : n + (ev (ws wi) so (up1 env (q + 1) t) (q + 1) l).2 ≤ 100000 → ¬ (ev (ws wi) so (up1 env (q + 1) t) (q + 1) l).1 = so' → ∀ F, ∃ M1, l_X12_holds_37 (F + (ev (ws wi) so (up1 env (q + 1) t) (q + 1) l).2) 65 (nI s) (nI wi) (nI b) (nI (p + 1)) M = l_X12_holds_37 F 65 (nI s) (nI wi) (nI b) (nI (p + 1)) M1 ∧ HR D q M M1 ∧ rI M1 92 q = nI (t + 1) ∧ rI M1 65 38 = nI (D + 1) ∧ rI M1 65 45 = nI (n + (ev (ws wi) so (up1 env (q + 1) t) (q + 1) l).2) ∧ rI M1 88 D = nI p ∧ rI M1 89 D = nI (t + 1) := by
      intro hc hv F
      obtain ⟨g, N, p1, p2, p3, p4, p5⟩ := (I F).1 hc
      obtain ⟨g, rfl⟩ : ∃ g', g = g' + 1 := ⟨g - 1, by omega⟩
      have hN := HW_ey p3.1 h
      obtain ⟨k1, k2, k3⟩ := p3.2.1 D (by omega)
      have hv' : (ev (ws wi) so (up1 env (q + 1) t) (q + 1) l).1 = !so' := by revert hv; cases (ev (ws wi) so (up1 env (q + 1) t) (q + 1) l).1 <;> cases so' <;> simp
      have n76 : rI N 76 (b + p) = nI (if so' = true then 3 else 2) := by rw [ey_rI p3.1 (PH_no (by omega) (by omega))]; exact h76
      have n77 : rI N 77 (b + p) = nI q := by rw [ey_rI p3.1 (PH_no (by omega) (by omega))]; exact h77
      have on := u_quant (wi := wi) (g := g) (is := !so') (so := so') hN.1 p4 (show D < 64 by omega) (by rw [k1]; exact h88) (show b + p < 12000 by omega) n76
      rw [u_next_q hN.1 hN.2 hf hw p4 (by omega) (by rw [k2]; exact h89) (by omega) (by omega) n77 (by omega)] at on
      have eN : HR D q N (wI (wI N 89 D (nI (t + 1))) 92 q (nI (t + 1))) := ⟨ey_wI (ey_wI Ey.rf (by unfold PH; omega)) (by unfold PH; omega), fun j hj => ⟨by rw [rI_wI, if_neg (by omega), rI_wI, if_neg (by omega)], by rw [rI_wI, if_neg (by omega), rI_wI, if_neg (by omega)], by rw [rI_wI, if_neg (by omega), rI_wI, if_neg (by omega)]⟩, fun j hj => by rw [rI_wI, if_neg (by omega), rI_wI, if_neg (by omega)], by rw [rI_wI, if_neg (by omega), rI_wI, if_neg (by omega)]⟩
      refine ⟨_, by rw [p2, hv', hC_on on], (p3.le (show D ≤ D + 1 by omega) (show q ≤ q + 1 by omega)).tr eN, by rw [rI_wI, if_pos ⟨rfl, rfl⟩], by rw [rI_wI, if_neg (by omega), rI_wI, if_neg (by omega)]; exact p4, by rw [rI_wI, if_neg (by omega), rI_wI, if_neg (by omega)]; exact p5, by rw [rI_wI, if_neg (by omega), rI_wI, if_neg (by omega), k1]; exact h88, by rw [rI_wI, if_neg (by omega), rI_wI, if_pos ⟨rfl, rfl⟩]⟩
    by_cases hv : (ev (ws wi) so (up1 env (q + 1) t) (q + 1) l).1 = so'
    · rw [if_pos hv]
      refine ⟨fun hc => ?_, fun hc hF => (I F).2 hc hF⟩
      have hc : n + (ev (ws wi) so (up1 env (q + 1) t) (q + 1) l).2 ≤ 100000 := hc
      obtain ⟨g, N, p1, p2, p3, p4, p5⟩ := (I F).1 hc
      obtain ⟨g, rfl⟩ : ∃ g', g = g' + 1 := ⟨g - 1, by omega⟩
      have hN := HW_ey p3.1 h
      obtain ⟨k1, k2, k3⟩ := p3.2.1 D (by omega)
      have n76 : rI N 76 (b + p) = nI (if so' = true then 3 else 2) := by rw [ey_rI p3.1 (PH_no (by omega) (by omega))]; exact h76
      have up : hC s wi b F (g + 1) so' N = hC s wi b F g so' (wI N 65 38 (nI D)) := by
        refine hC_up ?_
        rw [u_quant hN.1 p4 (by omega) (by rw [k1]; exact h88) (by omega) n76]
        exact u_pop_q hN.1 p4
      rw [hv] at p2
      exact ⟨g, wI N 65 38 (nI D), by omega, by rw [p2, up], (p3.le (by omega) (by omega)).tr hr_deep, by rw [rI_wI, if_pos ⟨rfl, rfl⟩], by rw [rI_wI, if_neg (by omega)]; exact p5⟩
    · rw [if_neg hv]
      have nx : ∀ M1, HR D q M M1 → HW ws M1 ∧ HQ b M1 (p + 1) (q + 1) l ∧ (∀ j, j < q → rI M1 92 j = nI (env (j + 1))) ∧ rI M1 76 (b + p) = nI (if so' = true then 3 else 2) ∧ rI M1 77 (b + p) = nI q := fun M1 R => ⟨HW_ey R.1 h, HQ_ey R.1 (fun c k h1 h2 => PH_no h1 h2) hQ, fun j hj => by rw [R.2.2.1 j hj]; exact he j hj, by rw [ey_rI R.1 (PH_no (by omega) (by omega))]; exact h76, by rw [ey_rI R.1 (PH_no (by omega) (by omega))]; exact h77⟩
      generalize hY : lpq (fun t => ev (ws wi) so (up1 env (q + 1) t) (q + 1) l) so' (m + 1) (t + 1) = Y
      have IH' := IH (t + 1)
      rw [hY] at IH'
      generalize hc1 : (ev (ws wi) so (up1 env (q + 1) t) (q + 1) l).2 = c1 at *
      refine ⟨fun hc => ?_, fun hc hF => ?_⟩
      · have hc : n + (c1 + Y.2) ≤ 100000 := hc
        obtain ⟨M1, m1, m2, m3, m4, m5, m6, m7⟩ := mid (by omega) hv (F + Y.2)
        obtain ⟨a1, a2, a3, a4, a5⟩ := nx M1 m2
        obtain ⟨g, N, p1, p2, p3, p4, p5⟩ := (IH' (n + c1) M1 (by omega) a1 a2 a3 m3 m4 m5 (by omega) m6 m7 a4 a5 F).1 (by omega)
        refine ⟨g, N, by omega, ?_, m2.tr p3, p4, by rw [p5, Nat.add_assoc]⟩
        show l_X12_holds_37 (F + (c1 + Y.2)) 65 (nI s) (nI wi) (nI b) (nI (p + 1)) M = _
        rw [show F + (c1 + Y.2) = F + Y.2 + c1 by omega, m1, p2]
      · have hc : 100000 < n + (c1 + Y.2) := hc
        by_cases hl : n + c1 ≤ 100000
        · obtain ⟨F, rfl⟩ : ∃ F', F = F' + c1 := ⟨F - c1, by omega⟩
          obtain ⟨M1, m1, m2, m3, m4, m5, m6, m7⟩ := mid hl hv F
          obtain ⟨a1, a2, a3, a4, a5⟩ := nx M1 m2
          obtain ⟨N, p1, p2, p3⟩ := (IH' (n + c1) M1 (by omega) a1 a2 a3 m3 m4 m5 hl m6 m7 a4 a5 F).2 (by omega) (by omega)
          exact ⟨N, m1.trans p1, m2.1.tr p2, p3.trans m2.2.2.2⟩
        · exact (I F).2 (by omega) hF
theorem hp_quant (hf : WF ws) (hw : wi < 6) (h0 : 0 < (ws wi).1) (hb : b = 600 * s) (hs : s < 20) {q k : Nat} {l : Fm} (hk : k = 64 ∨ k = 63) (hq : q < 8) (hwl : wf 0 (q + 1) l) (ih : HP ws s wi b (q + 1) l) : HP ws s wi b q (.branch k l (.leaf 0)) := by
  intro so env D p n F M h hQ hp hdp he he6 hd hn h1
  have hz := sz_pos l
  rw [sz_u (by omega)] at hp
  rw [dp_u (by omega)] at hdp ⊢
  rw [ev_q hk]
  obtain ⟨r1, r2⟩ := hQ
  rw [Nr_q hk] at r1
  rw [Ne_u (by omega)] at r2
  have hK : (if k = 64 then 2 else 3) = (if decide (k = 63) = true then 3 else 2) := by rcases hk with rfl | rfl <;> rfl
  obtain ⟨m, hm⟩ : ∃ m, (ws wi).1 = m + 1 := ⟨(ws wi).1 - 1, by omega⟩
  by_cases hc1 : n + 1 ≤ 100000
  · have next : ∀ F, ∃ M1, l_X12_holds_37 (F + 1) 65 (nI s) (nI wi) (nI b) (nI p) M = l_X12_holds_37 F 65 (nI s) (nI wi) (nI b) (nI (p + 1)) M1 ∧ HR D q M M1 ∧ (∀ F, (n + 1 + (lpq (fun t => ev (ws wi) so (up1 env (q + 1) t) (q + 1) l) (decide (k = 63)) (m + 1) 0).2 ≤ 100000 → ∃ g N, jF0 ≤ g + dp l + 1 ∧ l_X12_holds_37 (F + (lpq (fun t => ev (ws wi) so (up1 env (q + 1) t) (q + 1) l) (decide (k = 63)) (m + 1) 0).2) 65 (nI s) (nI wi) (nI b) (nI (p + 1)) M1 = hC s wi b F g (lpq (fun t => ev (ws wi) so (up1 env (q + 1) t) (q + 1) l) (decide (k = 63)) (m + 1) 0).1 N ∧ HR D q M1 N ∧ rI N 65 38 = nI D ∧ rI N 65 45 = nI (n + 1 + (lpq (fun t => ev (ws wi) so (up1 env (q + 1) t) (q + 1) l) (decide (k = 63)) (m + 1) 0).2)) ∧ (100000 < n + 1 + (lpq (fun t => ev (ws wi) so (up1 env (q + 1) t) (q + 1) l) (decide (k = 63)) (m + 1) 0).2 → 100001 ≤ F + (n + 1) → ∃ N, l_X12_holds_37 F 65 (nI s) (nI wi) (nI b) (nI (p + 1)) M1 = some (-6, N) ∧ Ey PH M1 N ∧ rI N 65 44 = rI M1 65 44)) := by
      intro F
      obtain ⟨M1, d1, d2, d3, d4, d5, d6, d7, d8, d9, d10⟩ := h_down (wi := wi) (s := s) (F := F) h.1 (show b + 600 ≤ 12000 by omega) hd (show D < 64 by omega) hn hc1 (show p + 1 < 600 by omega) r1.1.1 (by split <;> decide) (Ne_0 hwl r2.2) r1.1.2.1 (fun _ => by omega)
      have hKq : (if k = 64 then 2 else 3) = 2 ∨ (if k = 64 then 2 else 3) = 3 := by split; exact Or.inl rfl; exact Or.inr rfl
      have e92 : ∀ j, j < q → rI M1 92 j = rI M 92 j := fun j hj => by rw [d9 j, if_neg (by omega)]
      refine ⟨M1, d1, ⟨d2, d8, e92, d10⟩, fun F => ?_⟩
      exact hq_loop hf hw hb hs hq (by omega) (by omega) ih he6 m 0 (n + 1) M1 (by omega) (HW_ey d2 h) (HQ_ey d2 (fun c k h1 h2 => PH_no h1 h2) ⟨r1.2, r2.2⟩) (fun j hj => by rw [e92 j hj]; exact he j hj) (by rw [d9 q, if_pos ⟨hKq, rfl⟩]) d3 d4 hc1 d5 d6 (by rw [ey_rI d2 (PH_no (by omega) (by omega)), ← hK]; exact r1.1.1) (by rw [ey_rI d2 (PH_no (by omega) (by omega))]; exact r1.1.2.1) F
    rw [hm]
    generalize hY : lpq (fun t => ev (ws wi) so (up1 env (q + 1) t) (q + 1) l) (decide (k = 63)) (m + 1) 0 = Y at *
    constructor
    · intro hc
      have hc : n + (Y.2 + 1) ≤ 100000 := hc
      obtain ⟨M1, d1, d2, d3⟩ := next (F + Y.2)
      obtain ⟨g, N, p1, p2, p3, p4, p5⟩ := (d3 F).1 (by omega)
      refine ⟨g, N, by omega, ?_, d2.tr p3, p4, by rw [p5, show n + 1 + Y.2 = n + (Y.2 + 1) by omega]⟩
      show l_X12_holds_37 (F + (Y.2 + 1)) 65 (nI s) (nI wi) (nI b) (nI p) M = _
      rw [show F + (Y.2 + 1) = F + Y.2 + 1 by omega, d1, p2]
    · intro hc hF
      have hc : 100000 < n + (Y.2 + 1) := hc
      obtain ⟨F, rfl⟩ : ∃ F', F = F' + 1 := ⟨F - 1, by omega⟩
      obtain ⟨M1, d1, d2, d3⟩ := next F
      obtain ⟨N, p1, p2, p3⟩ := (d3 F).2 (by omega) (by omega)
      exact ⟨N, d1.trans p1, d2.1.tr p2, p3.trans d2.2.2.2⟩
  · constructor
    · intro hc
      have hc : n + (_ + 1) ≤ 100000 := hc
      omega
    · intro _ hF
      obtain ⟨F, rfl⟩ : ∃ F', F = F' + 1 := ⟨F - 1, by omega⟩
      exact ⟨_, h_spent h.1 hn (by omega) (by omega), ey_wI Ey.rf (by unfold PH; omega), by rw [rI_wI, if_neg (by omega)]⟩
theorem hp_all (hf : WF ws) (hw : wi < 6) (h0 : 0 < (ws wi).1) (hb : b = 600 * s) (hs : s < 20) : ∀ f q, (wf 0 q f → HP ws s wi b q f) ∧ (wf 1 q f → HB ws s wi b q f) :=
  fm_ind (P := HP ws s wi b) (B := HB ws s wi b) (fun q c h1 h2 => hp_atom hf hw hb hs h1 h2) (fun q l hl ih => hp_not hb hs hl ih) (fun q k l hk hq hl ih => hp_quant hf hw h0 hb hs hk hq hl ih) (fun q k l hk hl ih => hp_list hb hs hk hl ih) (fun q f h ih => hb_one hb hs h ih) (fun q l r h h2 ih ih2 => hb_cons hb hs h h2 ih ih2)
/-- the loop from the first node on -/
theorem m_ask (hf : WF ws) (hw : wi < 6) (h0 : 0 < (ws wi).1) (hs : s < 20) {f : Fm} (hwf : wf 0 0 f) (hsz : sz f ≤ 600) (hdp : dp f ≤ 30) {M : jM} (h : HW ws M) (hQ : HQ (600 * s) M 0 0 f) {z : Nat} (hz : rI M 65 44 = nI z) (hd : rI M 65 38 = nI 0) (hn : rI M 65 45 = nI 0) :
    ∃ N, l_X12_holds_37 jF0 65 (nI s) (nI wi) (nI (600 * s)) (nI 0) M = some ((sp_ask (ws wi) f z).1, N) ∧ rI N 65 44 = nI (sp_ask (ws wi) f z).2 ∧ Ey PH M N := by
  obtain ⟨n0, hn0⟩ := jF_is
  have I := fun F => (hp_all hf hw h0 (rfl : 600 * s = 600 * s) hs f 0).1 hwf false (fun _ => 0) 0 0 0 F M h hQ (by omega) (by omega) (fun j hj => absurd hj (Nat.not_lt_zero j)) (fun _ => by decide) hd hn (Nat.zero_le _)
  unfold sp_ask
  by_cases hc : (ev (ws wi) false (fun _ => 0) 0 f).2 ≤ 100000
  · rw [if_pos hc]
    obtain ⟨F, hF⟩ : ∃ F, jF0 = F + 1 + (ev (ws wi) false (fun _ => 0) 0 f).2 := ⟨jF0 - (ev (ws wi) false (fun _ => 0) 0 f).2 - 1, by omega⟩
    obtain ⟨g, N, p1, p2, p3, p4, p5⟩ := (I (F + 1)).1 (by omega)
    obtain ⟨g, rfl⟩ : ∃ g', g = g' + 1 := ⟨g - 1, by omega⟩
    have hN := HW_ey p3.1 h
    rw [Nat.zero_add] at p5
    have e1 : Ey PH M (wI N 65 47 (bI (ev (ws wi) false (fun _ => 0) 0 f).1)) := ey_wI p3.1 (by unfold PH; omega)
    have inn : l_X12_nextAsked_10 (g + 1) 65 (nI wi) (nI (600 * s)) (bI (ev (ws wi) false (fun _ => 0) 0 f).1) N = some (-1, wI N 65 47 (bI (ev (ws wi) false (fun _ => 0) 0 f).1)) := by
      show b_X12_nextAsked_10 (l_X12_nextAsked_10 g) 65 (nI wi) (nI (600 * s)) (bI (ev (ws wi) false (fun _ => 0) 0 f).1) N = _
      unfold b_X12_nextAsked_10
      rw [gI_n (t65 hN.1), Option.bind_some, p4, if_pos (by decide), pZ_b (t65 hN.1), Option.bind_some]
      rfl
    rw [hF, p2]
    unfold hC
    rw [inn, jb2_some]
    show ∃ N', b_X12_holds_37 (l_X12_holds_37 F) 65 (nI s) (nI wi) (nI (600 * s)) (-1) _ = _ ∧ _
    unfold b_X12_holds_37
    have e2 : Ey PH M (wI (wI N 65 47 (bI (ev (ws wi) false (fun _ => 0) 0 f).1)) 65 44 (nI (ev (ws wi) false (fun _ => 0) 0 f).2)) := ey_wI e1 (by unfold PH; omega)
    rw [if_pos (by decide), gI_n (t65 (Sh_ey e1 h.1)), Option.bind_some, rI_wI, if_neg (by omega), p5, pI_n (t65 (Sh_ey e1 h.1)), Option.bind_some, gI_n (t65 (Sh_ey e2 h.1)), Option.bind_some, show rI (wI (wI N 65 47 (bI (ev (ws wi) false (fun _ => 0) 0 f).1)) 65 44 (nI (ev (ws wi) false (fun _ => 0) 0 f).2)) 65 47 = bI (ev (ws wi) false (fun _ => 0) 0 f).1 by rw [rI_wI, if_neg (by omega), rI_wI, if_pos ⟨rfl, rfl⟩]]
    refine ⟨wI (wI N 65 47 (bI (ev (ws wi) false (fun _ => 0) 0 f).1)) 65 44 (nI (ev (ws wi) false (fun _ => 0) 0 f).2), ?_, by rw [rI_wI, if_pos ⟨rfl, rfl⟩], e2⟩
    cases (ev (ws wi) false (fun _ => 0) 0 f).1 <;> rfl
  · rw [if_neg hc]
    obtain ⟨N, p1, p2, p3⟩ := (I jF0).2 (by omega) (by omega)
    exact ⟨N, p1, by rw [p3]; exact hz, p2⟩
end HE
