/-! THE LAW: each call, on both. -/
def PxN (c _k : Nat) : Prop := c = 0 ∧ c = 1
def PxA (c _k : Nat) : Prop := CXA c
def PxM (c _k : Nat) : Prop := cM 6 c
def PxB (c _k : Nat) : Prop := CB c
def PxF (c _k : Nat) : Prop := CF c
def PxC (c _k : Nat) : Prop := C3 c
def PxS (c _k : Nat) : Prop := c = 46
def PxT (c _k : Nat) : Prop := CT c
def PxH (c _k : Nat) : Prop := CA c
def PyA (c _k : Nat) : Prop := CMA c
def PyP (c k : Nat) : Prop := c = 65 ∧ (k = 15 ∨ k = 16 ∨ k = 10)
theorem jsl_el {C : Nat → Prop} {M N : jM} (e : El C M N) : jsl N = jsl M := by obtain ⟨l, h⟩ := e; unfold jsl; rw [h.1]; rfl
theorem jsl_ez {P : Nat → Nat → Prop} {M N : jM} (e : Ez P M N) : jsl N = jsl M := by obtain ⟨l, h⟩ := e; unfold jsl; rw [h.1]; rfl
theorem upw_67 {ws : Nat → Wd} {j : Nat} {u : Wd} (h : j < 6) : upw ws j u 6 = ws 6 ∧ upw ws j u 7 = ws 7 := ⟨by unfold upw; rw [if_neg (by omega)], by unfold upw; rw [if_neg (by omega)]⟩
theorem i6 {x : Int32} {j : Nat} (h : ixo x 6 = some j) : j < 6 := ((ixo_some (by decide)).mp h).1
section K67
variable {ws : Nat → Wd}
theorem k_world (x n : Int32) : (sp_world ws x n).2 6 = ws 6 ∧ (sp_world ws x n).2 7 = ws 7 := by
  unfold sp_world
  split
  · exact ⟨rfl, rfl⟩
  · rename_i j hj
    split
    · exact upw_67 (i6 hj)
    · exact ⟨rfl, rfl⟩
theorem k_mark (x t q v : Int32) : (sp_mark ws x t q v).2 6 = ws 6 ∧ (sp_mark ws x t q v).2 7 = ws 7 := by
  unfold sp_mark
  split
  · exact ⟨rfl, rfl⟩
  · rename_i j hj
    split
    · exact ⟨rfl, rfl⟩
    · split
      · exact ⟨rfl, rfl⟩
      · exact upw_67 (wok_some hj).1
theorem k_tie (x s t v : Int32) : (sp_tie ws x s t v).2 6 = ws 6 ∧ (sp_tie ws x s t v).2 7 = ws 7 := by
  unfold sp_tie
  split
  · exact ⟨rfl, rfl⟩
  · rename_i j hj
    split
    · exact ⟨rfl, rfl⟩
    · split
      · exact ⟨rfl, rfl⟩
      · exact upw_67 (wok_some hj).1
theorem k_turn (x s t y : Int32) : (sp_turn ws x s t y).2 6 = ws 6 ∧ (sp_turn ws x s t y).2 7 = ws 7 := by
  unfold sp_turn
  split
  · exact ⟨rfl, rfl⟩
  · split
    · exact ⟨rfl, rfl⟩
    · split
      · exact ⟨rfl, rfl⟩
      · split
        · exact ⟨rfl, rfl⟩
        · rename_i z hz
          exact upw_67 (i6 hz)
theorem k_join (x y z : Int32) : (sp_join ws x y z).2 6 = ws 6 ∧ (sp_join ws x y z).2 7 = ws 7 := by
  unfold sp_join
  split
  · exact ⟨rfl, rfl⟩
  · split
    · exact ⟨rfl, rfl⟩
    · split
      · exact ⟨rfl, rfl⟩
      · rename_i q hq
        split
        · exact upw_67 (i6 hq)
        · exact ⟨rfl, rfl⟩
theorem k_play (p : Pl) (x y k : Int32) : ∀ w, w < 6 → (sp_play ws p x y k).2.1 w = ws w := by
  intro w hw
  unfold sp_play
  split
  · rfl
  · split
    · rfl
    · split
      · rfl
      · dsimp only
        unfold upw
        rw [if_neg (by omega), if_neg (by omega)]
theorem sp_pick_pn {p : Pl} (h : PN ws p) (x t : Int32) : PN ws (sp_pick ws p x t).2 := by
  unfold sp_pick
  split
  · rename_i h1
    split
    · exact h
    · split
      · exact h
      · exact fun _ => h (by omega)
  · exact h
theorem sp_answer_pn {p : Pl} (h : PN ws p) (t : Int32) : PN ws (sp_answer ws p t).2 := by
  unfold sp_answer
  split
  · rename_i h1
    split
    · exact h
    · exact fun _ => h (by omega)
  · exact h
end K67
section STS
variable {L : Nat} {xs : Nat → Int32} {σ : St} {M : jM}
theorem st_world (x1 x2 : Int32) (I : INV L xs σ M) : STP L xs M (fun M => f_X11_world 1 x1 x2 M) (fun M => f_X12_world 65 x1 x2 M) := by
  obtain ⟨ws, p, d, e, t, S, z⟩ := σ
  obtain ⟨⟨wf, pi, pn, kd, cv, vt, sv⟩, b0, ⟨sx, js⟩, ⟨xa, xb, xf, xc, xt, xz⟩, mi0⟩ := I
  dsimp only at wf pi pn kd cv vt sv sx js xa xb xf xc xt xz
  have hS := b0.1
  obtain ⟨N, n1, n2, n3⟩ := x_world hS xa x1 x2
  have l1 : Lo PxA M N := Lo_ex n3 (D := PxA) (fun c k h => h)
  have hN : Sh N := Sh_ex n3 hS
  have sx1 : XS S N := XS_el (El.of n3) (by show ¬ PxA 1 0; unfold PxA CXA; omega) (fun c hc => by show ¬ PxA c 0; unfold PxA CXA; omega) sx
  have js1 : jsl N ≤ 100000 + 2000 * S.length := by rw [jsl_ex n3]; exact js
  obtain ⟨ma, mb, mf, mc, mt, mz, my⟩ := MI_c (σ := (ws, p, d, e, t, S, z)) l1 (fun c k h => by unfold PxA CXA at h; omega) sv.1 mi0
  dsimp only at ma mb mf mc mt mz my
  obtain ⟨O, o1, o2, o3⟩ := m_world hN ma x1 x2
  have l2 : Lo PyA N O := Lo_ex o3 (D := PyA) (fun c k h => h)
  have hO : Sh O := Sh_ex o3 hN
  have sx2 : XS S O := XS_el (El.of o3) (by show ¬ PyA 1 0; unfold PyA CMA; omega) (fun c hc => by show ¬ PyA c 0; unfold PyA CMA; omega) sx1
  have js2 : jsl O ≤ 100000 + 2000 * S.length := by rw [jsl_ex o3]; exact js1
  exact stp (σ' := ((sp_world ws x1 x2).2, p, d, e, t, S, z)) b0 n1 o1 ⟨sp_world_wf wf, PI_ws pi (k_world x1 x2).1 (k_world x1 x2).2, by unfold PN; dsimp only; rw [(k_world x1 x2).1, (k_world x1 x2).2]; exact pn, kd, cv, vt, sv⟩ l1 (fun c k h => by unfold PxA CXA at h; omega) hN l2 (fun c k h => by unfold PyA CMA at h; omega) hO ⟨sx2, js2⟩ ⟨n2, XB_ws (XB_lo l1 (fun c k c1 c2 => by unfold PxA CXA; omega) xb) (k_world x1 x2).1 (k_world x1 x2).2, XF_lo l1 (by unfold PxA CXA; omega) (fun k => by unfold PxA CXA; omega) xf, XC_lo l1 (fun k => by unfold PxA CXA; omega) (fun k => by unfold PxA CXA; omega) xc, XT_lo l1 (by unfold PxA CXA; omega) (fun k => by unfold PxA CXA; omega) xt, by rw [l1.2.2 _ _ (by decide) (by unfold PxA CXA; omega)]; exact xz⟩ ⟨o2, MB_lo l2 (fun c k c1 => by unfold PyA CMA; omega) mb, MF_lo l2 (by unfold PyA CMA; omega) (fun k => by unfold PyA CMA; omega) mf, MC_lo l2 (fun k k1 k2 => by unfold PyA CMA; omega) (fun k => by unfold PyA CMA; omega) mc, MT_lo l2 (by unfold PyA CMA; omega) (fun k => by unfold PyA CMA; omega) mt, MZ_lo l2 sv.1 (by unfold PyA CMA; omega) (fun c k c1 c2 => by unfold PyA CMA; omega) mz, by rw [l2.2.2 _ _ (by decide) (by unfold PyA CMA; omega)]; exact my⟩
theorem st_mark (x1 x2 x3 x4 : Int32) (I : INV L xs σ M) : STP L xs M (fun M => f_X11_mark 1 x1 x2 x3 x4 M) (fun M => f_X12_mark 65 x1 x2 x3 x4 M) := by
  obtain ⟨ws, p, d, e, t, S, z⟩ := σ
  obtain ⟨⟨wf, pi, pn, kd, cv, vt, sv⟩, b0, ⟨sx, js⟩, ⟨xa, xb, xf, xc, xt, xz⟩, mi0⟩ := I
  dsimp only at wf pi pn kd cv vt sv sx js xa xb xf xc xt xz
  have hS := b0.1
  obtain ⟨N, n1, n2, n3⟩ := x_mark hS xa wf x1 x2 x3 x4
  have l1 : Lo PxA M N := Lo_ex n3 (D := PxA) (fun c k h => h)
  have hN : Sh N := Sh_ex n3 hS
  have sx1 : XS S N := XS_el (El.of n3) (by show ¬ PxA 1 0; unfold PxA CXA; omega) (fun c hc => by show ¬ PxA c 0; unfold PxA CXA; omega) sx
  have js1 : jsl N ≤ 100000 + 2000 * S.length := by rw [jsl_ex n3]; exact js
  obtain ⟨ma, mb, mf, mc, mt, mz, my⟩ := MI_c (σ := (ws, p, d, e, t, S, z)) l1 (fun c k h => by unfold PxA CXA at h; omega) sv.1 mi0
  dsimp only at ma mb mf mc mt mz my
  obtain ⟨O, o1, o2, o3⟩ := m_mark hN ma wf x1 x2 x3 x4
  have l2 : Lo PyA N O := Lo_ex o3 (D := PyA) (fun c k h => h)
  have hO : Sh O := Sh_ex o3 hN
  have sx2 : XS S O := XS_el (El.of o3) (by show ¬ PyA 1 0; unfold PyA CMA; omega) (fun c hc => by show ¬ PyA c 0; unfold PyA CMA; omega) sx1
  have js2 : jsl O ≤ 100000 + 2000 * S.length := by rw [jsl_ex o3]; exact js1
  exact stp (σ' := ((sp_mark ws x1 x2 x3 x4).2, p, d, e, t, S, z)) b0 n1 o1 ⟨sp_mark_wf wf, PI_ws pi (k_mark x1 x2 x3 x4).1 (k_mark x1 x2 x3 x4).2, by unfold PN; dsimp only; rw [(k_mark x1 x2 x3 x4).1, (k_mark x1 x2 x3 x4).2]; exact pn, kd, cv, vt, sv⟩ l1 (fun c k h => by unfold PxA CXA at h; omega) hN l2 (fun c k h => by unfold PyA CMA at h; omega) hO ⟨sx2, js2⟩ ⟨n2, XB_ws (XB_lo l1 (fun c k c1 c2 => by unfold PxA CXA; omega) xb) (k_mark x1 x2 x3 x4).1 (k_mark x1 x2 x3 x4).2, XF_lo l1 (by unfold PxA CXA; omega) (fun k => by unfold PxA CXA; omega) xf, XC_lo l1 (fun k => by unfold PxA CXA; omega) (fun k => by unfold PxA CXA; omega) xc, XT_lo l1 (by unfold PxA CXA; omega) (fun k => by unfold PxA CXA; omega) xt, by rw [l1.2.2 _ _ (by decide) (by unfold PxA CXA; omega)]; exact xz⟩ ⟨o2, MB_lo l2 (fun c k c1 => by unfold PyA CMA; omega) mb, MF_lo l2 (by unfold PyA CMA; omega) (fun k => by unfold PyA CMA; omega) mf, MC_lo l2 (fun k k1 k2 => by unfold PyA CMA; omega) (fun k => by unfold PyA CMA; omega) mc, MT_lo l2 (by unfold PyA CMA; omega) (fun k => by unfold PyA CMA; omega) mt, MZ_lo l2 sv.1 (by unfold PyA CMA; omega) (fun c k c1 c2 => by unfold PyA CMA; omega) mz, by rw [l2.2.2 _ _ (by decide) (by unfold PyA CMA; omega)]; exact my⟩
theorem st_tie (x1 x2 x3 x4 : Int32) (I : INV L xs σ M) : STP L xs M (fun M => f_X11_tie 1 x1 x2 x3 x4 M) (fun M => f_X12_tie 65 x1 x2 x3 x4 M) := by
  obtain ⟨ws, p, d, e, t, S, z⟩ := σ
  obtain ⟨⟨wf, pi, pn, kd, cv, vt, sv⟩, b0, ⟨sx, js⟩, ⟨xa, xb, xf, xc, xt, xz⟩, mi0⟩ := I
  dsimp only at wf pi pn kd cv vt sv sx js xa xb xf xc xt xz
  have hS := b0.1
  obtain ⟨N, n1, n2, n3⟩ := x_tie hS xa wf x1 x2 x3 x4
  have l1 : Lo PxA M N := Lo_ex n3 (D := PxA) (fun c k h => h)
  have hN : Sh N := Sh_ex n3 hS
  have sx1 : XS S N := XS_el (El.of n3) (by show ¬ PxA 1 0; unfold PxA CXA; omega) (fun c hc => by show ¬ PxA c 0; unfold PxA CXA; omega) sx
  have js1 : jsl N ≤ 100000 + 2000 * S.length := by rw [jsl_ex n3]; exact js
  obtain ⟨ma, mb, mf, mc, mt, mz, my⟩ := MI_c (σ := (ws, p, d, e, t, S, z)) l1 (fun c k h => by unfold PxA CXA at h; omega) sv.1 mi0
  dsimp only at ma mb mf mc mt mz my
  obtain ⟨O, o1, o2, o3⟩ := m_tie hN ma wf x1 x2 x3 x4
  have l2 : Lo PyA N O := Lo_ex o3 (D := PyA) (fun c k h => h)
  have hO : Sh O := Sh_ex o3 hN
  have sx2 : XS S O := XS_el (El.of o3) (by show ¬ PyA 1 0; unfold PyA CMA; omega) (fun c hc => by show ¬ PyA c 0; unfold PyA CMA; omega) sx1
  have js2 : jsl O ≤ 100000 + 2000 * S.length := by rw [jsl_ex o3]; exact js1
  exact stp (σ' := ((sp_tie ws x1 x2 x3 x4).2, p, d, e, t, S, z)) b0 n1 o1 ⟨sp_tie_wf wf, PI_ws pi (k_tie x1 x2 x3 x4).1 (k_tie x1 x2 x3 x4).2, by unfold PN; dsimp only; rw [(k_tie x1 x2 x3 x4).1, (k_tie x1 x2 x3 x4).2]; exact pn, kd, cv, vt, sv⟩ l1 (fun c k h => by unfold PxA CXA at h; omega) hN l2 (fun c k h => by unfold PyA CMA at h; omega) hO ⟨sx2, js2⟩ ⟨n2, XB_ws (XB_lo l1 (fun c k c1 c2 => by unfold PxA CXA; omega) xb) (k_tie x1 x2 x3 x4).1 (k_tie x1 x2 x3 x4).2, XF_lo l1 (by unfold PxA CXA; omega) (fun k => by unfold PxA CXA; omega) xf, XC_lo l1 (fun k => by unfold PxA CXA; omega) (fun k => by unfold PxA CXA; omega) xc, XT_lo l1 (by unfold PxA CXA; omega) (fun k => by unfold PxA CXA; omega) xt, by rw [l1.2.2 _ _ (by decide) (by unfold PxA CXA; omega)]; exact xz⟩ ⟨o2, MB_lo l2 (fun c k c1 => by unfold PyA CMA; omega) mb, MF_lo l2 (by unfold PyA CMA; omega) (fun k => by unfold PyA CMA; omega) mf, MC_lo l2 (fun k k1 k2 => by unfold PyA CMA; omega) (fun k => by unfold PyA CMA; omega) mc, MT_lo l2 (by unfold PyA CMA; omega) (fun k => by unfold PyA CMA; omega) mt, MZ_lo l2 sv.1 (by unfold PyA CMA; omega) (fun c k c1 c2 => by unfold PyA CMA; omega) mz, by rw [l2.2.2 _ _ (by decide) (by unfold PyA CMA; omega)]; exact my⟩
theorem st_turn (x1 x2 x3 x4 : Int32) (I : INV L xs σ M) : STP L xs M (fun M => f_X11_turn 1 x1 x2 x3 x4 M) (fun M => f_X12_turn 65 x1 x2 x3 x4 M) := by
  obtain ⟨ws, p, d, e, t, S, z⟩ := σ
  obtain ⟨⟨wf, pi, pn, kd, cv, vt, sv⟩, b0, ⟨sx, js⟩, ⟨xa, xb, xf, xc, xt, xz⟩, mi0⟩ := I
  dsimp only at wf pi pn kd cv vt sv sx js xa xb xf xc xt xz
  have hS := b0.1
  obtain ⟨N, n1, n2, n3⟩ := x_turn hS xa wf x1 x2 x3 x4
  have l1 : Lo PxA M N := Lo_ex n3 (D := PxA) (fun c k h => h)
  have hN : Sh N := Sh_ex n3 hS
  have sx1 : XS S N := XS_el (El.of n3) (by show ¬ PxA 1 0; unfold PxA CXA; omega) (fun c hc => by show ¬ PxA c 0; unfold PxA CXA; omega) sx
  have js1 : jsl N ≤ 100000 + 2000 * S.length := by rw [jsl_ex n3]; exact js
  obtain ⟨ma, mb, mf, mc, mt, mz, my⟩ := MI_c (σ := (ws, p, d, e, t, S, z)) l1 (fun c k h => by unfold PxA CXA at h; omega) sv.1 mi0
  dsimp only at ma mb mf mc mt mz my
  obtain ⟨O, o1, o2, o3⟩ := m_turn hN ma wf x1 x2 x3 x4
  have l2 : Lo PyA N O := Lo_ex o3 (D := PyA) (fun c k h => h)
  have hO : Sh O := Sh_ex o3 hN
  have sx2 : XS S O := XS_el (El.of o3) (by show ¬ PyA 1 0; unfold PyA CMA; omega) (fun c hc => by show ¬ PyA c 0; unfold PyA CMA; omega) sx1
  have js2 : jsl O ≤ 100000 + 2000 * S.length := by rw [jsl_ex o3]; exact js1
  exact stp (σ' := ((sp_turn ws x1 x2 x3 x4).2, p, d, e, t, S, z)) b0 n1 o1 ⟨sp_turn_wf wf, PI_ws pi (k_turn x1 x2 x3 x4).1 (k_turn x1 x2 x3 x4).2, by unfold PN; dsimp only; rw [(k_turn x1 x2 x3 x4).1, (k_turn x1 x2 x3 x4).2]; exact pn, kd, cv, vt, sv⟩ l1 (fun c k h => by unfold PxA CXA at h; omega) hN l2 (fun c k h => by unfold PyA CMA at h; omega) hO ⟨sx2, js2⟩ ⟨n2, XB_ws (XB_lo l1 (fun c k c1 c2 => by unfold PxA CXA; omega) xb) (k_turn x1 x2 x3 x4).1 (k_turn x1 x2 x3 x4).2, XF_lo l1 (by unfold PxA CXA; omega) (fun k => by unfold PxA CXA; omega) xf, XC_lo l1 (fun k => by unfold PxA CXA; omega) (fun k => by unfold PxA CXA; omega) xc, XT_lo l1 (by unfold PxA CXA; omega) (fun k => by unfold PxA CXA; omega) xt, by rw [l1.2.2 _ _ (by decide) (by unfold PxA CXA; omega)]; exact xz⟩ ⟨o2, MB_lo l2 (fun c k c1 => by unfold PyA CMA; omega) mb, MF_lo l2 (by unfold PyA CMA; omega) (fun k => by unfold PyA CMA; omega) mf, MC_lo l2 (fun k k1 k2 => by unfold PyA CMA; omega) (fun k => by unfold PyA CMA; omega) mc, MT_lo l2 (by unfold PyA CMA; omega) (fun k => by unfold PyA CMA; omega) mt, MZ_lo l2 sv.1 (by unfold PyA CMA; omega) (fun c k c1 c2 => by unfold PyA CMA; omega) mz, by rw [l2.2.2 _ _ (by decide) (by unfold PyA CMA; omega)]; exact my⟩
theorem st_join (x1 x2 x3 : Int32) (I : INV L xs σ M) : STP L xs M (fun M => f_X11_join 1 x1 x2 x3 M) (fun M => f_X12_join 65 x1 x2 x3 M) := by
  obtain ⟨ws, p, d, e, t, S, z⟩ := σ
  obtain ⟨⟨wf, pi, pn, kd, cv, vt, sv⟩, b0, ⟨sx, js⟩, ⟨xa, xb, xf, xc, xt, xz⟩, mi0⟩ := I
  dsimp only at wf pi pn kd cv vt sv sx js xa xb xf xc xt xz
  have hS := b0.1
  obtain ⟨N, n1, n2, n3⟩ := x_join hS xa wf x1 x2 x3
  have l1 : Lo PxA M N := Lo_ex n3 (D := PxA) (fun c k h => h)
  have hN : Sh N := Sh_ex n3 hS
  have sx1 : XS S N := XS_el (El.of n3) (by show ¬ PxA 1 0; unfold PxA CXA; omega) (fun c hc => by show ¬ PxA c 0; unfold PxA CXA; omega) sx
  have js1 : jsl N ≤ 100000 + 2000 * S.length := by rw [jsl_ex n3]; exact js
  obtain ⟨ma, mb, mf, mc, mt, mz, my⟩ := MI_c (σ := (ws, p, d, e, t, S, z)) l1 (fun c k h => by unfold PxA CXA at h; omega) sv.1 mi0
  dsimp only at ma mb mf mc mt mz my
  obtain ⟨O, o1, o2, o3⟩ := m_join hN ma wf x1 x2 x3
  have l2 : Lo PyA N O := Lo_ex o3 (D := PyA) (fun c k h => h)
  have hO : Sh O := Sh_ex o3 hN
  have sx2 : XS S O := XS_el (El.of o3) (by show ¬ PyA 1 0; unfold PyA CMA; omega) (fun c hc => by show ¬ PyA c 0; unfold PyA CMA; omega) sx1
  have js2 : jsl O ≤ 100000 + 2000 * S.length := by rw [jsl_ex o3]; exact js1
  exact stp (σ' := ((sp_join ws x1 x2 x3).2, p, d, e, t, S, z)) b0 n1 o1 ⟨sp_join_wf wf, PI_ws pi (k_join x1 x2 x3).1 (k_join x1 x2 x3).2, by unfold PN; dsimp only; rw [(k_join x1 x2 x3).1, (k_join x1 x2 x3).2]; exact pn, kd, cv, vt, sv⟩ l1 (fun c k h => by unfold PxA CXA at h; omega) hN l2 (fun c k h => by unfold PyA CMA at h; omega) hO ⟨sx2, js2⟩ ⟨n2, XB_ws (XB_lo l1 (fun c k c1 c2 => by unfold PxA CXA; omega) xb) (k_join x1 x2 x3).1 (k_join x1 x2 x3).2, XF_lo l1 (by unfold PxA CXA; omega) (fun k => by unfold PxA CXA; omega) xf, XC_lo l1 (fun k => by unfold PxA CXA; omega) (fun k => by unfold PxA CXA; omega) xc, XT_lo l1 (by unfold PxA CXA; omega) (fun k => by unfold PxA CXA; omega) xt, by rw [l1.2.2 _ _ (by decide) (by unfold PxA CXA; omega)]; exact xz⟩ ⟨o2, MB_lo l2 (fun c k c1 => by unfold PyA CMA; omega) mb, MF_lo l2 (by unfold PyA CMA; omega) (fun k => by unfold PyA CMA; omega) mf, MC_lo l2 (fun k k1 k2 => by unfold PyA CMA; omega) (fun k => by unfold PyA CMA; omega) mc, MT_lo l2 (by unfold PyA CMA; omega) (fun k => by unfold PyA CMA; omega) mt, MZ_lo l2 sv.1 (by unfold PyA CMA; omega) (fun c k c1 c2 => by unfold PyA CMA; omega) mz, by rw [l2.2.2 _ _ (by decide) (by unfold PyA CMA; omega)]; exact my⟩
theorem st_about (x1 x2 : Int32) (I : INV L xs σ M) : STP L xs M (fun M => f_X11_about 1 x1 x2 M) (fun M => f_X12_about 65 x1 x2 M) := by
  obtain ⟨ws, p, d, e, t, S, z⟩ := σ
  obtain ⟨⟨wf, pi, pn, kd, cv, vt, sv⟩, b0, ⟨sx, js⟩, ⟨xa, xb, xf, xc, xt, xz⟩, mi0⟩ := I
  dsimp only at wf pi pn kd cv vt sv sx js xa xb xf xc xt xz
  have hS := b0.1
  have n1 := x_about hS xa wf x1 x2
  have n3 : Ey PxN M M := Ey.rf
  have l1 : Lo PxN M M := Lo_ey n3 (C := PxN) (fun c k h => h)
  have hN : Sh M := Sh_ey n3 hS
  have sx1 : XS S M := XS_ez (Ez.of n3) (by unfold PxN; omega) (fun c k hc => by unfold PxN; omega) sx
  have js1 : jsl M ≤ 100000 + 2000 * S.length := by rw [jsl_ey n3]; exact js
  obtain ⟨ma, mb, mf, mc, mt, mz, my⟩ := MI_c (σ := (ws, p, d, e, t, S, z)) l1 (fun c k h => by unfold PxN at h; omega) sv.1 mi0
  dsimp only at ma mb mf mc mt mz my
  have o1 := m_about hN ma wf x1 x2
  have o3 : Ey PxN M M := Ey.rf
  have l2 : Lo PxN M M := Lo_ey o3 (C := PxN) (fun c k h => h)
  have hO : Sh M := Sh_ey o3 hN
  have sx2 : XS S M := XS_ez (Ez.of o3) (by unfold PxN; omega) (fun c k hc => by unfold PxN; omega) sx1
  have js2 : jsl M ≤ 100000 + 2000 * S.length := by rw [jsl_ey o3]; exact js1
  exact stp (σ' := (ws, p, d, e, t, S, z)) b0 n1 o1 ⟨wf, pi, pn, kd, cv, vt, sv⟩ l1 (fun c k h => by unfold PxN at h; omega) hN l2 (fun c k h => by unfold PxN at h; omega) hO ⟨sx2, js2⟩ ⟨XA_lo l1 (fun c k c1 c2 => by unfold PxN; omega) xa, XB_lo l1 (fun c k c1 c2 => by unfold PxN; omega) xb, XF_lo l1 (by unfold PxN; omega) (fun k => by unfold PxN; omega) xf, XC_lo l1 (fun k => by unfold PxN; omega) (fun k => by unfold PxN; omega) xc, XT_lo l1 (by unfold PxN; omega) (fun k => by unfold PxN; omega) xt, by rw [l1.2.2 _ _ (by decide) (by unfold PxN; omega)]; exact xz⟩ ⟨MA_lo l2 (fun c k c1 c2 => by unfold PxN; omega) ma, MB_lo l2 (fun c k c1 => by unfold PxN; omega) mb, MF_lo l2 (by unfold PxN; omega) (fun k => by unfold PxN; omega) mf, MC_lo l2 (fun k k1 k2 => by unfold PxN; omega) (fun k => by unfold PxN; omega) mc, MT_lo l2 (by unfold PxN; omega) (fun k => by unfold PxN; omega) mt, MZ_lo l2 sv.1 (by unfold PxN; omega) (fun c k c1 c2 => by unfold PxN; omega) mz, by rw [l2.2.2 _ _ (by decide) (by unfold PxN; omega)]; exact my⟩
theorem st_tied (x1 x2 x3 : Int32) (I : INV L xs σ M) : STP L xs M (fun M => f_X11_tied 1 x1 x2 x3 M) (fun M => f_X12_tied 65 x1 x2 x3 M) := by
  obtain ⟨ws, p, d, e, t, S, z⟩ := σ
  obtain ⟨⟨wf, pi, pn, kd, cv, vt, sv⟩, b0, ⟨sx, js⟩, ⟨xa, xb, xf, xc, xt, xz⟩, mi0⟩ := I
  dsimp only at wf pi pn kd cv vt sv sx js xa xb xf xc xt xz
  have hS := b0.1
  have n1 := x_tied hS xa wf x1 x2 x3
  have n3 : Ey PxN M M := Ey.rf
  have l1 : Lo PxN M M := Lo_ey n3 (C := PxN) (fun c k h => h)
  have hN : Sh M := Sh_ey n3 hS
  have sx1 : XS S M := XS_ez (Ez.of n3) (by unfold PxN; omega) (fun c k hc => by unfold PxN; omega) sx
  have js1 : jsl M ≤ 100000 + 2000 * S.length := by rw [jsl_ey n3]; exact js
  obtain ⟨ma, mb, mf, mc, mt, mz, my⟩ := MI_c (σ := (ws, p, d, e, t, S, z)) l1 (fun c k h => by unfold PxN at h; omega) sv.1 mi0
  dsimp only at ma mb mf mc mt mz my
  have o1 := m_tied hN ma wf x1 x2 x3
  have o3 : Ey PxN M M := Ey.rf
  have l2 : Lo PxN M M := Lo_ey o3 (C := PxN) (fun c k h => h)
  have hO : Sh M := Sh_ey o3 hN
  have sx2 : XS S M := XS_ez (Ez.of o3) (by unfold PxN; omega) (fun c k hc => by unfold PxN; omega) sx1
  have js2 : jsl M ≤ 100000 + 2000 * S.length := by rw [jsl_ey o3]; exact js1
  exact stp (σ' := (ws, p, d, e, t, S, z)) b0 n1 o1 ⟨wf, pi, pn, kd, cv, vt, sv⟩ l1 (fun c k h => by unfold PxN at h; omega) hN l2 (fun c k h => by unfold PxN at h; omega) hO ⟨sx2, js2⟩ ⟨XA_lo l1 (fun c k c1 c2 => by unfold PxN; omega) xa, XB_lo l1 (fun c k c1 c2 => by unfold PxN; omega) xb, XF_lo l1 (by unfold PxN; omega) (fun k => by unfold PxN; omega) xf, XC_lo l1 (fun k => by unfold PxN; omega) (fun k => by unfold PxN; omega) xc, XT_lo l1 (by unfold PxN; omega) (fun k => by unfold PxN; omega) xt, by rw [l1.2.2 _ _ (by decide) (by unfold PxN; omega)]; exact xz⟩ ⟨MA_lo l2 (fun c k c1 c2 => by unfold PxN; omega) ma, MB_lo l2 (fun c k c1 => by unfold PxN; omega) mb, MF_lo l2 (by unfold PxN; omega) (fun k => by unfold PxN; omega) mf, MC_lo l2 (fun k k1 k2 => by unfold PxN; omega) (fun k => by unfold PxN; omega) mc, MT_lo l2 (by unfold PxN; omega) (fun k => by unfold PxN; omega) mt, MZ_lo l2 sv.1 (by unfold PxN; omega) (fun c k c1 c2 => by unfold PxN; omega) mz, by rw [l2.2.2 _ _ (by decide) (by unfold PxN; omega)]; exact my⟩
theorem st_state (I : INV L xs σ M) : STP L xs M (fun M => f_X11_state 1  M) (fun M => f_X12_state 65  M) := by
  obtain ⟨ws, p, d, e, t, S, z⟩ := σ
  obtain ⟨⟨wf, pi, pn, kd, cv, vt, sv⟩, b0, ⟨sx, js⟩, ⟨xa, xb, xf, xc, xt, xz⟩, mi0⟩ := I
  dsimp only at wf pi pn kd cv vt sv sx js xa xb xf xc xt xz
  have hS := b0.1
  have n1 := x_state hS xb
  have n3 : Ey PxN M M := Ey.rf
  have l1 : Lo PxN M M := Lo_ey n3 (C := PxN) (fun c k h => h)
  have hN : Sh M := Sh_ey n3 hS
  have sx1 : XS S M := XS_ez (Ez.of n3) (by unfold PxN; omega) (fun c k hc => by unfold PxN; omega) sx
  have js1 : jsl M ≤ 100000 + 2000 * S.length := by rw [jsl_ey n3]; exact js
  obtain ⟨ma, mb, mf, mc, mt, mz, my⟩ := MI_c (σ := (ws, p, d, e, t, S, z)) l1 (fun c k h => by unfold PxN at h; omega) sv.1 mi0
  dsimp only at ma mb mf mc mt mz my
  have o1 := m_state hN mb
  have o3 : Ey PxN M M := Ey.rf
  have l2 : Lo PxN M M := Lo_ey o3 (C := PxN) (fun c k h => h)
  have hO : Sh M := Sh_ey o3 hN
  have sx2 : XS S M := XS_ez (Ez.of o3) (by unfold PxN; omega) (fun c k hc => by unfold PxN; omega) sx1
  have js2 : jsl M ≤ 100000 + 2000 * S.length := by rw [jsl_ey o3]; exact js1
  exact stp (σ' := (ws, p, d, e, t, S, z)) b0 n1 o1 ⟨wf, pi, pn, kd, cv, vt, sv⟩ l1 (fun c k h => by unfold PxN at h; omega) hN l2 (fun c k h => by unfold PxN at h; omega) hO ⟨sx2, js2⟩ ⟨XA_lo l1 (fun c k c1 c2 => by unfold PxN; omega) xa, XB_lo l1 (fun c k c1 c2 => by unfold PxN; omega) xb, XF_lo l1 (by unfold PxN; omega) (fun k => by unfold PxN; omega) xf, XC_lo l1 (fun k => by unfold PxN; omega) (fun k => by unfold PxN; omega) xc, XT_lo l1 (by unfold PxN; omega) (fun k => by unfold PxN; omega) xt, by rw [l1.2.2 _ _ (by decide) (by unfold PxN; omega)]; exact xz⟩ ⟨MA_lo l2 (fun c k c1 c2 => by unfold PxN; omega) ma, MB_lo l2 (fun c k c1 => by unfold PxN; omega) mb, MF_lo l2 (by unfold PxN; omega) (fun k => by unfold PxN; omega) mf, MC_lo l2 (fun k k1 k2 => by unfold PxN; omega) (fun k => by unfold PxN; omega) mc, MT_lo l2 (by unfold PxN; omega) (fun k => by unfold PxN; omega) mt, MZ_lo l2 sv.1 (by unfold PxN; omega) (fun c k c1 c2 => by unfold PxN; omega) mz, by rw [l2.2.2 _ _ (by decide) (by unfold PxN; omega)]; exact my⟩
theorem st_left (I : INV L xs σ M) : STP L xs M (fun M => f_X11_left 1  M) (fun M => f_X12_left 65  M) := by
  obtain ⟨ws, p, d, e, t, S, z⟩ := σ
  obtain ⟨⟨wf, pi, pn, kd, cv, vt, sv⟩, b0, ⟨sx, js⟩, ⟨xa, xb, xf, xc, xt, xz⟩, mi0⟩ := I
  dsimp only at wf pi pn kd cv vt sv sx js xa xb xf xc xt xz
  have hS := b0.1
  have n1 := x_left hS pi xb
  have n3 : Ey PxN M M := Ey.rf
  have l1 : Lo PxN M M := Lo_ey n3 (C := PxN) (fun c k h => h)
  have hN : Sh M := Sh_ey n3 hS
  have sx1 : XS S M := XS_ez (Ez.of n3) (by unfold PxN; omega) (fun c k hc => by unfold PxN; omega) sx
  have js1 : jsl M ≤ 100000 + 2000 * S.length := by rw [jsl_ey n3]; exact js
  obtain ⟨ma, mb, mf, mc, mt, mz, my⟩ := MI_c (σ := (ws, p, d, e, t, S, z)) l1 (fun c k h => by unfold PxN at h; omega) sv.1 mi0
  dsimp only at ma mb mf mc mt mz my
  have o1 := m_left hN pi mb
  have o3 : Ey PxN M M := Ey.rf
  have l2 : Lo PxN M M := Lo_ey o3 (C := PxN) (fun c k h => h)
  have hO : Sh M := Sh_ey o3 hN
  have sx2 : XS S M := XS_ez (Ez.of o3) (by unfold PxN; omega) (fun c k hc => by unfold PxN; omega) sx1
  have js2 : jsl M ≤ 100000 + 2000 * S.length := by rw [jsl_ey o3]; exact js1
  exact stp (σ' := (ws, p, d, e, t, S, z)) b0 n1 o1 ⟨wf, pi, pn, kd, cv, vt, sv⟩ l1 (fun c k h => by unfold PxN at h; omega) hN l2 (fun c k h => by unfold PxN at h; omega) hO ⟨sx2, js2⟩ ⟨XA_lo l1 (fun c k c1 c2 => by unfold PxN; omega) xa, XB_lo l1 (fun c k c1 c2 => by unfold PxN; omega) xb, XF_lo l1 (by unfold PxN; omega) (fun k => by unfold PxN; omega) xf, XC_lo l1 (fun k => by unfold PxN; omega) (fun k => by unfold PxN; omega) xc, XT_lo l1 (by unfold PxN; omega) (fun k => by unfold PxN; omega) xt, by rw [l1.2.2 _ _ (by decide) (by unfold PxN; omega)]; exact xz⟩ ⟨MA_lo l2 (fun c k c1 c2 => by unfold PxN; omega) ma, MB_lo l2 (fun c k c1 => by unfold PxN; omega) mb, MF_lo l2 (by unfold PxN; omega) (fun k => by unfold PxN; omega) mf, MC_lo l2 (fun k k1 k2 => by unfold PxN; omega) (fun k => by unfold PxN; omega) mc, MT_lo l2 (by unfold PxN; omega) (fun k => by unfold PxN; omega) mt, MZ_lo l2 sv.1 (by unfold PxN; omega) (fun c k c1 c2 => by unfold PxN; omega) mz, by rw [l2.2.2 _ _ (by decide) (by unfold PxN; omega)]; exact my⟩
theorem st_asked (I : INV L xs σ M) : STP L xs M (fun M => f_X11_asked 1  M) (fun M => f_X12_asked 65  M) := by
  obtain ⟨ws, p, d, e, t, S, z⟩ := σ
  obtain ⟨⟨wf, pi, pn, kd, cv, vt, sv⟩, b0, ⟨sx, js⟩, ⟨xa, xb, xf, xc, xt, xz⟩, mi0⟩ := I
  dsimp only at wf pi pn kd cv vt sv sx js xa xb xf xc xt xz
  have hS := b0.1
  have n1 := x_asked hS xz
  have n3 : Ey PxN M M := Ey.rf
  have l1 : Lo PxN M M := Lo_ey n3 (C := PxN) (fun c k h => h)
  have hN : Sh M := Sh_ey n3 hS
  have sx1 : XS S M := XS_ez (Ez.of n3) (by unfold PxN; omega) (fun c k hc => by unfold PxN; omega) sx
  have js1 : jsl M ≤ 100000 + 2000 * S.length := by rw [jsl_ey n3]; exact js
  obtain ⟨ma, mb, mf, mc, mt, mz, my⟩ := MI_c (σ := (ws, p, d, e, t, S, z)) l1 (fun c k h => by unfold PxN at h; omega) sv.1 mi0
  dsimp only at ma mb mf mc mt mz my
  have o1 := m_asked hN my
  have o3 : Ey PxN M M := Ey.rf
  have l2 : Lo PxN M M := Lo_ey o3 (C := PxN) (fun c k h => h)
  have hO : Sh M := Sh_ey o3 hN
  have sx2 : XS S M := XS_ez (Ez.of o3) (by unfold PxN; omega) (fun c k hc => by unfold PxN; omega) sx1
  have js2 : jsl M ≤ 100000 + 2000 * S.length := by rw [jsl_ey o3]; exact js1
  exact stp (σ' := (ws, p, d, e, t, S, z)) b0 n1 o1 ⟨wf, pi, pn, kd, cv, vt, sv⟩ l1 (fun c k h => by unfold PxN at h; omega) hN l2 (fun c k h => by unfold PxN at h; omega) hO ⟨sx2, js2⟩ ⟨XA_lo l1 (fun c k c1 c2 => by unfold PxN; omega) xa, XB_lo l1 (fun c k c1 c2 => by unfold PxN; omega) xb, XF_lo l1 (by unfold PxN; omega) (fun k => by unfold PxN; omega) xf, XC_lo l1 (fun k => by unfold PxN; omega) (fun k => by unfold PxN; omega) xc, XT_lo l1 (by unfold PxN; omega) (fun k => by unfold PxN; omega) xt, by rw [l1.2.2 _ _ (by decide) (by unfold PxN; omega)]; exact xz⟩ ⟨MA_lo l2 (fun c k c1 c2 => by unfold PxN; omega) ma, MB_lo l2 (fun c k c1 => by unfold PxN; omega) mb, MF_lo l2 (by unfold PxN; omega) (fun k => by unfold PxN; omega) mf, MC_lo l2 (fun k k1 k2 => by unfold PxN; omega) (fun k => by unfold PxN; omega) mc, MT_lo l2 (by unfold PxN; omega) (fun k => by unfold PxN; omega) mt, MZ_lo l2 sv.1 (by unfold PxN; omega) (fun c k c1 c2 => by unfold PxN; omega) mz, by rw [l2.2.2 _ _ (by decide) (by unfold PxN; omega)]; exact my⟩
theorem st_same (x1 x2 : Int32) (I : INV L xs σ M) : STP L xs M (fun M => f_X11_same 1 x1 x2 M) (fun M => f_X12_same 65 x1 x2 M) := by
  obtain ⟨ws, p, d, e, t, S, z⟩ := σ
  obtain ⟨⟨wf, pi, pn, kd, cv, vt, sv⟩, b0, ⟨sx, js⟩, ⟨xa, xb, xf, xc, xt, xz⟩, mi0⟩ := I
  dsimp only at wf pi pn kd cv vt sv sx js xa xb xf xc xt xz
  have hS := b0.1
  have n1 := x_samecall hS sv sx x1 x2
  have n3 : Ey PxN M M := Ey.rf
  have l1 : Lo PxN M M := Lo_ey n3 (C := PxN) (fun c k h => h)
  have hN : Sh M := Sh_ey n3 hS
  have sx1 : XS S M := XS_ez (Ez.of n3) (by unfold PxN; omega) (fun c k hc => by unfold PxN; omega) sx
  have js1 : jsl M ≤ 100000 + 2000 * S.length := by rw [jsl_ey n3]; exact js
  obtain ⟨ma, mb, mf, mc, mt, mz, my⟩ := MI_c (σ := (ws, p, d, e, t, S, z)) l1 (fun c k h => by unfold PxN at h; omega) sv.1 mi0
  dsimp only at ma mb mf mc mt mz my
  have o1 := m_samecall hN sv mz x1 x2
  have o3 : Ey PxN M M := Ey.rf
  have l2 : Lo PxN M M := Lo_ey o3 (C := PxN) (fun c k h => h)
  have hO : Sh M := Sh_ey o3 hN
  have sx2 : XS S M := XS_ez (Ez.of o3) (by unfold PxN; omega) (fun c k hc => by unfold PxN; omega) sx1
  have js2 : jsl M ≤ 100000 + 2000 * S.length := by rw [jsl_ey o3]; exact js1
  exact stp (σ' := (ws, p, d, e, t, S, z)) b0 n1 o1 ⟨wf, pi, pn, kd, cv, vt, sv⟩ l1 (fun c k h => by unfold PxN at h; omega) hN l2 (fun c k h => by unfold PxN at h; omega) hO ⟨sx2, js2⟩ ⟨XA_lo l1 (fun c k c1 c2 => by unfold PxN; omega) xa, XB_lo l1 (fun c k c1 c2 => by unfold PxN; omega) xb, XF_lo l1 (by unfold PxN; omega) (fun k => by unfold PxN; omega) xf, XC_lo l1 (fun k => by unfold PxN; omega) (fun k => by unfold PxN; omega) xc, XT_lo l1 (by unfold PxN; omega) (fun k => by unfold PxN; omega) xt, by rw [l1.2.2 _ _ (by decide) (by unfold PxN; omega)]; exact xz⟩ ⟨MA_lo l2 (fun c k c1 c2 => by unfold PxN; omega) ma, MB_lo l2 (fun c k c1 => by unfold PxN; omega) mb, MF_lo l2 (by unfold PxN; omega) (fun k => by unfold PxN; omega) mf, MC_lo l2 (fun k k1 k2 => by unfold PxN; omega) (fun k => by unfold PxN; omega) mc, MT_lo l2 (by unfold PxN; omega) (fun k => by unfold PxN; omega) mt, MZ_lo l2 sv.1 (by unfold PxN; omega) (fun c k c1 c2 => by unfold PxN; omega) mz, by rw [l2.2.2 _ _ (by decide) (by unfold PxN; omega)]; exact my⟩
theorem st_kind (x1 : Int32) (I : INV L xs σ M) : STP L xs M (fun M => f_X11_kind 1 x1 M) (fun M => f_X12_kind 65 x1 M) := by
  obtain ⟨ws, p, d, e, t, S, z⟩ := σ
  obtain ⟨⟨wf, pi, pn, kd, cv, vt, sv⟩, b0, ⟨sx, js⟩, ⟨xa, xb, xf, xc, xt, xz⟩, mi0⟩ := I
  dsimp only at wf pi pn kd cv vt sv sx js xa xb xf xc xt xz
  have hS := b0.1
  have n1 := x_kind hS kd xf x1
  have n3 : Ey PxN M M := Ey.rf
  have l1 : Lo PxN M M := Lo_ey n3 (C := PxN) (fun c k h => h)
  have hN : Sh M := Sh_ey n3 hS
  have sx1 : XS S M := XS_ez (Ez.of n3) (by unfold PxN; omega) (fun c k hc => by unfold PxN; omega) sx
  have js1 : jsl M ≤ 100000 + 2000 * S.length := by rw [jsl_ey n3]; exact js
  obtain ⟨ma, mb, mf, mc, mt, mz, my⟩ := MI_c (σ := (ws, p, d, e, t, S, z)) l1 (fun c k h => by unfold PxN at h; omega) sv.1 mi0
  dsimp only at ma mb mf mc mt mz my
  have o1 := m_kind hN kd mf x1
  have o3 : Ey PxN M M := Ey.rf
  have l2 : Lo PxN M M := Lo_ey o3 (C := PxN) (fun c k h => h)
  have hO : Sh M := Sh_ey o3 hN
  have sx2 : XS S M := XS_ez (Ez.of o3) (by unfold PxN; omega) (fun c k hc => by unfold PxN; omega) sx1
  have js2 : jsl M ≤ 100000 + 2000 * S.length := by rw [jsl_ey o3]; exact js1
  exact stp (σ' := (ws, p, d, e, t, S, z)) b0 n1 o1 ⟨wf, pi, pn, kd, cv, vt, sv⟩ l1 (fun c k h => by unfold PxN at h; omega) hN l2 (fun c k h => by unfold PxN at h; omega) hO ⟨sx2, js2⟩ ⟨XA_lo l1 (fun c k c1 c2 => by unfold PxN; omega) xa, XB_lo l1 (fun c k c1 c2 => by unfold PxN; omega) xb, XF_lo l1 (by unfold PxN; omega) (fun k => by unfold PxN; omega) xf, XC_lo l1 (fun k => by unfold PxN; omega) (fun k => by unfold PxN; omega) xc, XT_lo l1 (by unfold PxN; omega) (fun k => by unfold PxN; omega) xt, by rw [l1.2.2 _ _ (by decide) (by unfold PxN; omega)]; exact xz⟩ ⟨MA_lo l2 (fun c k c1 c2 => by unfold PxN; omega) ma, MB_lo l2 (fun c k c1 => by unfold PxN; omega) mb, MF_lo l2 (by unfold PxN; omega) (fun k => by unfold PxN; omega) mf, MC_lo l2 (fun k k1 k2 => by unfold PxN; omega) (fun k => by unfold PxN; omega) mc, MT_lo l2 (by unfold PxN; omega) (fun k => by unfold PxN; omega) mt, MZ_lo l2 sv.1 (by unfold PxN; omega) (fun c k c1 c2 => by unfold PxN; omega) mz, by rw [l2.2.2 _ _ (by decide) (by unfold PxN; omega)]; exact my⟩
theorem st_coloured (x1 : Int32) (I : INV L xs σ M) : STP L xs M (fun M => f_X11_coloured 1 x1 M) (fun M => f_X12_coloured 65 x1 M) := by
  obtain ⟨ws, p, d, e, t, S, z⟩ := σ
  obtain ⟨⟨wf, pi, pn, kd, cv, vt, sv⟩, b0, ⟨sx, js⟩, ⟨xa, xb, xf, xc, xt, xz⟩, mi0⟩ := I
  dsimp only at wf pi pn kd cv vt sv sx js xa xb xf xc xt xz
  have hS := b0.1
  have n1 := x_coloured hS cv xc x1
  have n3 : Ey PxN M M := Ey.rf
  have l1 : Lo PxN M M := Lo_ey n3 (C := PxN) (fun c k h => h)
  have hN : Sh M := Sh_ey n3 hS
  have sx1 : XS S M := XS_ez (Ez.of n3) (by unfold PxN; omega) (fun c k hc => by unfold PxN; omega) sx
  have js1 : jsl M ≤ 100000 + 2000 * S.length := by rw [jsl_ey n3]; exact js
  obtain ⟨ma, mb, mf, mc, mt, mz, my⟩ := MI_c (σ := (ws, p, d, e, t, S, z)) l1 (fun c k h => by unfold PxN at h; omega) sv.1 mi0
  dsimp only at ma mb mf mc mt mz my
  have o1 := m_coloured hN cv mc x1
  have o3 : Ey PxN M M := Ey.rf
  have l2 : Lo PxN M M := Lo_ey o3 (C := PxN) (fun c k h => h)
  have hO : Sh M := Sh_ey o3 hN
  have sx2 : XS S M := XS_ez (Ez.of o3) (by unfold PxN; omega) (fun c k hc => by unfold PxN; omega) sx1
  have js2 : jsl M ≤ 100000 + 2000 * S.length := by rw [jsl_ey o3]; exact js1
  exact stp (σ' := (ws, p, d, e, t, S, z)) b0 n1 o1 ⟨wf, pi, pn, kd, cv, vt, sv⟩ l1 (fun c k h => by unfold PxN at h; omega) hN l2 (fun c k h => by unfold PxN at h; omega) hO ⟨sx2, js2⟩ ⟨XA_lo l1 (fun c k c1 c2 => by unfold PxN; omega) xa, XB_lo l1 (fun c k c1 c2 => by unfold PxN; omega) xb, XF_lo l1 (by unfold PxN; omega) (fun k => by unfold PxN; omega) xf, XC_lo l1 (fun k => by unfold PxN; omega) (fun k => by unfold PxN; omega) xc, XT_lo l1 (by unfold PxN; omega) (fun k => by unfold PxN; omega) xt, by rw [l1.2.2 _ _ (by decide) (by unfold PxN; omega)]; exact xz⟩ ⟨MA_lo l2 (fun c k c1 c2 => by unfold PxN; omega) ma, MB_lo l2 (fun c k c1 => by unfold PxN; omega) mb, MF_lo l2 (by unfold PxN; omega) (fun k => by unfold PxN; omega) mf, MC_lo l2 (fun k k1 k2 => by unfold PxN; omega) (fun k => by unfold PxN; omega) mc, MT_lo l2 (by unfold PxN; omega) (fun k => by unfold PxN; omega) mt, MZ_lo l2 sv.1 (by unfold PxN; omega) (fun c k c1 c2 => by unfold PxN; omega) mz, by rw [l2.2.2 _ _ (by decide) (by unfold PxN; omega)]; exact my⟩
theorem st_told (x1 : Int32) (I : INV L xs σ M) : STP L xs M (fun M => f_X11_told 1 x1 M) (fun M => f_X12_told 65 x1 M) := by
  obtain ⟨ws, p, d, e, t, S, z⟩ := σ
  obtain ⟨⟨wf, pi, pn, kd, cv, vt, sv⟩, b0, ⟨sx, js⟩, ⟨xa, xb, xf, xc, xt, xz⟩, mi0⟩ := I
  dsimp only at wf pi pn kd cv vt sv sx js xa xb xf xc xt xz
  have hS := b0.1
  have n1 := x_told hS xa wf sx.1 xt.1 xf.1 xc.1 x1
  have n3 : Ey PxN M M := Ey.rf
  have l1 : Lo PxN M M := Lo_ey n3 (C := PxN) (fun c k h => h)
  have hN : Sh M := Sh_ey n3 hS
  have sx1 : XS S M := XS_ez (Ez.of n3) (by unfold PxN; omega) (fun c k hc => by unfold PxN; omega) sx
  have js1 : jsl M ≤ 100000 + 2000 * S.length := by rw [jsl_ey n3]; exact js
  obtain ⟨ma, mb, mf, mc, mt, mz, my⟩ := MI_c (σ := (ws, p, d, e, t, S, z)) l1 (fun c k h => by unfold PxN at h; omega) sv.1 mi0
  dsimp only at ma mb mf mc mt mz my
  have o1 := m_told hN ma wf mz.1 mt.1 mf.1 mc x1
  have o3 : Ey PxN M M := Ey.rf
  have l2 : Lo PxN M M := Lo_ey o3 (C := PxN) (fun c k h => h)
  have hO : Sh M := Sh_ey o3 hN
  have sx2 : XS S M := XS_ez (Ez.of o3) (by unfold PxN; omega) (fun c k hc => by unfold PxN; omega) sx1
  have js2 : jsl M ≤ 100000 + 2000 * S.length := by rw [jsl_ey o3]; exact js1
  exact stp (σ' := (ws, p, d, e, t, S, z)) b0 n1 o1 ⟨wf, pi, pn, kd, cv, vt, sv⟩ l1 (fun c k h => by unfold PxN at h; omega) hN l2 (fun c k h => by unfold PxN at h; omega) hO ⟨sx2, js2⟩ ⟨XA_lo l1 (fun c k c1 c2 => by unfold PxN; omega) xa, XB_lo l1 (fun c k c1 c2 => by unfold PxN; omega) xb, XF_lo l1 (by unfold PxN; omega) (fun k => by unfold PxN; omega) xf, XC_lo l1 (fun k => by unfold PxN; omega) (fun k => by unfold PxN; omega) xc, XT_lo l1 (by unfold PxN; omega) (fun k => by unfold PxN; omega) xt, by rw [l1.2.2 _ _ (by decide) (by unfold PxN; omega)]; exact xz⟩ ⟨MA_lo l2 (fun c k c1 c2 => by unfold PxN; omega) ma, MB_lo l2 (fun c k c1 => by unfold PxN; omega) mb, MF_lo l2 (by unfold PxN; omega) (fun k => by unfold PxN; omega) mf, MC_lo l2 (fun k k1 k2 => by unfold PxN; omega) (fun k => by unfold PxN; omega) mc, MT_lo l2 (by unfold PxN; omega) (fun k => by unfold PxN; omega) mt, MZ_lo l2 sv.1 (by unfold PxN; omega) (fun c k c1 c2 => by unfold PxN; omega) mz, by rw [l2.2.2 _ _ (by decide) (by unfold PxN; omega)]; exact my⟩
theorem st_sentence (x1 x2 : Int32) (I : INV L xs σ M) : STP L xs M (fun M => f_X11_sentence 1 x1 x2 M) (fun M => f_X12_sentence 65 x1 x2 M) := by
  obtain ⟨ws, p, d, e, t, S, z⟩ := σ
  obtain ⟨⟨wf, pi, pn, kd, cv, vt, sv⟩, b0, ⟨sx, js⟩, ⟨xa, xb, xf, xc, xt, xz⟩, mi0⟩ := I
  dsimp only at wf pi pn kd cv vt sv sx js xa xb xf xc xt xz
  have hS := b0.1
  have n1 := x_sentence hS sv sx x1 x2
  have n3 : Ey PxN M M := Ey.rf
  have l1 : Lo PxN M M := Lo_ey n3 (C := PxN) (fun c k h => h)
  have hN : Sh M := Sh_ey n3 hS
  have sx1 : XS S M := XS_ez (Ez.of n3) (by unfold PxN; omega) (fun c k hc => by unfold PxN; omega) sx
  have js1 : jsl M ≤ 100000 + 2000 * S.length := by rw [jsl_ey n3]; exact js
  obtain ⟨ma, mb, mf, mc, mt, mz, my⟩ := MI_c (σ := (ws, p, d, e, t, S, z)) l1 (fun c k h => by unfold PxN at h; omega) sv.1 mi0
  dsimp only at ma mb mf mc mt mz my
  obtain ⟨O, o1, o3⟩ := m_sentence hN sv mz x1 x2
  have l2 : Lo PW M O := Lo_ey o3 (C := PW) (fun c k h => h)
  have hO : Sh O := Sh_ey o3 hN
  have sx2 : XS S O := XS_ez (Ez.of o3) (by unfold PW; omega) (fun c k hc => by unfold PW; omega) sx1
  have js2 : jsl O ≤ 100000 + 2000 * S.length := by rw [jsl_ey o3]; exact js1
  exact stp (σ' := (ws, p, d, e, t, S, z)) b0 n1 o1 ⟨wf, pi, pn, kd, cv, vt, sv⟩ l1 (fun c k h => by unfold PxN at h; omega) hN l2 (fun c k h => by unfold PW at h; omega) hO ⟨sx2, js2⟩ ⟨XA_lo l1 (fun c k c1 c2 => by unfold PxN; omega) xa, XB_lo l1 (fun c k c1 c2 => by unfold PxN; omega) xb, XF_lo l1 (by unfold PxN; omega) (fun k => by unfold PxN; omega) xf, XC_lo l1 (fun k => by unfold PxN; omega) (fun k => by unfold PxN; omega) xc, XT_lo l1 (by unfold PxN; omega) (fun k => by unfold PxN; omega) xt, by rw [l1.2.2 _ _ (by decide) (by unfold PxN; omega)]; exact xz⟩ ⟨MA_lo l2 (fun c k c1 c2 => by unfold PW; omega) ma, MB_lo l2 (fun c k c1 => by unfold PW; omega) mb, MF_lo l2 (by unfold PW; omega) (fun k => by unfold PW; omega) mf, MC_lo l2 (fun k k1 k2 => by unfold PW; omega) (fun k => by unfold PW; omega) mc, MT_lo l2 (by unfold PW; omega) (fun k => by unfold PW; omega) mt, MZ_lo l2 sv.1 (by unfold PW; omega) (fun c k c1 c2 => by unfold PW; omega) mz, by rw [l2.2.2 _ _ (by decide) (by unfold PW; omega)]; exact my⟩
theorem st_written (x1 x2 : Int32) (I : INV L xs σ M) : STP L xs M (fun M => f_X11_written 1 x1 x2 M) (fun M => f_X12_written 65 x1 x2 M) := by
  obtain ⟨ws, p, d, e, t, S, z⟩ := σ
  obtain ⟨⟨wf, pi, pn, kd, cv, vt, sv⟩, b0, ⟨sx, js⟩, ⟨xa, xb, xf, xc, xt, xz⟩, mi0⟩ := I
  dsimp only at wf pi pn kd cv vt sv sx js xa xb xf xc xt xz
  have hS := b0.1
  have n1 := x_written hS sv sx x1 x2
  have n3 : Ey PxN M M := Ey.rf
  have l1 : Lo PxN M M := Lo_ey n3 (C := PxN) (fun c k h => h)
  have hN : Sh M := Sh_ey n3 hS
  have sx1 : XS S M := XS_ez (Ez.of n3) (by unfold PxN; omega) (fun c k hc => by unfold PxN; omega) sx
  have js1 : jsl M ≤ 100000 + 2000 * S.length := by rw [jsl_ey n3]; exact js
  obtain ⟨ma, mb, mf, mc, mt, mz, my⟩ := MI_c (σ := (ws, p, d, e, t, S, z)) l1 (fun c k h => by unfold PxN at h; omega) sv.1 mi0
  dsimp only at ma mb mf mc mt mz my
  obtain ⟨O, o1, o3⟩ := m_written hN sv mz x1 x2
  have l2 : Lo PW M O := Lo_ey o3 (C := PW) (fun c k h => h)
  have hO : Sh O := Sh_ey o3 hN
  have sx2 : XS S O := XS_ez (Ez.of o3) (by unfold PW; omega) (fun c k hc => by unfold PW; omega) sx1
  have js2 : jsl O ≤ 100000 + 2000 * S.length := by rw [jsl_ey o3]; exact js1
  exact stp (σ' := (ws, p, d, e, t, S, z)) b0 n1 o1 ⟨wf, pi, pn, kd, cv, vt, sv⟩ l1 (fun c k h => by unfold PxN at h; omega) hN l2 (fun c k h => by unfold PW at h; omega) hO ⟨sx2, js2⟩ ⟨XA_lo l1 (fun c k c1 c2 => by unfold PxN; omega) xa, XB_lo l1 (fun c k c1 c2 => by unfold PxN; omega) xb, XF_lo l1 (by unfold PxN; omega) (fun k => by unfold PxN; omega) xf, XC_lo l1 (fun k => by unfold PxN; omega) (fun k => by unfold PxN; omega) xc, XT_lo l1 (by unfold PxN; omega) (fun k => by unfold PxN; omega) xt, by rw [l1.2.2 _ _ (by decide) (by unfold PxN; omega)]; exact xz⟩ ⟨MA_lo l2 (fun c k c1 c2 => by unfold PW; omega) ma, MB_lo l2 (fun c k c1 => by unfold PW; omega) mb, MF_lo l2 (by unfold PW; omega) (fun k => by unfold PW; omega) mf, MC_lo l2 (fun k k1 k2 => by unfold PW; omega) (fun k => by unfold PW; omega) mc, MT_lo l2 (by unfold PW; omega) (fun k => by unfold PW; omega) mt, MZ_lo l2 sv.1 (by unfold PW; omega) (fun c k c1 c2 => by unfold PW; omega) mz, by rw [l2.2.2 _ _ (by decide) (by unfold PW; omega)]; exact my⟩
theorem st_game (x1 x2 x3 : Int32) (I : INV L xs σ M) : STP L xs M (fun M => f_X11_game 1 x1 x2 x3 M) (fun M => f_X12_game 65 x1 x2 x3 M) := by
  obtain ⟨ws, p, d, e, t, S, z⟩ := σ
  obtain ⟨⟨wf, pi, pn, kd, cv, vt, sv⟩, b0, ⟨sx, js⟩, ⟨xa, xb, xf, xc, xt, xz⟩, mi0⟩ := I
  dsimp only at wf pi pn kd cv vt sv sx js xa xb xf xc xt xz
  have hS := b0.1
  obtain ⟨N, n1, n3⟩ := x_game hS xa wf x1 x2 x3
  have l1 : Lo PxM M N := Lo_ex n3 (D := PxM) (fun c k h => h)
  have hN : Sh N := Sh_ex n3 hS
  have sx1 : XS S N := XS_el (El.of n3) (by show ¬ PxM 1 0; unfold PxM cM; omega) (fun c hc => by show ¬ PxM c 0; unfold PxM cM; omega) sx
  have js1 : jsl N ≤ 100000 + 2000 * S.length := by rw [jsl_ex n3]; exact js
  obtain ⟨ma, mb, mf, mc, mt, mz, my⟩ := MI_c (σ := (ws, p, d, e, t, S, z)) l1 (fun c k h => by unfold PxM cM at h; omega) sv.1 mi0
  dsimp only at ma mb mf mc mt mz my
  obtain ⟨O, o1, o3⟩ := m_game hN ma wf x1 x2 x3
  have l2 : Lo PG N O := Lo_ey o3 (C := PG) (fun c k h => h)
  have hO : Sh O := Sh_ey o3 hN
  have sx2 : XS S O := XS_ez (Ez.of o3) (by unfold PG; omega) (fun c k hc => by unfold PG; omega) sx1
  have js2 : jsl O ≤ 100000 + 2000 * S.length := by rw [jsl_ey o3]; exact js1
  exact stp (σ' := (ws, p, d, e, t, S, z)) b0 n1 o1 ⟨wf, pi, pn, kd, cv, vt, sv⟩ l1 (fun c k h => by unfold PxM cM at h; omega) hN l2 (fun c k h => by unfold PG at h; omega) hO ⟨sx2, js2⟩ ⟨XA_lo l1 (fun c k c1 c2 => by unfold PxM cM; omega) xa, XB_lo l1 (fun c k c1 c2 => by unfold PxM cM; omega) xb, XF_lo l1 (by unfold PxM cM; omega) (fun k => by unfold PxM cM; omega) xf, XC_lo l1 (fun k => by unfold PxM cM; omega) (fun k => by unfold PxM cM; omega) xc, XT_lo l1 (by unfold PxM cM; omega) (fun k => by unfold PxM cM; omega) xt, by rw [l1.2.2 _ _ (by decide) (by unfold PxM cM; omega)]; exact xz⟩ ⟨MA_lo l2 (fun c k c1 c2 => by unfold PG; omega) ma, MB_lo l2 (fun c k c1 => by unfold PG; omega) mb, MF_lo l2 (by unfold PG; omega) (fun k => by unfold PG; omega) mf, MC_lo l2 (fun k k1 k2 => by unfold PG; omega) (fun k => by unfold PG; omega) mc, MT_lo l2 (by unfold PG; omega) (fun k => by unfold PG; omega) mt, MZ_lo l2 sv.1 (by unfold PG; omega) (fun c k c1 c2 => by unfold PG; omega) mz, by rw [l2.2.2 _ _ (by decide) (by unfold PG; omega)]; exact my⟩
theorem st_rank (x1 x2 : Int32) (I : INV L xs σ M) : STP L xs M (fun M => f_X11_rank 1 x1 x2 M) (fun M => f_X12_rank 65 x1 x2 M) := by
  obtain ⟨ws, p, d, e, t, S, z⟩ := σ
  obtain ⟨⟨wf, pi, pn, kd, cv, vt, sv⟩, b0, ⟨sx, js⟩, ⟨xa, xb, xf, xc, xt, xz⟩, mi0⟩ := I
  dsimp only at wf pi pn kd cv vt sv sx js xa xb xf xc xt xz
  have hS := b0.1
  obtain ⟨N, n1, n3⟩ := x_rank hS xa wf x1 x2
  have l1 : Lo PxM M N := Lo_ex n3 (D := PxM) (fun c k h => h)
  have hN : Sh N := Sh_ex n3 hS
  have sx1 : XS S N := XS_el (El.of n3) (by show ¬ PxM 1 0; unfold PxM cM; omega) (fun c hc => by show ¬ PxM c 0; unfold PxM cM; omega) sx
  have js1 : jsl N ≤ 100000 + 2000 * S.length := by rw [jsl_ex n3]; exact js
  obtain ⟨ma, mb, mf, mc, mt, mz, my⟩ := MI_c (σ := (ws, p, d, e, t, S, z)) l1 (fun c k h => by unfold PxM cM at h; omega) sv.1 mi0
  dsimp only at ma mb mf mc mt mz my
  obtain ⟨O, o1, o3⟩ := m_rank hN ma wf x1 x2
  have l2 : Lo PG N O := Lo_ey o3 (C := PG) (fun c k h => h)
  have hO : Sh O := Sh_ey o3 hN
  have sx2 : XS S O := XS_ez (Ez.of o3) (by unfold PG; omega) (fun c k hc => by unfold PG; omega) sx1
  have js2 : jsl O ≤ 100000 + 2000 * S.length := by rw [jsl_ey o3]; exact js1
  exact stp (σ' := (ws, p, d, e, t, S, z)) b0 n1 o1 ⟨wf, pi, pn, kd, cv, vt, sv⟩ l1 (fun c k h => by unfold PxM cM at h; omega) hN l2 (fun c k h => by unfold PG at h; omega) hO ⟨sx2, js2⟩ ⟨XA_lo l1 (fun c k c1 c2 => by unfold PxM cM; omega) xa, XB_lo l1 (fun c k c1 c2 => by unfold PxM cM; omega) xb, XF_lo l1 (by unfold PxM cM; omega) (fun k => by unfold PxM cM; omega) xf, XC_lo l1 (fun k => by unfold PxM cM; omega) (fun k => by unfold PxM cM; omega) xc, XT_lo l1 (by unfold PxM cM; omega) (fun k => by unfold PxM cM; omega) xt, by rw [l1.2.2 _ _ (by decide) (by unfold PxM cM; omega)]; exact xz⟩ ⟨MA_lo l2 (fun c k c1 c2 => by unfold PG; omega) ma, MB_lo l2 (fun c k c1 => by unfold PG; omega) mb, MF_lo l2 (by unfold PG; omega) (fun k => by unfold PG; omega) mf, MC_lo l2 (fun k k1 k2 => by unfold PG; omega) (fun k => by unfold PG; omega) mc, MT_lo l2 (by unfold PG; omega) (fun k => by unfold PG; omega) mt, MZ_lo l2 sv.1 (by unfold PG; omega) (fun c k c1 c2 => by unfold PG; omega) mz, by rw [l2.2.2 _ _ (by decide) (by unfold PG; omega)]; exact my⟩
theorem st_play (x1 x2 x3 : Int32) (I : INV L xs σ M) : STP L xs M (fun M => f_X11_play 1 x1 x2 x3 M) (fun M => f_X12_play 65 x1 x2 x3 M) := by
  obtain ⟨ws, p, d, e, t, S, z⟩ := σ
  obtain ⟨⟨wf, pi, pn, kd, cv, vt, sv⟩, b0, ⟨sx, js⟩, ⟨xa, xb, xf, xc, xt, xz⟩, mi0⟩ := I
  dsimp only at wf pi pn kd cv vt sv sx js xa xb xf xc xt xz
  have hS := b0.1
  obtain ⟨N, n1, n2, n3⟩ := x_play hS xa wf xb x1 x2 x3
  have l1 : Lo PxB M N := Lo_ex n3 (D := PxB) (fun c k h => h)
  have hN : Sh N := Sh_ex n3 hS
  have sx1 : XS S N := XS_el (El.of n3) (by show ¬ PxB 1 0; unfold PxB CB; omega) (fun c hc => by show ¬ PxB c 0; unfold PxB CB; omega) sx
  have js1 : jsl N ≤ 100000 + 2000 * S.length := by rw [jsl_ex n3]; exact js
  obtain ⟨ma, mb, mf, mc, mt, mz, my⟩ := MI_c (σ := (ws, p, d, e, t, S, z)) l1 (fun c k h => by unfold PxB CB at h; omega) sv.1 mi0
  dsimp only at ma mb mf mc mt mz my
  obtain ⟨O, o1, o2, o4, o3⟩ := m_play hN ma wf mb x1 x2 x3
  have l2 : Lo PB N O := Lo_ey o3 (C := PB) (fun c k h => h)
  have hO : Sh O := Sh_ey o3 hN
  have sx2 : XS S O := XS_ez (Ez.of o3) (by unfold PB; omega) (fun c k hc => by unfold PB; omega) sx1
  have js2 : jsl O ≤ 100000 + 2000 * S.length := by rw [jsl_ey o3]; exact js1
  exact stp (σ' := ((sp_play ws p x1 x2 x3).2.1, (sp_play ws p x1 x2 x3).2.2, d, e, t, S, z)) b0 n1 o1 ⟨sp_play_wf wf x1 x2 x3, sp_play_pi pi x1 x2 x3, sp_play_pn pn x1 x2 x3, kd, cv, vt, sv⟩ l1 (fun c k h => by unfold PxB CB at h; omega) hN l2 (fun c k h => by unfold PB at h; omega) hO ⟨sx2, js2⟩ ⟨fun w hw => by rw [k_play p x1 x2 x3 w hw]; exact XA_lo l1 (fun c k c1 c2 => by unfold PxB CB; omega) xa w hw, n2, XF_lo l1 (by unfold PxB CB; omega) (fun k => by unfold PxB CB; omega) xf, XC_lo l1 (fun k => by unfold PxB CB; omega) (fun k => by unfold PxB CB; omega) xc, XT_lo l1 (by unfold PxB CB; omega) (fun k => by unfold PxB CB; omega) xt, by rw [l1.2.2 _ _ (by decide) (by unfold PxB CB; omega)]; exact xz⟩ ⟨o2, o4, MF_lo l2 (by unfold PB; omega) (fun k => by unfold PB; omega) mf, MC_lo l2 (fun k k1 k2 => by unfold PB; omega) (fun k => by unfold PB; omega) mc, MT_lo l2 (by unfold PB; omega) (fun k => by unfold PB; omega) mt, MZ_lo l2 sv.1 (by unfold PB; omega) (fun c k c1 c2 => by unfold PB; omega) mz, by rw [l2.2.2 _ _ (by decide) (by unfold PB; omega)]; exact my⟩
theorem st_pick (x1 x2 : Int32) (I : INV L xs σ M) : STP L xs M (fun M => f_X11_pick 1 x1 x2 M) (fun M => f_X12_pick 65 x1 x2 M) := by
  obtain ⟨ws, p, d, e, t, S, z⟩ := σ
  obtain ⟨⟨wf, pi, pn, kd, cv, vt, sv⟩, b0, ⟨sx, js⟩, ⟨xa, xb, xf, xc, xt, xz⟩, mi0⟩ := I
  dsimp only at wf pi pn kd cv vt sv sx js xa xb xf xc xt xz
  have hS := b0.1
  obtain ⟨N, n1, n2, n3⟩ := x_pick hS wf pi xb x1 x2
  have l1 : Lo PxB M N := Lo_ex n3 (D := PxB) (fun c k h => h)
  have hN : Sh N := Sh_ex n3 hS
  have sx1 : XS S N := XS_el (El.of n3) (by show ¬ PxB 1 0; unfold PxB CB; omega) (fun c hc => by show ¬ PxB c 0; unfold PxB CB; omega) sx
  have js1 : jsl N ≤ 100000 + 2000 * S.length := by rw [jsl_ex n3]; exact js
  obtain ⟨ma, mb, mf, mc, mt, mz, my⟩ := MI_c (σ := (ws, p, d, e, t, S, z)) l1 (fun c k h => by unfold PxB CB at h; omega) sv.1 mi0
  dsimp only at ma mb mf mc mt mz my
  obtain ⟨O, o1, o2, o3'⟩ := m_pick hN ma wf pi mb (fun h => pn (by omega)) x1 x2
  have o3 : Ey PyP N O := o3'
  have l2 : Lo PyP N O := Lo_ey o3 (C := PyP) (fun c k h => h)
  have hO : Sh O := Sh_ey o3 hN
  have sx2 : XS S O := XS_ez (Ez.of o3) (by unfold PyP; omega) (fun c k hc => by unfold PyP; omega) sx1
  have js2 : jsl O ≤ 100000 + 2000 * S.length := by rw [jsl_ey o3]; exact js1
  exact stp (σ' := (ws, (sp_pick ws p x1 x2).2, d, e, t, S, z)) b0 n1 o1 ⟨wf, sp_pick_pi pi wf x1 x2, sp_pick_pn pn x1 x2, kd, cv, vt, sv⟩ l1 (fun c k h => by unfold PxB CB at h; omega) hN l2 (fun c k h => by unfold PyP at h; omega) hO ⟨sx2, js2⟩ ⟨XA_lo l1 (fun c k c1 c2 => by unfold PxB CB; omega) xa, n2, XF_lo l1 (by unfold PxB CB; omega) (fun k => by unfold PxB CB; omega) xf, XC_lo l1 (fun k => by unfold PxB CB; omega) (fun k => by unfold PxB CB; omega) xc, XT_lo l1 (by unfold PxB CB; omega) (fun k => by unfold PxB CB; omega) xt, by rw [l1.2.2 _ _ (by decide) (by unfold PxB CB; omega)]; exact xz⟩ ⟨MA_lo l2 (fun c k c1 c2 => by unfold PyP; omega) ma, o2, MF_lo l2 (by unfold PyP; omega) (fun k => by unfold PyP; omega) mf, MC_lo l2 (fun k k1 k2 => by unfold PyP; omega) (fun k => by unfold PyP; omega) mc, MT_lo l2 (by unfold PyP; omega) (fun k => by unfold PyP; omega) mt, MZ_lo l2 sv.1 (by unfold PyP; omega) (fun c k c1 c2 => by unfold PyP; omega) mz, by rw [l2.2.2 _ _ (by decide) (by unfold PyP; omega)]; exact my⟩
theorem st_answer (x1 : Int32) (I : INV L xs σ M) : STP L xs M (fun M => f_X11_answer 1 x1 M) (fun M => f_X12_answer 65 x1 M) := by
  obtain ⟨ws, p, d, e, t, S, z⟩ := σ
  obtain ⟨⟨wf, pi, pn, kd, cv, vt, sv⟩, b0, ⟨sx, js⟩, ⟨xa, xb, xf, xc, xt, xz⟩, mi0⟩ := I
  dsimp only at wf pi pn kd cv vt sv sx js xa xb xf xc xt xz
  have hS := b0.1
  obtain ⟨N, n1, n2, n3⟩ := x_answer hS wf pi xb x1
  have l1 : Lo PxB M N := Lo_ex n3 (D := PxB) (fun c k h => h)
  have hN : Sh N := Sh_ex n3 hS
  have sx1 : XS S N := XS_el (El.of n3) (by show ¬ PxB 1 0; unfold PxB CB; omega) (fun c hc => by show ¬ PxB c 0; unfold PxB CB; omega) sx
  have js1 : jsl N ≤ 100000 + 2000 * S.length := by rw [jsl_ex n3]; exact js
  obtain ⟨ma, mb, mf, mc, mt, mz, my⟩ := MI_c (σ := (ws, p, d, e, t, S, z)) l1 (fun c k h => by unfold PxB CB at h; omega) sv.1 mi0
  dsimp only at ma mb mf mc mt mz my
  obtain ⟨O, o1, o2, o4, o3⟩ := m_answer hN ma wf pi mb pn x1
  have l2 : Lo PB N O := Lo_ey o3 (C := PB) (fun c k h => h)
  have hO : Sh O := Sh_ey o3 hN
  have sx2 : XS S O := XS_ez (Ez.of o3) (by unfold PB; omega) (fun c k hc => by unfold PB; omega) sx1
  have js2 : jsl O ≤ 100000 + 2000 * S.length := by rw [jsl_ey o3]; exact js1
  exact stp (σ' := (ws, (sp_answer ws p x1).2, d, e, t, S, z)) b0 n1 o1 ⟨wf, sp_answer_pi pi wf x1, sp_answer_pn pn x1, kd, cv, vt, sv⟩ l1 (fun c k h => by unfold PxB CB at h; omega) hN l2 (fun c k h => by unfold PB at h; omega) hO ⟨sx2, js2⟩ ⟨XA_lo l1 (fun c k c1 c2 => by unfold PxB CB; omega) xa, n2, XF_lo l1 (by unfold PxB CB; omega) (fun k => by unfold PxB CB; omega) xf, XC_lo l1 (fun k => by unfold PxB CB; omega) (fun k => by unfold PxB CB; omega) xc, XT_lo l1 (by unfold PxB CB; omega) (fun k => by unfold PxB CB; omega) xt, by rw [l1.2.2 _ _ (by decide) (by unfold PxB CB; omega)]; exact xz⟩ ⟨o2, o4, MF_lo l2 (by unfold PB; omega) (fun k => by unfold PB; omega) mf, MC_lo l2 (fun k k1 k2 => by unfold PB; omega) (fun k => by unfold PB; omega) mc, MT_lo l2 (by unfold PB; omega) (fun k => by unfold PB; omega) mt, MZ_lo l2 sv.1 (by unfold PB; omega) (fun c k c1 c2 => by unfold PB; omega) mz, by rw [l2.2.2 _ _ (by decide) (by unfold PB; omega)]; exact my⟩
theorem st_best (I : INV L xs σ M) : STP L xs M (fun M => f_X11_best 1  M) (fun M => f_X12_best 65  M) := by
  obtain ⟨ws, p, d, e, t, S, z⟩ := σ
  obtain ⟨⟨wf, pi, pn, kd, cv, vt, sv⟩, b0, ⟨sx, js⟩, ⟨xa, xb, xf, xc, xt, xz⟩, mi0⟩ := I
  dsimp only at wf pi pn kd cv vt sv sx js xa xb xf xc xt xz
  have hS := b0.1
  obtain ⟨N, n1, n2, n3⟩ := x_best hS wf pi xb
  have l1 : Lo PxB M N := Lo_ex n3 (D := PxB) (fun c k h => h)
  have hN : Sh N := Sh_ex n3 hS
  have sx1 : XS S N := XS_el (El.of n3) (by show ¬ PxB 1 0; unfold PxB CB; omega) (fun c hc => by show ¬ PxB c 0; unfold PxB CB; omega) sx
  have js1 : jsl N ≤ 100000 + 2000 * S.length := by rw [jsl_ex n3]; exact js
  obtain ⟨ma, mb, mf, mc, mt, mz, my⟩ := MI_c (σ := (ws, p, d, e, t, S, z)) l1 (fun c k h => by unfold PxB CB at h; omega) sv.1 mi0
  dsimp only at ma mb mf mc mt mz my
  obtain ⟨O, o1, o2, o4, o3⟩ := m_best hN ma wf pi mb
  have l2 : Lo PG N O := Lo_ey o3 (C := PG) (fun c k h => h)
  have hO : Sh O := Sh_ey o3 hN
  have sx2 : XS S O := XS_ez (Ez.of o3) (by unfold PG; omega) (fun c k hc => by unfold PG; omega) sx1
  have js2 : jsl O ≤ 100000 + 2000 * S.length := by rw [jsl_ey o3]; exact js1
  exact stp (σ' := (ws, p, d, e, t, S, z)) b0 n1 o1 ⟨wf, pi, pn, kd, cv, vt, sv⟩ l1 (fun c k h => by unfold PxB CB at h; omega) hN l2 (fun c k h => by unfold PG at h; omega) hO ⟨sx2, js2⟩ ⟨XA_lo l1 (fun c k c1 c2 => by unfold PxB CB; omega) xa, n2, XF_lo l1 (by unfold PxB CB; omega) (fun k => by unfold PxB CB; omega) xf, XC_lo l1 (fun k => by unfold PxB CB; omega) (fun k => by unfold PxB CB; omega) xc, XT_lo l1 (by unfold PxB CB; omega) (fun k => by unfold PxB CB; omega) xt, by rw [l1.2.2 _ _ (by decide) (by unfold PxB CB; omega)]; exact xz⟩ ⟨o2, o4, MF_lo l2 (by unfold PG; omega) (fun k => by unfold PG; omega) mf, MC_lo l2 (fun k k1 k2 => by unfold PG; omega) (fun k => by unfold PG; omega) mc, MT_lo l2 (by unfold PG; omega) (fun k => by unfold PG; omega) mt, MZ_lo l2 sv.1 (by unfold PG; omega) (fun c k c1 c2 => by unfold PG; omega) mz, by rw [l2.2.2 _ _ (by decide) (by unfold PG; omega)]; exact my⟩
theorem st_feed (x1 x2 x3 x4 x5 : Int32) (I : INV L xs σ M) : STP L xs M (fun M => f_X11_feed 1 x1 x2 x3 x4 x5 M) (fun M => f_X12_feed 65 x1 x2 x3 x4 x5 M) := by
  obtain ⟨ws, p, d, e, t, S, z⟩ := σ
  obtain ⟨⟨wf, pi, pn, kd, cv, vt, sv⟩, b0, ⟨sx, js⟩, ⟨xa, xb, xf, xc, xt, xz⟩, mi0⟩ := I
  dsimp only at wf pi pn kd cv vt sv sx js xa xb xf xc xt xz
  have hS := b0.1
  obtain ⟨N, n1, n2, n3⟩ := x_feed hS vt xt x1 x2 x3 x4 x5
  have l1 : Lo PxT M N := Lo_ex n3 (D := PxT) (fun c k h => h)
  have hN : Sh N := Sh_ex n3 hS
  have sx1 : XS S N := XS_el (El.of n3) (by show ¬ PxT 1 0; unfold PxT CT; omega) (fun c hc => by show ¬ PxT c 0; unfold PxT CT; omega) sx
  have js1 : jsl N ≤ 100000 + 2000 * S.length := by rw [jsl_ex n3]; exact js
  obtain ⟨ma, mb, mf, mc, mt, mz, my⟩ := MI_c (σ := (ws, p, d, e, t, S, z)) l1 (fun c k h => by unfold PxT CT at h; omega) sv.1 mi0
  dsimp only at ma mb mf mc mt mz my
  obtain ⟨O, o1, o2, o3⟩ := m_feed hN vt mt x1 x2 x3 x4 x5
  have l2 : Lo PM N O := Lo_ey o3 (C := PM) (fun c k h => h)
  have hO : Sh O := Sh_ey o3 hN
  have sx2 : XS S O := XS_ez (Ez.of o3) (by unfold PM; omega) (fun c k hc => by unfold PM; omega) sx1
  have js2 : jsl O ≤ 100000 + 2000 * S.length := by rw [jsl_ey o3]; exact js1
  exact stp (σ' := (ws, p, d, e, (sp_feed t x1 x2 x3 x4 x5).2, S, z)) b0 n1 o1 ⟨wf, pi, pn, kd, cv, sp_feed_vt vt x1 x2 x3 x4 x5, sv⟩ l1 (fun c k h => by unfold PxT CT at h; omega) hN l2 (fun c k h => by unfold PM at h; omega) hO ⟨sx2, js2⟩ ⟨XA_lo l1 (fun c k c1 c2 => by unfold PxT CT; omega) xa, XB_lo l1 (fun c k c1 c2 => by unfold PxT CT; omega) xb, XF_lo l1 (by unfold PxT CT; omega) (fun k => by unfold PxT CT; omega) xf, XC_lo l1 (fun k => by unfold PxT CT; omega) (fun k => by unfold PxT CT; omega) xc, n2, by rw [l1.2.2 _ _ (by decide) (by unfold PxT CT; omega)]; exact xz⟩ ⟨MA_lo l2 (fun c k c1 c2 => by unfold PM; omega) ma, MB_lo l2 (fun c k c1 => by unfold PM; omega) mb, MF_lo l2 (by unfold PM; omega) (fun k => by unfold PM; omega) mf, MC_lo l2 (fun k k1 k2 => by unfold PM; omega) (fun k => by unfold PM; omega) mc, o2, MZ_lo l2 sv.1 (by unfold PM; omega) (fun c k c1 c2 => by unfold PM; omega) mz, by rw [l2.2.2 _ _ (by decide) (by unfold PM; omega)]; exact my⟩
theorem st_trim (x1 : Int32) (I : INV L xs σ M) : STP L xs M (fun M => f_X11_trim 1 x1 M) (fun M => f_X12_trim 65 x1 M) := by
  obtain ⟨ws, p, d, e, t, S, z⟩ := σ
  obtain ⟨⟨wf, pi, pn, kd, cv, vt, sv⟩, b0, ⟨sx, js⟩, ⟨xa, xb, xf, xc, xt, xz⟩, mi0⟩ := I
  dsimp only at wf pi pn kd cv vt sv sx js xa xb xf xc xt xz
  have hS := b0.1
  obtain ⟨N, n1, n2, n3⟩ := x_trim hS vt xt x1
  have l1 : Lo PxT M N := Lo_ex n3 (D := PxT) (fun c k h => h)
  have hN : Sh N := Sh_ex n3 hS
  have sx1 : XS S N := XS_el (El.of n3) (by show ¬ PxT 1 0; unfold PxT CT; omega) (fun c hc => by show ¬ PxT c 0; unfold PxT CT; omega) sx
  have js1 : jsl N ≤ 100000 + 2000 * S.length := by rw [jsl_ex n3]; exact js
  obtain ⟨ma, mb, mf, mc, mt, mz, my⟩ := MI_c (σ := (ws, p, d, e, t, S, z)) l1 (fun c k h => by unfold PxT CT at h; omega) sv.1 mi0
  dsimp only at ma mb mf mc mt mz my
  obtain ⟨O, o1, o2, o3⟩ := m_trim hN vt mt x1
  have l2 : Lo PM N O := Lo_ey o3 (C := PM) (fun c k h => h)
  have hO : Sh O := Sh_ey o3 hN
  have sx2 : XS S O := XS_ez (Ez.of o3) (by unfold PM; omega) (fun c k hc => by unfold PM; omega) sx1
  have js2 : jsl O ≤ 100000 + 2000 * S.length := by rw [jsl_ey o3]; exact js1
  exact stp (σ' := (ws, p, d, e, (sp_trim t x1).2, S, z)) b0 n1 o1 ⟨wf, pi, pn, kd, cv, sp_trim_vt vt x1, sv⟩ l1 (fun c k h => by unfold PxT CT at h; omega) hN l2 (fun c k h => by unfold PM at h; omega) hO ⟨sx2, js2⟩ ⟨XA_lo l1 (fun c k c1 c2 => by unfold PxT CT; omega) xa, XB_lo l1 (fun c k c1 c2 => by unfold PxT CT; omega) xb, XF_lo l1 (by unfold PxT CT; omega) (fun k => by unfold PxT CT; omega) xf, XC_lo l1 (fun k => by unfold PxT CT; omega) (fun k => by unfold PxT CT; omega) xc, n2, by rw [l1.2.2 _ _ (by decide) (by unfold PxT CT; omega)]; exact xz⟩ ⟨MA_lo l2 (fun c k c1 c2 => by unfold PM; omega) ma, MB_lo l2 (fun c k c1 => by unfold PM; omega) mb, MF_lo l2 (by unfold PM; omega) (fun k => by unfold PM; omega) mf, MC_lo l2 (fun k k1 k2 => by unfold PM; omega) (fun k => by unfold PM; omega) mc, o2, MZ_lo l2 sv.1 (by unfold PM; omega) (fun c k c1 c2 => by unfold PM; omega) mz, by rw [l2.2.2 _ _ (by decide) (by unfold PM; omega)]; exact my⟩
theorem st_holds (x1 x2 : Int32) (I : INV L xs σ M) : STP L xs M (fun M => f_X11_holds 1 x1 x2 M) (fun M => f_X12_holds 65 x1 x2 M) := by
  obtain ⟨ws, p, d, e, t, S, z⟩ := σ
  obtain ⟨⟨wf, pi, pn, kd, cv, vt, sv⟩, b0, ⟨sx, js⟩, ⟨xa, xb, xf, xc, xt, xz⟩, mi0⟩ := I
  dsimp only at wf pi pn kd cv vt sv sx js xa xb xf xc xt xz
  have hS := b0.1
  obtain ⟨N, n1, n2, n3⟩ := x_holds hS xa wf sv sx xz x1 x2
  have l1 : Lo PxH M N := Lo_ex n3 (D := PxH) (fun c k h => h)
  have hN : Sh N := Sh_ex n3 hS
  have sx1 : XS S N := XS_el (El.of n3) (by show ¬ PxH 1 0; unfold PxH CA; omega) (fun c hc => by show ¬ PxH c 0; unfold PxH CA; omega) sx
  have js1 : jsl N ≤ 100000 + 2000 * S.length := by rw [jsl_ex n3]; exact js
  obtain ⟨ma, mb, mf, mc, mt, mz, my⟩ := MI_c (σ := (ws, p, d, e, t, S, z)) l1 (fun c k h => by unfold PxH CA at h; omega) sv.1 mi0
  dsimp only at ma mb mf mc mt mz my
  obtain ⟨O, o1, o2, o3⟩ := m_holds hN ma wf sv mz my x1 x2
  have l2 : Lo PH N O := Lo_ey o3 (C := PH) (fun c k h => h)
  have hO : Sh O := Sh_ey o3 hN
  have sx2 : XS S O := XS_ez (Ez.of o3) (by unfold PH; omega) (fun c k hc => by unfold PH; omega) sx1
  have js2 : jsl O ≤ 100000 + 2000 * S.length := by rw [jsl_ey o3]; exact js1
  exact stp (σ' := (ws, p, d, e, t, S, (sp_holds S ws x1 x2 z).2)) b0 n1 o1 ⟨wf, pi, pn, kd, cv, vt, sv⟩ l1 (fun c k h => by unfold PxH CA at h; omega) hN l2 (fun c k h => by unfold PH at h; omega) hO ⟨sx2, js2⟩ ⟨XA_lo l1 (fun c k c1 c2 => by unfold PxH CA; omega) xa, XB_lo l1 (fun c k c1 c2 => by unfold PxH CA; omega) xb, XF_lo l1 (by unfold PxH CA; omega) (fun k => by unfold PxH CA; omega) xf, XC_lo l1 (fun k => by unfold PxH CA; omega) (fun k => by unfold PxH CA; omega) xc, XT_lo l1 (by unfold PxH CA; omega) (fun k => by unfold PxH CA; omega) xt, n2⟩ ⟨MA_lo l2 (fun c k c1 c2 => by unfold PH; omega) ma, MB_lo l2 (fun c k c1 => by unfold PH; omega) mb, MF_lo l2 (by unfold PH; omega) (fun k => by unfold PH; omega) mf, MC_lo l2 (fun k k1 k2 => by unfold PH; omega) (fun k => by unfold PH; omega) mc, MT_lo l2 (by unfold PH; omega) (fun k => by unfold PH; omega) mt, MZ_lo l2 sv.1 (by unfold PH; omega) (fun c k c1 c2 => by unfold PH; omega) mz, o2⟩
theorem st_kinds (x1 x2 x3 : Int32) (I : INV L xs σ M) : STP L xs M (fun M => f_X11_kinds 1 x1 x2 x3 M) (fun M => f_X12_kinds 65 x1 x2 x3 M) := by
  obtain ⟨ws, p, d, e, t, S, z⟩ := σ
  obtain ⟨⟨wf, pi, pn, kd, cv, vt, sv⟩, b0, ⟨sx, js⟩, ⟨xa, xb, xf, xc, xt, xz⟩, mi0⟩ := I
  dsimp only at wf pi pn kd cv vt sv sx js xa xb xf xc xt xz
  have hS := b0.1
  obtain ⟨N, n1, n2, n3⟩ := x_kinds hS xa wf xf x1 x2 x3
  have l1 : Lo PxF M N := Lo_ex n3 (D := PxF) (fun c k h => h)
  have hN : Sh N := Sh_ex n3 hS
  have sx1 : XS S N := XS_el (El.of n3) (by show ¬ PxF 1 0; unfold PxF CF cM; omega) (fun c hc => by show ¬ PxF c 0; unfold PxF CF cM; omega) sx
  have js1 : jsl N ≤ 100000 + 2000 * S.length := by rw [jsl_ex n3]; exact js
  obtain ⟨ma, mb, mf, mc, mt, mz, my⟩ := MI_c (σ := (ws, p, d, e, t, S, z)) l1 (fun c k h => by unfold PxF CF cM at h; omega) sv.1 mi0
  dsimp only at ma mb mf mc mt mz my
  obtain ⟨O, o1, o2, o3⟩ := m_kinds hN ma wf mf x1 x2 x3
  have l2 : Lo PF N O := Lo_ey o3 (C := PF) (fun c k h => h)
  have hO : Sh O := Sh_ey o3 hN
  have sx2 : XS S O := XS_ez (Ez.of o3) (by unfold PF PG; omega) (fun c k hc => by unfold PF PG; omega) sx1
  have js2 : jsl O ≤ 100000 + 2000 * S.length := by rw [jsl_ey o3]; exact js1
  exact stp (σ' := (ws, p, (sp_kinds ws d x1 x2 x3).2, e, t, S, z)) b0 n1 o1 ⟨wf, pi, pn, sp_kinds_le kd wf x1 x2 x3, cv, vt, sv⟩ l1 (fun c k h => by unfold PxF CF cM at h; omega) hN l2 (fun c k h => by unfold PF PG at h; omega) hO ⟨sx2, js2⟩ ⟨XA_lo l1 (fun c k c1 c2 => by unfold PxF CF cM; omega) xa, XB_lo l1 (fun c k c1 c2 => by unfold PxF CF cM; omega) xb, n2, XC_lo l1 (fun k => by unfold PxF CF cM; omega) (fun k => by unfold PxF CF cM; omega) xc, XT_lo l1 (by unfold PxF CF cM; omega) (fun k => by unfold PxF CF cM; omega) xt, by rw [l1.2.2 _ _ (by decide) (by unfold PxF CF cM; omega)]; exact xz⟩ ⟨MA_lo l2 (fun c k c1 c2 => by unfold PF PG; omega) ma, MB_lo l2 (fun c k c1 => by unfold PF PG; omega) mb, o2, MC_lo l2 (fun k k1 k2 => by unfold PF PG; omega) (fun k => by unfold PF PG; omega) mc, MT_lo l2 (by unfold PF PG; omega) (fun k => by unfold PF PG; omega) mt, MZ_lo l2 sv.1 (by unfold PF PG; omega) (fun c k c1 c2 => by unfold PF PG; omega) mz, by rw [l2.2.2 _ _ (by decide) (by unfold PF PG; omega)]; exact my⟩
theorem st_colour (x1 x2 x3 : Int32) (I : INV L xs σ M) : STP L xs M (fun M => f_X11_colour 1 x1 x2 x3 M) (fun M => f_X12_colour 65 x1 x2 x3 M) := by
  obtain ⟨ws, p, d, e, t, S, z⟩ := σ
  obtain ⟨⟨wf, pi, pn, kd, cv, vt, sv⟩, b0, ⟨sx, js⟩, ⟨xa, xb, xf, xc, xt, xz⟩, mi0⟩ := I
  dsimp only at wf pi pn kd cv vt sv sx js xa xb xf xc xt xz
  have hS := b0.1
  obtain ⟨N, n1, n2, n3⟩ := x_colour hS xa wf xc x1 x2 x3
  have l1 : Lo PxC M N := Lo_el n3 (D := PxC) (fun c k h => h)
  have hN : Sh N := Sh_el n3 hS
  have sx1 : XS S N := XS_el n3 (by show ¬ PxC 1 0; unfold PxC C3; omega) (fun c hc => by show ¬ PxC c 0; unfold PxC C3; omega) sx
  have js1 : jsl N ≤ 100000 + 2000 * S.length := by rw [jsl_el n3]; exact js
  obtain ⟨ma, mb, mf, mc, mt, mz, my⟩ := MI_c (σ := (ws, p, d, e, t, S, z)) l1 (fun c k h => by unfold PxC C3 at h; omega) sv.1 mi0
  dsimp only at ma mb mf mc mt mz my
  obtain ⟨O, o1, o2, o3⟩ := m_colour hN ma wf mc x1 x2 x3
  have l2 : Lo PC N O := Lo_ez o3 (D := PC) (fun c k h => h)
  have hO : Sh O := Sh_ez o3 hN
  have sx2 : XS S O := XS_ez o3 (by unfold PC PL PT PS PG; omega) (fun c k hc => by unfold PC PL PT PS PG; omega) sx1
  have js2 : jsl O ≤ 100000 + 2000 * S.length := by rw [jsl_ez o3]; exact js1
  exact stp (σ' := (ws, p, d, (sp_colour ws e x1 x2 x3).2, t, S, z)) b0 n1 o1 ⟨wf, pi, pn, kd, sp_colour_cv cv wf x1 x2 x3, vt, sv⟩ l1 (fun c k h => by unfold PxC C3 at h; omega) hN l2 (fun c k h => by unfold PC PL PT PS PG at h; omega) hO ⟨sx2, js2⟩ ⟨XA_lo l1 (fun c k c1 c2 => by unfold PxC C3; omega) xa, XB_lo l1 (fun c k c1 c2 => by unfold PxC C3; omega) xb, XF_lo l1 (by unfold PxC C3; omega) (fun k => by unfold PxC C3; omega) xf, n2, XT_lo l1 (by unfold PxC C3; omega) (fun k => by unfold PxC C3; omega) xt, by rw [l1.2.2 _ _ (by decide) (by unfold PxC C3; omega)]; exact xz⟩ ⟨MA_lo l2 (fun c k c1 c2 => by unfold PC PL PT PS PG; omega) ma, MB_lo l2 (fun c k c1 => by unfold PC PL PT PS PG; omega) mb, MF_lo l2 (by unfold PC PL PT PS PG; omega) (fun k => by unfold PC PL PT PS PG; omega) mf, o2, MT_lo l2 (by unfold PC PL PT PS PG; omega) (fun k => by unfold PC PL PT PS PG; omega) mt, MZ_lo l2 sv.1 (by unfold PC PL PT PS PG; omega) (fun c k c1 c2 => by unfold PC PL PT PS PG; omega) mz, by rw [l2.2.2 _ _ (by decide) (by unfold PC PL PT PS PG; omega)]; exact my⟩
theorem st_still (x1 : Int32) (I : INV L xs σ M) : STP L xs M (fun M => f_X11_still 1 x1 M) (fun M => f_X12_still 65 x1 M) := by
  obtain ⟨ws, p, d, e, t, S, z⟩ := σ
  obtain ⟨⟨wf, pi, pn, kd, cv, vt, sv⟩, b0, ⟨sx, js⟩, ⟨xa, xb, xf, xc, xt, xz⟩, mi0⟩ := I
  dsimp only at wf pi pn kd cv vt sv sx js xa xb xf xc xt xz
  have hS := b0.1
  obtain ⟨N, n1, n3⟩ := x_still hS cv xc x1
  have l1 : Lo PxS M N := Lo_ex n3 (D := PxS) (fun c k h => h)
  have hN : Sh N := Sh_ex n3 hS
  have sx1 : XS S N := XS_el (El.of n3) (by show ¬ PxS 1 0; unfold PxS; omega) (fun c hc => by show ¬ PxS c 0; unfold PxS; omega) sx
  have js1 : jsl N ≤ 100000 + 2000 * S.length := by rw [jsl_ex n3]; exact js
  obtain ⟨ma, mb, mf, mc, mt, mz, my⟩ := MI_c (σ := (ws, p, d, e, t, S, z)) l1 (fun c k h => by unfold PxS at h; omega) sv.1 mi0
  dsimp only at ma mb mf mc mt mz my
  have o1 := m_still hN mc x1
  have o3 : Ey PxN N N := Ey.rf
  have l2 : Lo PxN N N := Lo_ey o3 (C := PxN) (fun c k h => h)
  have hO : Sh N := Sh_ey o3 hN
  have sx2 : XS S N := XS_ez (Ez.of o3) (by unfold PxN; omega) (fun c k hc => by unfold PxN; omega) sx1
  have js2 : jsl N ≤ 100000 + 2000 * S.length := by rw [jsl_ey o3]; exact js1
  exact stp (σ' := (ws, p, d, e, t, S, z)) b0 n1 o1 ⟨wf, pi, pn, kd, cv, vt, sv⟩ l1 (fun c k h => by unfold PxS at h; omega) hN l2 (fun c k h => by unfold PxN at h; omega) hO ⟨sx2, js2⟩ ⟨XA_lo l1 (fun c k c1 c2 => by unfold PxS; omega) xa, XB_lo l1 (fun c k c1 c2 => by unfold PxS; omega) xb, XF_lo l1 (by unfold PxS; omega) (fun k => by unfold PxS; omega) xf, XC_lo l1 (fun k => by unfold PxS; omega) (fun k => by unfold PxS; omega) xc, XT_lo l1 (by unfold PxS; omega) (fun k => by unfold PxS; omega) xt, by rw [l1.2.2 _ _ (by decide) (by unfold PxS; omega)]; exact xz⟩ ⟨MA_lo l2 (fun c k c1 c2 => by unfold PxN; omega) ma, MB_lo l2 (fun c k c1 => by unfold PxN; omega) mb, MF_lo l2 (by unfold PxN; omega) (fun k => by unfold PxN; omega) mf, MC_lo l2 (fun k k1 k2 => by unfold PxN; omega) (fun k => by unfold PxN; omega) mc, MT_lo l2 (by unfold PxN; omega) (fun k => by unfold PxN; omega) mt, MZ_lo l2 sv.1 (by unfold PxN; omega) (fun c k c1 c2 => by unfold PxN; omega) mz, by rw [l2.2.2 _ _ (by decide) (by unfold PxN; omega)]; exact my⟩
theorem st_read (I : INV L xs σ M) : STP L xs M (fun M => f_X11_read 1  M) (fun M => f_X12_read 65  M) := by
  obtain ⟨ws, p, d, e, t, S, z⟩ := σ
  obtain ⟨⟨wf, pi, pn, kd, cv, vt, sv⟩, b0, ⟨sx, js⟩, ⟨xa, xb, xf, xc, xt, xz⟩, mi0⟩ := I
  dsimp only at wf pi pn kd cv vt sv sx js xa xb xf xc xt xz
  have hS := b0.1
  obtain ⟨N, n1, nS, n2, sx1, n3, nR⟩ := x_read vt sv hS xt sx
  have js1 : jsl N ≤ 100000 + 2000 * (sp_read t S).2.2.length := by unfold Rm at nR; omega
  have l1 : Lo CRd M N := n3
  have hN : Sh N := nS
  obtain ⟨ma, mb, mf, mc, mt, mz, my⟩ := MI_c (σ := (ws, p, d, e, t, S, z)) l1 (fun c k h => by unfold CRd CK PQ at h; omega) sv.1 mi0
  dsimp only at ma mb mf mc mt mz my
  obtain ⟨O, o1, o2, o4, o3⟩ := m_read vt sv hN mt mz
  have sv2 := sp_read_sv vt sv
  have vt2 := sp_read_vt (t := t) (S := S)
  have l2 : Lo PRd N O := Lo_ey o3 (C := PRd) (fun c k h => h)
  have hO : Sh O := Sh_ey o3 hN
  generalize hS2 : (sp_read t S).2.2 = S2 at *
  have sx2 : XS S2 O := XS_ez (Ez.of o3) (by unfold PRd PGr PK; omega) (fun c k hc => by unfold PRd PGr PK; omega) sx1
  have js2 : jsl O ≤ 100000 + 2000 * S2.length := by rw [jsl_ey o3]; exact js1
  exact stp (σ' := (ws, p, d, e, (sp_read t S).2.1, S2, z)) b0 n1 o1 ⟨wf, pi, pn, kd, cv, vt2, sv2⟩ l1 (fun c k h => by unfold CRd CK PQ at h; omega) hN l2 (fun c k h => by unfold PRd PGr PK at h; omega) hO ⟨sx2, js2⟩ ⟨XA_lo l1 (fun c k c1 c2 => by unfold CRd CK PQ; omega) xa, XB_lo l1 (fun c k c1 c2 => by unfold CRd CK PQ; omega) xb, XF_lo l1 (by unfold CRd CK PQ; omega) (fun k => by unfold CRd CK PQ; omega) xf, XC_lo l1 (fun k => by unfold CRd CK PQ; omega) (fun k => by unfold CRd CK PQ; omega) xc, n2, by rw [l1.2.2 _ _ (by decide) (by unfold CRd CK PQ; omega)]; exact xz⟩ ⟨MA_lo l2 (fun c k c1 c2 => by unfold PRd PGr PK; omega) ma, MB_lo l2 (fun c k c1 => by unfold PRd PGr PK; omega) mb, MF_lo l2 (by unfold PRd PGr PK; omega) (fun k => by unfold PRd PGr PK; omega) mf, MC_lo l2 (fun k k1 k2 => by unfold PRd PGr PK; omega) (fun k => by unfold PRd PGr PK; omega) mc, o2, o4, by rw [l2.2.2 _ _ (by decide) (by unfold PRd PGr PK; omega)]; exact my⟩
theorem st_part (x1 x2 : Int32) (I : INV L xs σ M) : STP L xs M (fun M => f_X11_part 1 x1 x2 M) (fun M => f_X12_part 65 x1 x2 M) := by
  obtain ⟨ws, p, d, e, t, S, z⟩ := σ
  obtain ⟨⟨wf, pi, pn, kd, cv, vt, sv⟩, b0, ⟨sx, js⟩, ⟨xa, xb, xf, xc, xt, xz⟩, mi0⟩ := I
  dsimp only at wf pi pn kd cv vt sv sx js xa xb xf xc xt xz
  have hS := b0.1
  obtain ⟨N, n1, nS, sx1, n3, nR⟩ := x_part_ hS xa wf sv sx x1 x2
  have js1 : jsl N ≤ 100000 + 2000 * (sp_part ws S x1 x2).2.length := by unfold Rm at nR; omega
  have l1 : Lo CPt M N := n3
  have hN : Sh N := nS
  obtain ⟨ma, mb, mf, mc, mt, mz, my⟩ := MI_c (σ := (ws, p, d, e, t, S, z)) l1 (fun c k h => by unfold CPt CK at h; omega) sv.1 mi0
  dsimp only at ma mb mf mc mt mz my
  obtain ⟨O, o1, o4, o3⟩ := m_part_ hN ma wf sv mz x1 x2
  have sv2 := sp_part_sv wf sv x1 x2
  have l2 : Lo PPt N O := Lo_ey o3 (C := PPt) (fun c k h => h)
  have hO : Sh O := Sh_ey o3 hN
  generalize hS2 : (sp_part ws S x1 x2).2 = S2 at *
  have sx2 : XS S2 O := XS_ez (Ez.of o3) (by unfold PPt PPr PG PNm PK; omega) (fun c k hc => by unfold PPt PPr PG PNm PK; omega) sx1
  have js2 : jsl O ≤ 100000 + 2000 * S2.length := by rw [jsl_ey o3]; exact js1
  exact stp (σ' := (ws, p, d, e, t, S2, z)) b0 n1 o1 ⟨wf, pi, pn, kd, cv, vt, sv2⟩ l1 (fun c k h => by unfold CPt CK at h; omega) hN l2 (fun c k h => by unfold PPt PPr PG PNm PK at h; omega) hO ⟨sx2, js2⟩ ⟨XA_lo l1 (fun c k c1 c2 => by unfold CPt CK; omega) xa, XB_lo l1 (fun c k c1 c2 => by unfold CPt CK; omega) xb, XF_lo l1 (by unfold CPt CK; omega) (fun k => by unfold CPt CK; omega) xf, XC_lo l1 (fun k => by unfold CPt CK; omega) (fun k => by unfold CPt CK; omega) xc, XT_lo l1 (by unfold CPt CK; omega) (fun k => by unfold CPt CK; omega) xt, by rw [l1.2.2 _ _ (by decide) (by unfold CPt CK; omega)]; exact xz⟩ ⟨MA_lo l2 (fun c k c1 c2 => by unfold PPt PPr PG PNm PK; omega) ma, MB_lo l2 (fun c k c1 => by unfold PPt PPr PG PNm PK; omega) mb, MF_lo l2 (by unfold PPt PPr PG PNm PK; omega) (fun k => by unfold PPt PPr PG PNm PK; omega) mf, MC_lo l2 (fun k k1 k2 => by unfold PPt PPr PG PNm PK; omega) (fun k => by unfold PPt PPr PG PNm PK; omega) mc, MT_lo l2 (by unfold PPt PPr PG PNm PK; omega) (fun k => by unfold PPt PPr PG PNm PK; omega) mt, o4, by rw [l2.2.2 _ _ (by decide) (by unfold PPt PPr PG PNm PK; omega)]; exact my⟩
end STS
