section JN
variable {G : jG} {mm : jMeth} {d pc : Nat} {ls : List (Nat × Value)} {st : List Value} {M : jM} {Q : Option Value → jM → Prop}
theorem tg_nw_lt {t : jT} {b : Nat} (h : b < M.1.length) : tg (nw M t) b = tg M b := by
  unfold tg nw
  rw [List.getD_eq_getElem?_getD, List.getD_eq_getElem?_getD, List.getElem?_append_left h]
theorem tg_nw_eq {t : jT} : tg (nw M t) M.1.length = t := by
  unfold tg nw
  rw [List.getD_eq_getElem?_getD, List.getElem?_append_right (Nat.le_refl _), Nat.sub_self]
  rfl
theorem rI_nw {t : jT} {b : Nat} : rI (nw M t) b = if b = M.1.length then (fun _ => 0) else rI M b := rfl
theorem rL_nw {t : jT} {b : Nat} : rL (nw M t) b = if b = M.1.length then (fun _ => 0) else rL M b := rfl
theorem rR_nw {t : jT} {b : Nat} : rR (nw M t) b = if b = M.1.length then (fun _ => none) else rR M b := rfl
theorem jE_nw {t : jT} {b : Nat} (h : b < M.1.length) : jE G (nw M t) b = jE G M b :=
  jE_eq (tg_nw_lt h) (by rw [rI_nw, if_neg (by omega)]) (by rw [rL_nw, if_neg (by omega)]) (by rw [rR_nw, if_neg (by omega)])
/-- a cell is made -/
theorem jH_nw {t : jT} {H H1 : Heap} (h : jH G M H) (hc : va_at (jD G) vwCl (jad G M.1.length, jE G (nw M t) M.1.length) H1) (hz : H1.size = H.size + 1) (hq : ∀ q : Nat, q < H.size → H1[q]? = H[q]?) : jH G (nw M t) H1 := by
  obtain ⟨h1, h2, h3, h4, h5⟩ := h
  refine ⟨by rw [jln_nw]; omega, by rw [jln_nw, hz, h2]; omega, fun k q hk => ?_, by rw [tg_nw_lt (by omega)]; exact h4, fun j => by rw [rI_nw, if_neg (by omega)]; exact h5 j⟩
  obtain ⟨hl, rfl⟩ := jws_of hk
  rw [jln_nw] at hl
  by_cases hka : k + 1 = M.1.length
  · rw [hka]
    have e : jad G M.1.length = jn G + k := by rw [jad_pos (by omega)]; omega
    rw [e] at hc
    exact hc
  · rw [jE_nw (by omega)]
    exact (h3 k _ (jws_at (by omega))).kept (hq _ (by show jn G + k < H.size; omega))
theorem jS_nw {s : State} {H H1 : Heap} {locs : List Loc} (h : va_S (jA G) s.heap H locs) (z : H1.size = H.size + 1) (oq : ∀ q : Nat, q < H.size → H1[q]? = H[q]?) : va_S (jA G) s.heap H1 locs :=
  ⟨Nat.le_trans h.1 (by omega), fun q h1 h2 => (oq q (Nat.lt_of_lt_of_le h1 h.1)).trans (h.2.1 q h1 h2), h.2.2⟩
theorem V.gon {pc2 : Nat} {st2 : List Value} {t : jT}
    (hW : ∀ (p : Program) (e : Env) (R : Room) (s : State) (m : MethodId) (args : Array Value) (below : List Frame) (meth : Method) (c : Code) (lsR : Array Slot) (H : Heap) (locs : List Loc) (cells slots : Nat) (Z : State → Prop), jCx G mm p R s m args meth c d → jH G M H → va_S (jA G) s.heap H locs → lv_has lsR mm.2.2.1 (ls.map (jrp G)) → cells + 1 ≤ R.cells → slots + jsz t ≤ R.slots →
      (∀ (H1 : Heap), jH G (nw M t) H1 → va_S (jA G) s.heap H1 locs → W p (jl G) e R s m args below meth c H1 locs (cells + 1) (slots + jsz t) Z (F0 m pc2 lsR (st2.map (jre G)))) → W p (jl G) e R s m args below meth c H locs cells slots Z (F0 m pc lsR (st.map (jre G))))
    (k : V G mm d pc2 ls st2 (nw M t) Q) : V G mm d pc ls st M Q := by
  obtain ⟨r, M', hQ, hl, h⟩ := k
  have l1 := hl.1
  have l2 := hl.2
  rw [jln_nw] at l1
  rw [jsl_nw] at l2
  refine ⟨r, M', hQ, jle_tr jle_nw hl, fun p e R s m args below meth c lsR H locs Me hc hb h1 h2 h3 h4 => ?_⟩
  have k1 := h1.1
  have k2 := h1.2
  have k3 := hb.1
  have k4 := hb.2
  refine hW p e R s m args below meth c lsR H locs _ _ _ hc h2 h3 h4 (by omega) (by omega) (fun H1 g1 g2 => ?_)
  have h5 := h p e R s m args below meth c lsR H1 locs Me hc hb (jle_tr h1 jle_nw) g1 g2 h4
  rw [jln_nw, jsl_nw] at h5
  rw [show M.1.length - Me.1.length + 1 = M.1.length + 1 - Me.1.length by omega, show jsl M - jsl Me + jsz t = jsl M + jsz t - jsl Me by omega]
  exact h5
/-- a class that can be made -/
def jCl (own : String) (idx ci : Nat) : Prop := ∃ (C : String) (T : u_T) (N : Nat) (tyf : Nat → FieldType), vwCl[ci]? = some (C, T, N) ∧ ci < 12 ∧ (jsig ci).length = N ∧ Cond.classLink own idx C ∈ jtb ∧ Cond.instantiable C N ∈ jtb ∧ Cond.initialized C ∈ jtb ∧ (∀ w ∈ u_ws C T N, w ∈ jtb) ∧ (∀ k, k < N → parseFieldDescriptor (T k).2.2.1 = some (tyf k)) ∧ (∀ k, k < N → defaultValue (tyf k) = if (jsig ci).getD k false = true then .null else .int 0)
theorem v_new {idx ci : Nat} (hd : decode mm.2.1 pc = .ok (.new idx, 3)) (cl : jCl mm.1.cls idx ci) (kk : V G mm d (pc + 3) ls (.ref M.1.length :: st) (nw M (ci, 0)) Q) : V G mm d pc ls st M Q := by
  obtain ⟨C, T, N, tyf, f1, f2, f3, f4, f5, f6, f7, f8, f9⟩ := cl
  refine V.gon (t := (ci, 0)) (fun p e R s m args below meth c lsR H locs cells slots Z hc hH hS hl hcl hsl w => ?_) kk
  have hKn := hc.2.2.2.2.2.2.2.2.1.1.1 ci _ f1
  have hts := hc.2.2.2.2.2.2.2.1
  have es : jsz (ci, 0) = N := by simp [jsz, f2, f3]
  rw [es] at hsl w
  refine W.newcK hc.1 hc.2.1 hc.2.2.2.2.2.1 (hts _ f4) (hts _ f5) (hts _ f6) rfl hd hcl hsl hKn.2.1 rfl fun H1 kC hkC e1 z1 o1 => ?_
  have ea : H.size = jad G M.1.length := by rw [jad_pos (by have := hH.1; omega)]; exact hH.2.1
  have e9 : (F0 m (pc + 3) lsR (.ref H.size :: st.map (jre G))) = F0 m (pc + 3) lsR (((Value.ref M.1.length) :: st).map (jre G)) := by rw [ea]; rfl
  refine W.eq e9 (w H1 (jH_nw hH ?_ z1 o1) (jS_nw hS z1 o1))
  rw [jE_obj (M := nw M (ci, 0)) tg_nw_eq f2, ← ea]
  refine ⟨_, f1, (u_born tyf hts f7 hKn hkC e1 f8).to fun j hj => ?_⟩
  rw [f9 j hj]
  have hj2 : j < (jsig ci).length := by rw [f3]; exact hj
  simp only [vp_V]
  rw [List.getD_eq_getElem?_getD (l := jF G ci (nw M (ci, 0)) M.1.length), jF_at hj2, rR_nw, rI_nw, if_pos rfl, if_pos rfl]
  rfl
theorem jw_narr {k : Nat} {atype : ArrayType} {ty : FieldType} {n : Int32} {N : Nat} (hd : decode mm.2.1 pc = .ok (.newarray atype, 2)) (hty : newarray.typeOf atype = ty) (hw : Cond.arrayClass ty ∈ jtb) (hk : ∀ G : jG, ∃ i : Nat, (jtys G)[i]? = some (jc G k, ty)) (hnr : ∀ C, ty ≠ .object C)
    (hE : ∀ cA : Nat → ClassId, jsz (k, N) = N ∧ ∀ (G : jG) (M : jM) (a : Nat), jc G = cA → tg M a = (k, N) → rI M a = (fun _ => 0) → rL M a = (fun _ => 0) → ∃ x : vp_A, jE G M a = .inl (cA k, x) ∧ vp_cell (cA k) x = arrV (cA k) N (fun _ => defaultValue ty))
    (hn : ¬ n < 0) (hN : n.toNatClampNeg = N) (hby : N * componentBytes ty ≤ 536870912) (kk : V G mm d (pc + 2) ls (.ref M.1.length :: st) (nw M (k, N)) Q) : V G mm d pc ls (.int n :: st) M Q := by
  refine V.gon (t := (k, N)) (fun p e R s m args below meth c lsR H locs cells slots Z hc hH hS hl hcl hsl w => ?_) kk
  have hts := hc.2.2.2.2.2.2.2.1
  have es : jsz (k, N) = N := (hE (jc G)).1
  rw [es] at hsl w
  subst hty
  refine va_newaK hc.1 hc.2.1 (hts _ hw) rfl hd rfl hn hN hby hcl hsl rfl fun H1 cA e1 z1 o1 hAr hNm => ?_
  have ea : H.size = jad G M.1.length := by rw [jad_pos (by have := hH.1; omega)]; exact hH.2.1
  have e9 : (F0 m (pc + 2) lsR (.ref H.size :: st.map (jre G))) = F0 m (pc + 2) lsR (((Value.ref M.1.length) :: st).map (jre G)) := by rw [ea]; rfl
  refine W.eq e9 (w H1 (jH_nw hH ?_ z1 o1) (jS_nw hS z1 o1))
  obtain ⟨x, hx1, hx2⟩ := (hE (jc G)).2 G (nw M (k, N)) M.1.length rfl tg_nw_eq (by rw [rI_nw, if_pos rfl]) (by rw [rL_nw, if_pos rfl])
  obtain ⟨i, hi⟩ := hk G
  have hRA := (hc.2.2.2.2.2.2.2.2.1.1.2 i _ hi).2
  have hcA : jc G k = cA := by
    have hf : s.vm.findClass ("[" ++ (newarray.typeOf atype).toString) = some (jc G k) := by
      cases atype <;> exact hRA
    exact Option.some.inj (hf.symm.trans hNm)
  rw [hx1, ← ea]
  show H1[H.size]? = some (vp_cell _ _)
  rw [hx2, hcA]
  exact e1
theorem v_newI {n : Int32} {N : Nat} (hd : decode mm.2.1 pc = .ok (.newarray .int, 2)) (hw : Cond.arrayClass .int ∈ jtb) (hn : ¬ n < 0) (hN : n.toNatClampNeg = N) (hby : N ≤ 100000) (kk : V G mm d (pc + 2) ls (.ref M.1.length :: st) (nw M (100, N)) Q) : V G mm d pc ls (.int n :: st) M Q :=
  jw_narr (ty := .int) hd rfl hw (fun _ => ⟨0, rfl⟩) (fun _ h => by cases h) (fun cA => ⟨rfl, fun G M a h1 h2 h3 h4 => ⟨_, by rw [jE_int h2, h1], by rw [h3]; rfl⟩⟩) hn hN (by show N * 4 ≤ _; omega) kk
theorem v_newB {n : Int32} {N : Nat} (hd : decode mm.2.1 pc = .ok (.newarray .byte, 2)) (hw : Cond.arrayClass .byte ∈ jtb) (hn : ¬ n < 0) (hN : n.toNatClampNeg = N) (hby : N ≤ 100000) (kk : V G mm d (pc + 2) ls (.ref M.1.length :: st) (nw M (101, N)) Q) : V G mm d pc ls (.int n :: st) M Q :=
  jw_narr (ty := .byte) hd rfl hw (fun _ => ⟨1, rfl⟩) (fun _ h => by cases h) (fun cA => ⟨rfl, fun G M a h1 h2 h3 h4 => ⟨_, by rw [jE_byte h2, h1], by rw [h3]; rfl⟩⟩) hn hN (by show N * 1 ≤ _; omega) kk
theorem v_newJ {n : Int32} {N : Nat} (hd : decode mm.2.1 pc = .ok (.newarray .long, 2)) (hw : Cond.arrayClass .long ∈ jtb) (hn : ¬ n < 0) (hN : n.toNatClampNeg = N) (hby : N ≤ 100000) (kk : V G mm d (pc + 2) ls (.ref M.1.length :: st) (nw M (102, N)) Q) : V G mm d pc ls (.int n :: st) M Q :=
  jw_narr (ty := .long) hd rfl hw (fun _ => ⟨2, rfl⟩) (fun _ h => by cases h) (fun cA => ⟨rfl, fun G M a h1 h2 h3 h4 => ⟨_, by rw [jE_long h2, h1], by rw [h4]; rfl⟩⟩) hn hN (by show N * 8 ≤ _; omega) kk
theorem v_newA {idx t N : Nat} {C : String} {n : Int32} (hd : decode mm.2.1 pc = .ok (.anewarray idx, 3)) (hw : Cond.classLink mm.1.cls idx C ∈ jtb) (hC : t = 103 ∧ C = "TwoWorlds$World" ∨ t = 104 ∧ C = "TwoWorlds$Sentence") (hn : ¬ n < 0) (hN : n.toNatClampNeg = N) (hby : N ≤ 100000) (kk : V G mm d (pc + 3) ls (.ref M.1.length :: st) (nw M (t, N)) Q) : V G mm d pc ls (.int n :: st) M Q := by
  refine V.gon (t := (t, N)) (fun p e R s m args below meth c lsR H locs cells slots Z hc hH hS hl hcl hsl w => ?_) kk
  have hts := hc.2.2.2.2.2.2.2.1
  have es : jsz (t, N) = N := by
    simp only [jsz]
    rw [if_neg (by show ¬ t < 12; omega), if_neg (by show ¬ t = 105; omega)]
  rw [es] at hsl w
  have hK := hc.2.2.2.2.2.2.2.2.1
  have hAO : va_AO C s := by rcases hC with ⟨-, rfl⟩ | ⟨-, rfl⟩; exact hK.2.2.1; exact hK.2.2.2
  subst hN
  refine W.anew hc.1 hc.2.1 hc.2.2.2.2.2.1 (hts _ hw) (va_AO.use hAO) rfl hd rfl hn (by omega) hcl hsl fun cA kA comp q1 q2 q3 q4 => ?_
  have hcA : jc G t = cA := by
    rcases hC with ⟨rfl, rfl⟩ | ⟨rfl, rfl⟩
    · obtain ⟨_, _, -, -, -, h4⟩ := (hK.1.2 3 _ rfl).2
      exact Option.some.inj (h4.symm.trans q1)
    · obtain ⟨_, _, -, -, -, h4⟩ := (hK.1.2 4 _ rfl).2
      exact Option.some.inj (h4.symm.trans q1)
  generalize hH1 : H.push ({ cls := cA, slots := Array.replicate n.toNatClampNeg .null, vm := .none } : Cell) = H1
  have z1 : H1.size = H.size + 1 := by rw [← hH1, Array.size_push]
  have e1 : H1[H.size]? = some (arrV cA n.toNatClampNeg (fun _ => .null)) := by rw [← hH1, Array.getElem?_push_size, ← arrV_new]
  have o1 : ∀ q : Nat, q < H.size → H1[q]? = H[q]? := fun q hq => by rw [← hH1, Array.getElem?_push, if_neg (Nat.ne_of_lt hq)]
  have ea : H.size = jad G M.1.length := by rw [jad_pos (by have := hH.1; omega)]; exact hH.2.1
  have e9 : (F0 m (pc + 3) lsR (.ref H.size :: st.map (jre G))) = F0 m (pc + 3) lsR (((Value.ref M.1.length) :: st).map (jre G)) := by rw [ea]; rfl
  refine W.eq e9 (w H1 (jH_nw hH ?_ z1 o1) (jS_nw hS z1 o1))
  rw [jE_ref (M := nw M (t, n.toNatClampNeg)) tg_nw_eq (by omega), ← ea]
  show H1[H.size]? = some (vp_cell _ _)
  rw [vp_cell_q, hcA, e1, rR_nw, if_pos rfl]
  rfl
end JN
