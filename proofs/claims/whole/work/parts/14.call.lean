section JC
variable {G : jG} {mm mm2 : jMeth} {d pc : Nat} {ls : List (Nat × Value)} {st : List Value} {M : jM} {Q : Option Value → jM → Prop}
theorem jargs (As : List Value) : ∀ i, lv_args i (As.map (jre G)) = (lv_args i As).map (jrp G) := by
  induction As with
  | nil => intro i; rfl
  | cons v vs ih =>
    intro i
    show (i, jre G v) :: lv_args (if (jre G v).category = 2 then i + 2 else i + 1) (vs.map (jre G)) = jrp G (i, v) :: (lv_args (if v.category = 2 then i + 2 else i + 1) vs).map (jrp G)
    rw [jre_cat, ih]
    rfl
theorem jsl_args (As : List Value) : (lg_sl (As.map (jre G))).length = (lg_sl As).length := by
  induction As with
  | nil => rfl
  | cons v vs ih =>
    unfold lg_sl at ih ⊢
    rw [List.map_cons, List.flatMap_cons, List.flatMap_cons, List.length_append, List.length_append, ih, jre_cat]
    congr 1
    by_cases h : v.category = 2
    · rw [if_pos h, if_pos h]; rfl
    · rw [if_neg h, if_neg h]; rfl
theorem jcat_sum (l : List Value) : ((l.map (jre G)).map fun v => v.category).sum = (l.map fun v => v.category).sum := by
  rw [List.map_map]
  congr 1
  apply List.map_congr_left
  intro v _
  exact jre_cat G v
def jPs (G : jG) (M : jM) (U : State) : Prop := jH G M U.heap ∧ jK G U ∧ jn G ≤ U.heap.size ∧ jb G < jn G ∧ va_X (jb G) (jL G) (jx G) U U.heap
def jPc (G : jG) (As : List Value) (M : jM) : Array Value → State → Prop := va_Pc (As.map (jre G)) (jPs G M)
theorem jPc_blind (As : List Value) : FrameBlind (jPc G As M) := by
  intro a U g mk h
  obtain ⟨h0, h1, h2, h3, h4, h5⟩ := h
  refine ⟨h0, h1, ⟨va_K.moved (u := U) (U := U.calling g mk a) (Vm.Alike.refl U.vm) h2.1, fun a' i x y hw => va_Nw.same rfl (rfl : U.vm = (U.calling g mk a).vm) (h2.2.1 a' i x y hw), va_AO.moved (Vm.Alike.refl U.vm) h2.2.2.1, va_AO.moved (Vm.Alike.refl U.vm) h2.2.2.2⟩, h3, h4, va_X.moved (u := U) (U := U.calling g mk a) (Vm.Alike.refl U.vm) h5⟩
abbrev jws2 (mm : jMeth) : List Cond := Cond.code mm.1 mm.2.1 mm.2.2.1 mm.2.2.2 :: jtb
abbrev jrm (d : Nat) (M M' : jM) : Room := { frames := d, cells := M'.1.length - M.1.length, slots := jsl M' - jsl M, locals := 64 * d }
/-- a method of the claim: the words on it -/
def jMe (mm : jMeth) (n : Nat) : Prop := plainName mm.1.cls = true ∧ Cond.code mm.1 mm.2.1 mm.2.2.1 mm.2.2.2 ∈ jtb ∧ Cond.initialized mm.1.cls ∈ jtb ∧ (mm.1.cls ≠ "java/lang/invoke/MethodHandle" ∧ mm.1.cls ≠ "java/lang/invoke/VarHandle" ∧ (parseMethodDescriptor mm.1.desc).map (fun d => d.parameters.length) = some n) ∧ mm.2.2.1 ≤ 40
/-- the contract of a run -/
theorem jMet {As : List Value} {r : Option Value} {M' : jM} (hpl : plainName mm.1.cls = true) (hls : (lg_sl As).length ≤ mm.2.2.1) (hW : ∀ (p : Program) (e : Env) (R : Room) (s : State) (m : MethodId) (args : Array Value) (below : List Frame) (meth : Method) (c : Code) (lsR : Array Slot) (H : Heap) (locs : List Loc) (Me : jM),
    jCx G mm p R s m args meth c d → M'.1.length - Me.1.length ≤ R.cells ∧ jsl M' - jsl Me ≤ R.slots → jle Me M → jH G M H → va_S (jA G) s.heap H locs → lv_has lsR mm.2.2.1 ((lv_args 0 As).map (jrp G)) →
    W p (jl G) e R s m args below meth c H locs (M.1.length - Me.1.length) (jsl M - jsl Me) (MQ below (jQ G r M') args s (M'.1.length - Me.1.length) (jsl M' - jsl Me) (jA G)) (F0 m 0 lsR [])) :
    Met (jl G) mm.1 (jws2 mm) (jrm d M M') (jPc G As M) (jQ G r M') (M'.1.length - M.1.length) (jsl M' - jsl M) (jA G) := by
  refine Met.ofW (cc := mm.2.1) (maxL := mm.2.2.1) (ret := mm.2.2.2) hpl rfl ?_
  intro p e s m args below meth c s₁ B hml hv
  obtain ⟨rfl, h1, h2, h3, h4, h5⟩ := hv
  have hts := atoms_spec (ws := jws2 mm) B.pre
  have hl := lv_entry (As.map (jre G)) (n := mm.2.2.1) (by rw [jsl_args]; exact hls)
  rw [lg_entry_eq]
  rw [jargs] at hl
  have h := hW p e (jrm d M M') s m _ below meth c _ s.heap [] M ⟨B.exec, B.bytes, B.returns, B.notSynchronized, hml, findClass_of_methodNamed B.named, (name_of_methodNamed B.named B.method).1, fun w hw => hts w (List.mem_cons_of_mem _ hw), h2, h3, ⟨h4, h5⟩, Nat.le_refl _, Nat.le_refl _⟩ ⟨Nat.le_refl _, Nat.le_refl _⟩ jle_rf h1 va_S.rf hl
  rw [Nat.sub_self, Nat.sub_self] at h
  exact h
theorem j_back {p : Program} {e : Env} {R : Room} {s : State} {m : MethodId} {args a : Array Value} {below : List Frame} {meth : Method} {c : Code} {H : Heap} {locs : List Loc} {cells slots mc ms : Nat} {Z : State → Prop} {lsR : Array Slot} {st0 rest : List Value} {r : Option Value} {M1 : jM}
    (hr : va_Run p (jl G) e R s m args below meth c H locs cells slots mc ms (F0 m pc lsR st0) rest (jQ G r M1 a) (jA G)) (hS : va_S (jA G) s.heap H locs)
    (kk : ∀ (H1 : Heap) (locs1 : List Loc), jH G M1 H1 → va_S (jA G) s.heap H1 locs1 → W p (jl G) e R s m args below meth c H1 locs1 (cells + mc) (slots + ms) Z (F0 m (pc + 3) lsR ((r.map (jre G)).toList ++ rest))) : W p (jl G) e R s m args below meth c H locs cells slots Z (F0 m pc lsR st0) := by
  intro T hT X
  obtain ⟨v, st₀, t, T', L, h0, X', hL, e1, e2, ⟨hv, hH, hK, hz, hk⟩, st⟩ := hr T hT X
  cases hv
  rw [h0] at hz hk
  obtain ⟨t2, a1, b1⟩ := kk T'.heap (locs ++ L) (by rw [e1]; exact hH)
    ⟨Nat.le_trans hS.1 (by rw [e1]; exact hz), fun q h1 h2 => by rw [e1, hk q (Nat.lt_of_lt_of_le h1 hS.1) h2]; exact hS.2.1 q h1 h2, fun q hq => by
      rcases List.mem_append.mp hq with h | h
      · exact hS.2.2 q h
      · exact hL q h⟩ T' rfl X'
  exact ⟨t2, st t2 a1, b1⟩
theorem jPs_of {p : Program} {R : Room} {s : State} {m : MethodId} {args : Array Value} {meth : Method} {c : Code} {H : Heap} {locs : List Loc} (hc : jCx G mm p R s m args meth c d) (hH : jH G M H) (hS : va_S (jA G) s.heap H locs) {U : State} (hU : U.heap = H) (hW : s.WarmedH U.vm) : jPs G M U := by
  obtain ⟨hb, hX⟩ := hc.2.2.2.2.2.2.2.2.2.2.1
  refine ⟨by rw [hU]; exact hH, jK_warm hW hc.2.2.2.2.2.2.2.2.1, by rw [hU]; exact Nat.le_trans hc.2.2.2.2.2.2.2.2.2.1 hS.1, hb, va_X.moved hW.alike (by rw [hU]; exact va_X.kept hX (hS.2.1 _ (Nat.lt_of_lt_of_le hb hc.2.2.2.2.2.2.2.2.2.1) (Nat.not_le.mpr hb)))⟩
/-- any call: out of the callee's run and the machine's own row -/
theorem v_call {As rest : List Value} {n : Nat} (hm : jMe mm2 n) (hls : (lg_sl As).length ≤ mm2.2.2.1)
    (hrun : ∀ (r : Option Value) (M1 : jM), Met (jl G) mm2.1 (jws2 mm2) (jrm d M M1) (jPc G As M) (jQ G r M1) (M1.1.length - M.1.length) (jsl M1 - jsl M) (jA G) → ∀ (p : Program) (e : Env) (R : Room) (s : State) (m : MethodId) (args : Array Value) (below : List Frame) (meth : Method) (c : Code) (lsR : Array Slot) (H : Heap) (locs : List Loc) (cells slots : Nat), jCx G mm p R s m args meth c (d + 1) → jH G M H → va_S (jA G) s.heap H locs → lv_has lsR mm.2.2.1 (ls.map (jrp G)) → cells + (M1.1.length - M.1.length) ≤ R.cells ∧ slots + (jsl M1 - jsl M) ≤ R.slots → (jrm d M M1).frames + 1 ≤ R.frames ∧ 8 + (mm2.2.2.1 + 11) + (jrm d M M1).locals ≤ R.locals →
      va_Run p (jl G) e R s m args below meth c H locs cells slots (M1.1.length - M.1.length) (jsl M1 - jsl M) (F0 m pc lsR (st.map (jre G))) (rest.map (jre G)) (jQ G r M1 (As.map (jre G)).toArray) (jA G))
    (k : V G mm2 d 0 (lv_args 0 As) [] M (fun r M1 => V G mm (d + 1) (pc + 3) ls (r.toList ++ rest) M1 Q)) : V G mm (d + 1) pc ls st M Q := by
  obtain ⟨r, M1, ⟨r2, M2, hQ, hl2, hW2⟩, hl1, hW1⟩ := k
  have hM := jMet (As := As) hm.1 hls hW1
  refine ⟨r2, M2, hQ, jle_tr hl1 hl2, fun p e R s m args below meth c lsR H locs Me hc hb h1 h2 h3 h4 => ?_⟩
  have a1 := hl1.1
  have a2 := hl1.2
  have a3 := hl2.1
  have a4 := hl2.2
  have a5 := h1.1
  have a6 := h1.2
  have a7 := hb.1
  have a8 := hb.2
  have a9 := hm.2.2.2.2
  have b1 := hc.2.2.2.2.2.2.2.2.2.2.2.1
  have b2 := hc.2.2.2.2.2.2.2.2.2.2.2.2
  refine j_back (hrun r M1 hM p e R s m args below meth c lsR H locs _ _ hc h2 h3 h4 ⟨by omega, by omega⟩ ⟨by show d + 1 ≤ _; omega, by show 8 + (mm2.2.2.1 + 11) + 64 * d ≤ _; omega⟩) h3 (fun H1 locs1 g1 g2 => ?_)
  have h5 := hW2 p e R s m args below meth c lsR H1 locs1 Me hc hb (jle_tr h1 hl1) g1 g2 h4
  rw [show M.1.length - Me.1.length + (M1.1.length - M.1.length) = M1.1.length - Me.1.length by omega, show jsl M - jsl Me + (jsl M1 - jsl M) = jsl M1 - jsl Me by omega]
  rw [List.map_append] at h5
  cases r with
  | none => exact h5
  | some v => exact h5
theorem jgood_all : GoodIn jtb jtb := fun _ h => ⟨h, good_of_word (List.mem_filter.mp h).2⟩
theorem jgood_ws (h : Cond.code mm.1 mm.2.1 mm.2.2.1 mm.2.2.2 ∈ jtb) : GoodIn jtb (jws2 mm) := fun w hw => by
  rcases List.mem_cons.mp hw with rfl | g
  · exact jgood_all _ h
  · exact jgood_all _ g
theorem v_inv {As rest : List Value} {n idx b ci : Nat} {rr : vw_C} (hd : decode mm.2.1 pc = .ok (.invokevirtual idx, 3)) (hm : jMe mm2 n) (hw : Cond.methodLink mm.1.cls idx mm2.1 ∈ jtb ∧ Cond.instanceMethod mm2.1 ∈ jtb ∧ Cond.selects mm2.1.cls mm2.1 mm2.1 ∈ jtb) (hcl : vwCl[ci]? = some rr) (hrr : rr.1 = mm2.1.cls) (hci : ci < 12) (hb : tg M b = (ci, 0)) (hls : (lg_sl (.ref b :: As)).length ≤ mm2.2.2.1) (hn : As.length = n) (hst : As.reverse ++ .ref b :: rest = st) (hrest : Nat.ble ((rest.map fun v => v.category).sum) 8 = true)
    (k : V G mm2 d 0 (lv_args 0 (.ref b :: As)) [] M (fun r M1 => V G mm (d + 1) (pc + 3) ls (r.toList ++ rest) M1 Q)) : V G mm (d + 1) pc ls st M Q := by
  refine v_call hm hls (fun r M1 hM p e R s m args below meth c lsR H locs cells slots hc hH hS hl hf hR => ?_) k
  have hts := hc.2.2.2.2.2.2.2.1
  have hb0 := jH_pos hH hb (by show ci ≠ 105; omega)
  have hbl := tg_lt hb (by intro h; cases h; omega)
  have hp := jws_pl (G := G) hb0 hbl
  rw [jE_obj hb hci] at hp
  have hrv := va_recv hc.2.2.2.2.2.2.2.2.1.1 hH.2.2.1 hcl hp
  rw [hrr] at hrv
  refine va_runV (C := mm2.1.cls) (bytes := mm2.2.1) (maxL := mm2.2.2.1) (ret := mm2.2.2.2) (As := As.map (jre G)) (n := n) (b := jad G b) ⟨hc.1, hc.2.1, hc.2.2.2.2.1, hc.2.2.2.2.2.1, hts⟩ hM ⟨callB_of n hts (jgood_ws hm.2.1) rfl rfl rfl (hts _ hm.2.2.1) (hts _ hw.1) hm.2.2.2.1 hR, hts _ hw.2.1, hts _ hw.2.2⟩ ⟨jPc_blind _, hrv, fun U hU hW => ⟨rfl, jPs_of hc hH hS hU hW⟩⟩ rfl (by rw [List.length_map]; exact hn) hl.1 ?_ (lv_room (by rw [jcat_sum]; exact Nat.le_of_ble_eq_true hrest)) hd hf
  rw [← hst]
  show (As.reverse ++ .ref b :: rest).map (jre G) = _
  rw [List.map_append, List.map_reverse]
  rfl
theorem v_invs {As rest : List Value} {n idx : Nat} (hd : decode mm.2.1 pc = .ok (.invokestatic idx, 3)) (hm : jMe mm2 n) (hw : Cond.methodLink mm.1.cls idx mm2.1 ∈ jtb ∧ Cond.static mm2.1 ∈ jtb) (hls : (lg_sl As).length ≤ mm2.2.2.1) (hn : As.length = n) (hst : As.reverse ++ rest = st) (hrest : Nat.ble ((rest.map fun v => v.category).sum) 8 = true)
    (k : V G mm2 d 0 (lv_args 0 As) [] M (fun r M1 => V G mm (d + 1) (pc + 3) ls (r.toList ++ rest) M1 Q)) : V G mm (d + 1) pc ls st M Q := by
  refine v_call hm hls (fun r M1 hM p e R s m args below meth c lsR H locs cells slots hc hH hS hl hf hR => ?_) k
  have hts := hc.2.2.2.2.2.2.2.1
  refine va_runS (bytes := mm2.2.1) (maxL := mm2.2.2.1) (ret := mm2.2.2.2) (As := As.map (jre G)) (n := n) ⟨hc.1, hc.2.1, hc.2.2.2.2.1, hc.2.2.2.2.2.1, hts⟩ hM ⟨callB_of n hts (jgood_ws hm.2.1) rfl rfl rfl (hts _ hm.2.2.1) (hts _ hw.1) hm.2.2.2.1 hR, hts _ hw.2⟩ ⟨jPc_blind _, fun U hU hW => ⟨rfl, jPs_of hc hH hS hU hW⟩⟩ rfl (by rw [List.length_map]; exact hn) hl.1 ?_ (lv_room (by rw [jcat_sum]; exact Nat.le_of_ble_eq_true hrest)) hd hf
  rw [← hst]
  show (As.reverse ++ rest).map (jre G) = _
  rw [List.map_append, List.map_reverse]
/-- a private method of a nest mate, of an object -/
theorem v_invN {As rest : List Value} {n idx b ci : Nat} {rr : vw_C} (hd : decode mm.2.1 pc = .ok (.invokevirtual idx, 3)) (hm : jMe mm2 n) (hw : (∃ h, Cond.methodLinkNest mm.1.cls idx mm2.1 h ∈ lw_tbl) ∧ Cond.instanceMethod mm2.1 ∈ jtb ∧ Cond.selects mm2.1.cls mm2.1 mm2.1 ∈ jtb) (hcl : vwCl[ci]? = some rr) (hrr : rr.1 = mm2.1.cls) (hci : ci < 12) (hb : tg M b = (ci, 0)) (hls : (lg_sl (.ref b :: As)).length ≤ mm2.2.2.1) (hn : As.length = n) (hst : As.reverse ++ .ref b :: rest = st) (hrest : Nat.ble ((rest.map fun v => v.category).sum) 8 = true)
    (k : V G mm2 d 0 (lv_args 0 (.ref b :: As)) [] M (fun r M1 => V G mm (d + 1) (pc + 3) ls (r.toList ++ rest) M1 Q)) : V G mm (d + 1) pc ls st M Q := by
  obtain ⟨⟨ho, hlk⟩, hw⟩ := hw
  refine v_call hm hls (fun r M1 hM p e R s m args below meth c lsR H locs cells slots hc hH hS hl hf hR => ?_) k
  have hts := hc.2.2.2.2.2.2.2.1
  have hb0 := jH_pos hH hb (by show ci ≠ 105; omega)
  have hbl := tg_lt hb (by intro h; cases h; omega)
  have hp := jws_pl (G := G) hb0 hbl
  rw [jE_obj hb hci] at hp
  have hrv := va_recv hc.2.2.2.2.2.2.2.2.1.1 hH.2.2.1 hcl hp
  rw [hrr] at hrv
  refine va_runVN (C := mm2.1.cls) (bytes := mm2.2.1) (maxL := mm2.2.2.1) (ret := mm2.2.2.2) (As := As.map (jre G)) (n := n) (b := jad G b) ⟨hc.1, hc.2.1, hc.2.2.2.2.1, hc.2.2.2.2.2.1, hts⟩ hM ⟨va_cnB n hts (jgood_ws hm.2.1) rfl rfl rfl (hc.2.2.2.2.2.2.2.2.1.2.1 _ _ _ _ hlk) (hts _ hm.2.2.1) hm.2.2.2.1 hR, hts _ hw.1, hts _ hw.2⟩ ⟨jPc_blind _, hrv, fun U hU hW => ⟨rfl, jPs_of hc hH hS hU hW⟩⟩ rfl (by rw [List.length_map]; exact hn) hl.1 ?_ (lv_room (by rw [jcat_sum]; exact Nat.le_of_ble_eq_true hrest)) hd hf
  rw [← hst]
  show (As.reverse ++ .ref b :: rest).map (jre G) = _
  rw [List.map_append, List.map_reverse]
  rfl
/-- a private method of a nest mate, of none -/
theorem v_invsN {As rest : List Value} {n idx : Nat} (hd : decode mm.2.1 pc = .ok (.invokestatic idx, 3)) (hm : jMe mm2 n) (hw : (∃ h, Cond.methodLinkNest mm.1.cls idx mm2.1 h ∈ lw_tbl) ∧ Cond.static mm2.1 ∈ jtb) (hls : (lg_sl As).length ≤ mm2.2.2.1) (hn : As.length = n) (hst : As.reverse ++ rest = st) (hrest : Nat.ble ((rest.map fun v => v.category).sum) 8 = true)
    (k : V G mm2 d 0 (lv_args 0 As) [] M (fun r M1 => V G mm (d + 1) (pc + 3) ls (r.toList ++ rest) M1 Q)) : V G mm (d + 1) pc ls st M Q := by
  obtain ⟨⟨ho, hlk⟩, hw⟩ := hw
  refine v_call hm hls (fun r M1 hM p e R s m args below meth c lsR H locs cells slots hc hH hS hl hf hR => ?_) k
  have hts := hc.2.2.2.2.2.2.2.1
  refine va_runSN (bytes := mm2.2.1) (maxL := mm2.2.2.1) (ret := mm2.2.2.2) (As := As.map (jre G)) (n := n) ⟨hc.1, hc.2.1, hc.2.2.2.2.1, hc.2.2.2.2.2.1, hts⟩ hM ⟨va_cnB n hts (jgood_ws hm.2.1) rfl rfl rfl (hc.2.2.2.2.2.2.2.2.1.2.1 _ _ _ _ hlk) (hts _ hm.2.2.1) hm.2.2.2.1 hR, hts _ hw, trivial⟩ ⟨jPc_blind _, fun U hU hW => ⟨rfl, jPs_of hc hH hS hU hW⟩⟩ rfl (by rw [List.length_map]; exact hn) hl.1 ?_ (lv_room (by rw [jcat_sum]; exact Nat.le_of_ble_eq_true hrest)) hd hf
  rw [← hst]
  show (As.reverse ++ rest).map (jre G) = _
  rw [List.map_append, List.map_reverse]
/-- a constructor, by its own class's or a nest mate's word -/
theorem v_invI {As rest : List Value} {n idx b : Nat} (hd : decode mm.2.1 pc = .ok (.invokespecial idx, 3)) (hm : jMe mm2 n) (hr0 : mm2.2.2.2 = none) (hnm : mm2.1.name = "<init>") (hw : Cond.instanceMethod mm2.1 ∈ jtb) (hlk : Cond.methodLink mm.1.cls idx mm2.1 ∈ jtb ∨ ∃ h, Cond.methodLinkNest mm.1.cls idx mm2.1 h ∈ lw_tbl) (hls : (lg_sl (.ref b :: As)).length ≤ mm2.2.2.1) (hn : As.length = n) (hst : As.reverse ++ .ref b :: rest = st) (hrest : Nat.ble ((rest.map fun v => v.category).sum) 8 = true)
    (k : V G mm2 d 0 (lv_args 0 (.ref b :: As)) [] M (fun r M1 => V G mm (d + 1) (pc + 3) ls (r.toList ++ rest) M1 Q)) : V G mm (d + 1) pc ls st M Q := by
  refine v_call hm hls (fun r M1 hM p e R s m args below meth c lsR H locs cells slots hc hH hS hl hf hR => ?_) k
  have hts := hc.2.2.2.2.2.2.2.1
  have hst2 : (F0 m pc lsR (st.map (jre G))).stack = (As.map (jre G)).reverse ++ .ref (jad G b) :: rest.map (jre G) := by
    rw [← hst]
    show (As.reverse ++ .ref b :: rest).map (jre G) = _
    rw [List.map_append, List.map_reverse]
    rfl
  have hwd : jws2 mm2 = Cond.code mm2.1 mm2.2.1 mm2.2.2.1 none :: jtb := by unfold jws2; rw [hr0]
  rcases hlk with hlk | ⟨h, hlk⟩
  · exact va_runI (bytes := mm2.2.1) (maxL := mm2.2.2.1) (As := As.map (jre G)) (n := n) (b := jad G b) ⟨hc.1, hc.2.1, hc.2.2.2.2.1, hc.2.2.2.2.2.1, hts⟩ hM ⟨callB_of n hts (jgood_ws hm.2.1) hwd rfl rfl (hts _ hm.2.2.1) (hts _ hlk) hm.2.2.2.1 hR, hnm, hts _ hw⟩ ⟨jPc_blind _, fun U hU hW => ⟨rfl, jPs_of hc hH hS hU hW⟩⟩ rfl (by rw [List.length_map]; exact hn) hl.1 hst2 (lv_room (by rw [jcat_sum]; exact Nat.le_of_ble_eq_true hrest)) hd hf
  · exact va_runIN (bytes := mm2.2.1) (maxL := mm2.2.2.1) (As := As.map (jre G)) (n := n) (b := jad G b) ⟨hc.1, hc.2.1, hc.2.2.2.2.1, hc.2.2.2.2.2.1, hts⟩ hM ⟨va_cnB n hts (jgood_ws hm.2.1) hwd rfl rfl (hc.2.2.2.2.2.2.2.2.1.2.1 _ _ _ _ hlk) (hts _ hm.2.2.1) hm.2.2.2.1 hR, hnm, hts _ hw⟩ ⟨jPc_blind _, fun U hU hW => ⟨rfl, jPs_of hc hH hS hU hW⟩⟩ rfl (by rw [List.length_map]; exact hn) hl.1 hst2 (lv_room (by rw [jcat_sum]; exact Nat.le_of_ble_eq_true hrest)) hd hf
theorem v_objInit {idx b : Nat} (hd : decode mm.2.1 pc = .ok (.invokespecial idx, 3)) (hw : Cond.methodLink mm.1.cls idx objectInit ∈ jtb ∧ Cond.instanceMethod objectInit ∈ jtb ∧ Cond.code objectInit ⟨#[0xb1]⟩ 1 none ∈ jtb) (hrest : Nat.ble ((st.map fun v => v.category).sum) 8 = true) (k : V G mm (d + 1) (pc + 3) ls st M Q) : V G mm (d + 1) pc ls (.ref b :: st) M Q := by
  refine V.go (fun p e R s m args below meth c lsR H locs cells slots Z hc hH hS hl w => ?_) k
  have hts := hc.2.2.2.2.2.2.2.1
  have b1 := hc.2.2.2.2.2.2.2.2.2.2.2.1
  have b2 := hc.2.2.2.2.2.2.2.2.2.2.2.2
  have b3 : (((st.map (jre G)).map fun v => v.category).sum) ≤ 8 := by rw [jcat_sum]; exact Nat.le_of_ble_eq_true hrest
  exact W.objInit (idx := idx) hc.1 hc.2.1 hc.2.2.2.2.2.1 (hts _ hw.1) (hts _ hw.2.1) (hts _ hw.2.2) rfl (by rw [hc.2.2.2.2.1]; exact hl.1) rfl hd (by omega) (by have := lv_room b3 (m := m) (pc := pc) (ls := lsR) (rest := List.map (jre G) (Value.ref b :: st)); omega) w
end JC
