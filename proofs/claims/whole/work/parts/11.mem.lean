section JM
variable {G : jG} {mm : jMeth} {d pc : Nat} {ls : List (Nat × Value)} {st : List Value} {M : jM} {Q : Option Value → jM → Prop}
theorem jad_pos {a : Nat} (h : 0 < a) : jad G a = jn G + (a - 1) := by simp [jad, Nat.ne_of_gt h]
theorem jad_ne {a b : Nat} (ha : 0 < a) (hb : 0 < b) (h : a ≠ b) : jad G a ≠ jad G b := by rw [jad_pos ha, jad_pos hb]; omega
theorem jH_pos {H : Heap} (h : jH G M H) {a : Nat} {t : jT} (ht : tg M a = t) (h5 : t.1 ≠ 105) : 0 < a := by
  rcases Nat.eq_zero_or_pos a with rfl | g
  · exact absurd (by rw [← ht, h.2.2.2.1]) h5
  · exact g
theorem jws_pl {a : Nat} (h0 : 0 < a) (h : a < M.1.length) : (jws G M)[a - 1]? = some (jad G a, jE G M a) := by
  have e : a - 1 + 1 = a := by omega
  have h2 := jws_at (G := G) (M := M) (k := a - 1) (by omega)
  rw [e] at h2
  rw [h2, jad_pos h0]
theorem jE_obj {a ci n : Nat} (h : tg M a = (ci, n)) (hc : ci < 12) : jE G M a = .inr (ci, jF G ci M a) := by simp [jE, h, hc]
theorem jE_int {a n : Nat} (h : tg M a = (100, n)) : jE G M a = .inl (jc G 100, n, .inl (rI M a)) := by simp [jE, h]
theorem jE_byte {a n : Nat} (h : tg M a = (101, n)) : jE G M a = .inl (jc G 101, n, .inl (rI M a)) := by simp [jE, h]
theorem jE_long {a n : Nat} (h : tg M a = (102, n)) : jE G M a = .inl (jc G 102, n, .inr (.inl (rL M a))) := by simp [jE, h]
theorem jE_ref {a n t : Nat} (h : tg M a = (t, n)) (ht : 102 < t) : jE G M a = .inl (jc G t, n, .inr (.inr (.inr (.inr (fun j => (rR M a j).map (jad G)))))) := by
  simp only [jE, h]
  rw [if_neg (by show ¬ t < 12; omega), if_neg (by show ¬ t < 102; omega), if_neg (by show ¬ t = 102; omega)]
theorem jF_at {ci k a : Nat} (hk : k < (jsig ci).length) : (jF G ci M a)[k]? = some (if (jsig ci).getD k false = true then va_rf ((rR M a k).map (jad G)) else .int (rI M a k)) := by
  unfold jF
  rw [List.getElem?_map, List.getElem?_range hk]
  rfl
theorem jF_len {ci a : Nat} : (jF G ci M a).length = (jsig ci).length := by simp [jF]
theorem jF_ext {ci a : Nat} {l : List Value} (hl : l.length = (jsig ci).length) (h : ∀ k, k < (jsig ci).length → l[k]? = some (if (jsig ci).getD k false = true then va_rf ((rR M a k).map (jad G)) else .int (rI M a k))) : jF G ci M a = l := by
  apply List.ext_getElem?
  intro i
  by_cases hi : i < (jsig ci).length
  · rw [jF_at hi, h i hi]
  · rw [List.getElem?_eq_none (by rw [jF_len]; omega), List.getElem?_eq_none (by omega)]
theorem rI_wI {a k b j : Nat} {v : Int32} : rI (wI M a k v) b j = if b = a ∧ j = k then v else rI M b j := rfl
theorem rR_wI {a k b j : Nat} {v : Int32} : rR (wI M a k v) b j = rR M b j := rfl
theorem rL_wI {a k b j : Nat} {v : Int32} : rL (wI M a k v) b j = rL M b j := rfl
theorem tg_wI {a k b : Nat} {v : Int32} : tg (wI M a k v) b = tg M b := rfl
theorem rI_wR {a k b j : Nat} {v : Option Nat} : rI (wR M a k v) b j = rI M b j := rfl
theorem rR_wR {a k b j : Nat} {v : Option Nat} : rR (wR M a k v) b j = if b = a ∧ j = k then v else rR M b j := rfl
theorem rL_wR {a k b j : Nat} {v : Option Nat} : rL (wR M a k v) b j = rL M b j := rfl
theorem tg_wR {a k b : Nat} {v : Option Nat} : tg (wR M a k v) b = tg M b := rfl
theorem rI_wL {a k b j : Nat} {v : Int64} : rI (wL M a k v) b j = rI M b j := rfl
theorem rR_wL {a k b j : Nat} {v : Int64} : rR (wL M a k v) b j = rR M b j := rfl
theorem rL_wL {a k b j : Nat} {v : Int64} : rL (wL M a k v) b j = if b = a ∧ j = k then v else rL M b j := rfl
theorem tg_wL {a k b : Nat} {v : Int64} : tg (wL M a k v) b = tg M b := rfl
theorem jF_wI {ci a k : Nat} {x : Int32} (hs : (jsig ci).getD k false = false) : jF G ci (wI M a k x) a = (jF G ci M a).set k (.int x) := by
  refine jF_ext (by rw [List.length_set, jF_len]) (fun j hj => ?_)
  by_cases h : k = j
  · subst h
    rw [List.getElem?_set_self (by rw [jF_len]; exact hj), hs]
    simp [rI_wI]
  · rw [List.getElem?_set_ne h, jF_at hj, rR_wI, rI_wI, if_neg (fun q : a = a ∧ j = k => h q.2.symm)]
theorem jF_wR {ci a k : Nat} {x : Option Nat} (hs : (jsig ci).getD k false = true) : jF G ci (wR M a k x) a = (jF G ci M a).set k (va_rf (x.map (jad G))) := by
  refine jF_ext (by rw [List.length_set, jF_len]) (fun j hj => ?_)
  by_cases h : k = j
  · subst h
    rw [List.getElem?_set_self (by rw [jF_len]; exact hj), if_pos hs]
    simp [rR_wR]
  · rw [List.getElem?_set_ne h, jF_at hj, rI_wR, rR_wR, if_neg (fun q : a = a ∧ j = k => h q.2.symm)]
/-- two memories that look alike at a cell -/
theorem jE_eq {M' : jM} {b : Nat} (ht : tg M' b = tg M b) (hI : rI M' b = rI M b) (hL : rL M' b = rL M b) (hR : rR M' b = rR M b) : jE G M' b = jE G M b := by
  have hF : ∀ ci, jF G ci M' b = jF G ci M b := fun ci => by simp [jF, hI, hR]
  simp only [jE, ht, hI, hL, hR, hF]
/-- one cell has changed -/
theorem jH_set {M' : jM} {a : Nat} {H H1 : Heap} (hM : M'.1 = M.1) (ha : 0 < a) (hE : ∀ b, b ≠ a → jE G M' b = jE G M b) (hI : ∀ j, rI M' 0 j = rI M 0 j) (h : jH G M H) (hc : va_at (jD G) vwCl (jad G a, jE G M' a) H1) (hz : H1.size = H.size) (hq : ∀ q : Nat, q ≠ jad G a → H1[q]? = H[q]?) : jH G M' H1 := by
  obtain ⟨h1, h2, h3, h4, h5⟩ := h
  refine ⟨by rw [hM]; exact h1, by rw [hM, hz]; exact h2, fun k q hk => ?_, by unfold tg; rw [hM]; exact h4, fun j => (hI j).trans (h5 j)⟩
  obtain ⟨hl, rfl⟩ := jws_of hk
  rw [hM] at hl
  by_cases hka : k + 1 = a
  · subst hka
    rw [jad_pos ha, Nat.add_sub_cancel] at hc
    exact hc
  · rw [hE _ hka]
    refine (h3 k _ (jws_at hl)).kept (hq _ ?_)
    show jn G + k ≠ jad G a
    rw [jad_pos ha]
    omega
/-- a field of a class: its place, type, whether it is final; and the words on it -/
def jFl (own : String) (idx ci k : Nat) (ty : FieldType) (fin : Bool) : Prop := ∃ (C : String) (T : u_T) (N : Nat) (tyf : Nat → FieldType), vwCl[ci]? = some (C, T, N) ∧ k < N ∧ ci < 12 ∧ (jsig ci).length = N ∧ Cond.fieldLink own idx (T k).1 (T k).2.1 (T k).2.2.1 ∈ jtb ∧ (∀ w ∈ u_ws C T N, w ∈ jtb) ∧ (∀ k, k < N → parseFieldDescriptor (T k).2.2.1 = some (tyf k)) ∧ (∀ a, a < N → ∀ b, b < N → a ≠ b → (T a).2.1 ≠ (T b).2.1) ∧ tyf k = ty ∧ (T k).2.2.2 = fin ∧ (T k).1 = C
theorem v_getI {idx ci k a : Nat} {ty : FieldType} {fin : Bool} (hd : decode mm.2.1 pc = .ok (.getfield idx, 3)) (fl : jFl mm.1.cls idx ci k ty fin) (hs : (jsig ci).getD k false = false) (ht : tg M a = (ci, 0)) (kk : V G mm d (pc + 3) ls (.int (rI M a k) :: st) M Q) : V G mm d pc ls (.ref a :: st) M Q := by
  obtain ⟨C, T, N, tyf, f1, f2, f3, f4, f5, f6, -⟩ := fl
  refine V.go (fun p e R s m args below meth c lsR H locs cells slots Z hc hH hS hl w => ?_) kk
  have ha := jH_pos hH ht (by show ci ≠ 105; omega)
  have hal := tg_lt ht (by intro h; cases h; omega)
  exact va_get (D := jD G) (ci := ci) (v := .int (rI M a k)) (C := C) (T := T) (N := N) hc.1 hc.2.1 hc.2.2.2.2.2.2.2.1 f6 hc.2.2.2.2.2.1 hc.2.2.2.2.2.2.2.2.1.1 hH.2.2.1 (a - 1) (by rw [jws_pl ha hal, jE_obj ht f3]) f1 k f2 (hc.2.2.2.2.2.2.2.1 _ f5) (fun _ h9 => h9) (by rw [jF_at (by omega), hs]; simp) hd w
theorem v_getR {idx ci k a b : Nat} {ty : FieldType} {fin : Bool} (hd : decode mm.2.1 pc = .ok (.getfield idx, 3)) (fl : jFl mm.1.cls idx ci k ty fin) (hs : (jsig ci).getD k false = true) (ht : tg M a = (ci, 0)) (hr : rR M a k = some b) (kk : V G mm d (pc + 3) ls (.ref b :: st) M Q) : V G mm d pc ls (.ref a :: st) M Q := by
  obtain ⟨C, T, N, tyf, f1, f2, f3, f4, f5, f6, -⟩ := fl
  refine V.go (fun p e R s m args below meth c lsR H locs cells slots Z hc hH hS hl w => ?_) kk
  have ha := jH_pos hH ht (by show ci ≠ 105; omega)
  have hal := tg_lt ht (by intro h; cases h; omega)
  exact va_get (D := jD G) (ci := ci) (v := .ref (jad G b)) (C := C) (T := T) (N := N) hc.1 hc.2.1 hc.2.2.2.2.2.2.2.1 f6 hc.2.2.2.2.2.1 hc.2.2.2.2.2.2.2.2.1.1 hH.2.2.1 (a - 1) (by rw [jws_pl ha hal, jE_obj ht f3]) f1 k f2 (hc.2.2.2.2.2.2.2.1 _ f5) (fun _ h9 => h9) (by rw [jF_at (by omega), if_pos hs, hr]; rfl) hd w
/-- a row that changes memory (no new cell) -/
theorem V.gom {pc2 : Nat} {st2 : List Value} {M2 : jM} (hM : M2.1 = M.1)
    (hW : ∀ (p : Program) (e : Env) (R : Room) (s : State) (m : MethodId) (args : Array Value) (below : List Frame) (meth : Method) (c : Code) (lsR : Array Slot) (H : Heap) (locs : List Loc) (cells slots : Nat) (Z : State → Prop), jCx G mm p R s m args meth c d → jH G M H → va_S (jA G) s.heap H locs → lv_has lsR mm.2.2.1 (ls.map (jrp G)) →
      (∀ (H1 : Heap) (locs1 : List Loc), jH G M2 H1 → va_S (jA G) s.heap H1 locs1 → W p (jl G) e R s m args below meth c H1 locs1 cells slots Z (F0 m pc2 lsR (st2.map (jre G)))) → W p (jl G) e R s m args below meth c H locs cells slots Z (F0 m pc lsR (st.map (jre G))))
    (k : V G mm d pc2 ls st2 M2 Q) : V G mm d pc ls st M Q := by
  obtain ⟨r, M', hQ, hl, h⟩ := k
  have e1 : M2.1.length = M.1.length := by rw [hM]
  have e2 : jsl M2 = jsl M := by unfold jsl; rw [hM]
  refine ⟨r, M', hQ, ⟨by rw [← e1]; exact hl.1, by rw [← e2]; exact hl.2⟩, fun p e R s m args below meth c lsR H locs Me hc hb h1 h2 h3 h4 => hW p e R s m args below meth c lsR H locs _ _ _ hc h2 h3 h4 (fun H1 locs1 g1 g2 => ?_)⟩
  rw [← e1, ← e2]
  exact h p e R s m args below meth c lsR H1 locs1 Me hc hb ⟨by rw [e1]; exact h1.1, by rw [e2]; exact h1.2⟩ g1 g2 h4
theorem jS_put {s : State} {H H1 : Heap} {locs : List Loc} {a k : Nat} (h : va_S (jA G) s.heap H locs) (z : H1.size = H.size) (oq : ∀ q : Nat, q ≠ jad G a → H1[q]? = H[q]?) (ha : 0 < a) : va_S (jA G) s.heap H1 (locs ++ [⟨jad G a, k⟩]) :=
  h.put z oq (by rw [jad_pos ha]; exact Nat.le_add_right _ _)
end JM
section JW
variable {p : Program} {l : Launch} {e : Env} {R : Room} {s : State} {m : MethodId} {args : Array Value} {below : List Frame} {meth : Method} {c : Code} {H : Heap} {locs : List Loc} {cells slots : Nat} {Q : State → Prop}
variable {cc : ByteArray} {pc : Nat} {lsR : Array Slot} {rest : List Value} {D : va_G} {a : Nat} {tys : List (ClassId × FieldType)}
/-- a field is written: the heap has its size still -/
theorem jw_put {own C : String} {T : u_T} {N ci index : Nat} {Ts : List Cond} {tyf : Nat → FieldType} {fs : List Value} {v : Value} {k : Nat} {fin : Bool} (hx : p.tables.exec = Jvm.exec) (hb : c.code = cc) (hts : ∀ w ∈ Ts, w.before args s = true) (hin : ∀ w ∈ u_ws C T N, w ∈ Ts)
    (hty : ∀ k, k < N → parseFieldDescriptor (T k).2.2.1 = some (tyf k)) (hnm : ∀ a, a < N → ∀ b, b < N → a ≠ b → (T a).2.1 ≠ (T b).2.1) (hown : s.vm.findClass own = some m.cls) (hK : va_K D vwCl tys s) (hat : va_at D vwCl (a, .inr (ci, fs)) H) (hc : vwCl[ci]? = some (C, T, N)) (hk : k < N)
    (hlink : (Cond.fieldLink own index (T k).1 (T k).2.1 (T k).2.2.1).before args s = true) (hfin : (T k).2.2.2 = fin) (hfi : fin = true → meth.name = "<init>" ∧ (T k).1 = own) (hn : narrow (tyf k) v = v) (hf : fits (tyf k) v = true) (hl : k < fs.length) (hdg : decode cc pc = .ok (.putfield index, 3))
    (kk : ∀ (H1 : Heap) (i : Nat), va_at D vwCl (a, .inr (ci, fs.set k v)) H1 → H1.size = H.size → (∀ q : Nat, q ≠ a → H1[q]? = H[q]?) → W p l e R s m args below meth c H1 (locs ++ [⟨a, i⟩]) cells slots Q (F0 m (pc + 3) lsR rest)) : W p l e R s m args below meth c H locs cells slots Q (F0 m pc lsR (v :: .ref a :: rest)) := by
  have hap := va_apart (own := own) hts hin tyf hty hnm hK hc
  obtain ⟨r, g1, cell, q1, q2, q3, q4⟩ := hat
  have hr : r = (C, T, N) := Option.some.inj (g1.symm.trans hc)
  subst hr
  obtain ⟨hS, hfc, kC, hkC, hkind⟩ := hK.1 ci _ hc
  obtain ⟨cf, kf, fi, f, hi, hsl⟩ := hS k hk
  have hlay := hts _ (hin _ (u_in_lay hk))
  have hst := (u_facts hfc hkC (u_lays hts hin hk) hi).1
  have fin2 : ∀ H' : Heap, H'[a]? = some (cell.setSlot f.slot v) → va_at D vwCl (a, .inr (ci, fs.set k v)) H' := by
    intro H' e1
    rw [hsl] at e1
    exact ⟨_, hc, t_OB.to (V := updV (vp_V fs) k v) ⟨_, e1, q2, q3, t_set q4 hap hk v⟩ (fun j _ => vp_updV_set hl v j)⟩
  unfold u_lay at hlay
  cases fin with
  | false =>
    rw [if_neg (by rw [hfin]; decide)] at hlay
    have h6 := u_store hfc hkC hkind hlay hi (hty k hk) hn hf
    exact W.putK hx hb (f := f) ⟨hown, hlink, ⟨_, _, _, hi⟩, hst⟩ (by rw [q2]; exact h6) q1 q3 (by rw [hsl]; exact k2_hasslot (q4 k hk)) rfl rfl hdg fun H' e1 e2 e3 => kk H' _ (fin2 H' e1) e2 e3
  | true =>
    obtain ⟨hini, hdecl⟩ := hfi rfl
    rw [if_pos hfin] at hlay
    have hcf : m.cls = cf := by
      obtain ⟨_, _, c', _, _, _, -, -, hf', -, -, -, hown2, -⟩ := Cond.laysFinal_spec hlay
      have e1 : c' = cf := by have := hi.symm.trans hf'; simp at this; exact this.1.symm
      rw [hdecl] at hown2
      rw [← e1]; exact Option.some.inj (hown.symm.trans hown2)
    have h6 := u_fits hfc hkC hkind (Or.inr hlay) hi (hty k hk) hn hf
    exact W.putFinK hx hb hown hlink hi hst hcf hini (by rw [q2]; exact h6) q1 q3 (by rw [hsl]; exact k2_hasslot (q4 k hk)) rfl rfl hdg fun H' e1 e2 e3 => kk H' _ (fin2 H' e1) e2 e3
/-- an array of numbers is written -/
theorem jw_iast {n : Nat} {f : Nat → Int32} {cA : ClassId} (hx : p.tables.exec = Jvm.exec) (hb : c.code = cc) (hA : ArrOfT s cA .int) (hat : H[a]? = some (vp_cell cA (n, .inl f))) {i x : Int32} (hin : vp_in i n) (hdg : decode cc pc = .ok (.iastore, 1))
    (kk : ∀ (H1 : Heap) (i' : Nat), H1[a]? = some (vp_cell cA (n, .inl (upd f i.toNatClampNeg x))) → H1.size = H.size → (∀ q : Nat, q ≠ a → H1[q]? = H[q]?) → W p l e R s m args below meth c H1 (locs ++ [⟨a, i'⟩]) cells slots Q (F0 m (pc + 1) lsR rest)) : W p l e R s m args below meth c H locs cells slots Q (F0 m pc lsR (.int x :: .int i :: .ref a :: rest)) := by
  refine W.iast hx hb hat (hA n (fun j => .int (f j))) (fun q => by cases q) (by show ¬ (i < 0 ∨ (arrV _ _ _).slots.size ≤ _); rw [arrV_size]; exact hin) rfl rfl hdg fun H1 e z oq => kk H1 _ ?_ z oq
  rw [e, vp_cell_i, vp_cell_i, arrV_store]
  congr 2
  funext q
  by_cases hq : q = i.toNatClampNeg
  · subst hq; simp [updV, upd]
  · simp [updV, upd, hq]
theorem jw_bast {n : Nat} {f : Nat → Int32} {cA : ClassId} (hx : p.tables.exec = Jvm.exec) (hb : c.code = cc) (hA : ArrOfT s cA .byte) (hat : H[a]? = some (vp_cell cA (n, .inl f))) {i x : Int32} (hin : vp_in i n) (hdg : decode cc pc = .ok (.bastore, 1))
    (kk : ∀ (H1 : Heap) (i' : Nat), H1[a]? = some (vp_cell cA (n, .inl (upd f i.toNatClampNeg x.toInt8.toInt32))) → H1.size = H.size → (∀ q : Nat, q ≠ a → H1[q]? = H[q]?) → W p l e R s m args below meth c H1 (locs ++ [⟨a, i'⟩]) cells slots Q (F0 m (pc + 1) lsR rest)) : W p l e R s m args below meth c H locs cells slots Q (F0 m pc lsR (.int x :: .int i :: .ref a :: rest)) := by
  refine W.bast hx hb hat (hA n (fun j => .int (f j))) (fun q => by cases q) (by show ¬ (i < 0 ∨ (arrV _ _ _).slots.size ≤ _); rw [arrV_size]; exact hin) rfl rfl hdg fun H1 e z oq => kk H1 _ ?_ z oq
  rw [e, vp_cell_i, vp_cell_i, arrV_store]
  congr 2
  funext q
  by_cases hq : q = i.toNatClampNeg
  · subst hq; simp [updV, upd]; rfl
  · simp [updV, upd, hq]
theorem jw_last {n : Nat} {f : Nat → Int64} {cA : ClassId} (hx : p.tables.exec = Jvm.exec) (hb : c.code = cc) (hA : ArrOfT s cA .long) (hat : H[a]? = some (vp_cell cA (n, .inr (.inl f)))) {i : Int32} {x : Int64} (hin : vp_in i n) (hdg : decode cc pc = .ok (.lastore, 1))
    (kk : ∀ (H1 : Heap) (i' : Nat), H1[a]? = some (vp_cell cA (n, .inr (.inl (vp_updL f i.toNatClampNeg x)))) → H1.size = H.size → (∀ q : Nat, q ≠ a → H1[q]? = H[q]?) → W p l e R s m args below meth c H1 (locs ++ [⟨a, i'⟩]) cells slots Q (F0 m (pc + 1) lsR rest)) : W p l e R s m args below meth c H locs cells slots Q (F0 m pc lsR (.long x :: .int i :: .ref a :: rest)) := by
  refine W.last hx hb hat (hA n (fun j => .long (f j))) (fun q => by cases q) (by show ¬ (i < 0 ∨ (arrV _ _ _).slots.size ≤ _); rw [arrV_size]; exact hin) rfl rfl hdg fun H1 e z oq => kk H1 _ ?_ z oq
  rw [e, vp_cell_l, vp_cell_l, arrV_store]
  congr 2
  funext q
  by_cases hq : q = i.toNatClampNeg
  · subst hq; simp [updV, vp_updL]
  · simp [updV, vp_updL, hq]
theorem jw_aast {n v ci : Nat} {r : vw_C} {vs : List Value} {f : Nat → Option Nat} {cA : ClassId} (hx : p.tables.exec = Jvm.exec) (hb : c.code = cc) (hK : va_K D vwCl tys s) (t0 : Nat) (ht : tys[t0]? = some (cA, .object r.1)) (hat : H[a]? = some (vp_cell cA (n, .inr (.inr (.inr (.inr f)))))) (hv : va_at D vwCl (v, .inr (ci, vs)) H) (hc : vwCl[ci]? = some r) {i : Int32} (hin : vp_in i n) (hdg : decode cc pc = .ok (.aastore, 1))
    (kk : ∀ (H1 : Heap) (i' : Nat), H1[a]? = some (vp_cell cA (n, .inr (.inr (.inr (.inr (va_up f i.toNatClampNeg (some v))))))) → H1.size = H.size → (∀ q : Nat, q ≠ a → H1[q]? = H[q]?) → W p l e R s m args below meth c H1 (locs ++ [⟨a, i'⟩]) cells slots Q (F0 m (pc + 1) lsR rest)) : W p l e R s m args below meth c H locs cells slots Q (F0 m pc lsR (.ref v :: .int i :: .ref a :: rest)) := by
  have hlt : i.toNatClampNeg < n := Nat.not_le.mp fun q => hin (Or.inr q)
  have h0 : ¬ i < 0 := fun q => hin (Or.inl q)
  obtain ⟨r', hr', cellV, g1, g2, g3, -⟩ := hv
  have hcls := (hK.1 ci r hc).2
  obtain ⟨kA, comp, k1, k2, k3, -⟩ := (hK.2 t0 _ ht).2
  have hcomp : comp = D.1 ci := Option.some.inj (k3.symm.trans hcls.1)
  subst hcomp
  obtain ⟨kC, hkC, -⟩ := hcls.2
  refine W.aast hx hb hat (fun q h => by cases h) (fun h => by cases h) k1 k2 rfl hkC ⟨h0, by show _ < (arrV _ _ _).slots.size; rw [arrV_size]; exact hlt⟩ g1 (fun q h => by rw [g3] at h; cases h) (by rw [g2]; exact hkC) (by rw [g2]; exact va_assign hcls) rfl rfl hdg fun H1 e z oq => kk H1 _ ?_ z oq
  rw [e, vp_cell_q, vp_cell_q, arrV_store]
  congr 2
  funext q
  by_cases hq : q = i.toNatClampNeg
  · subst hq; simp [updV, va_up, va_rf]
  · simp [updV, va_up, hq]
end JW
