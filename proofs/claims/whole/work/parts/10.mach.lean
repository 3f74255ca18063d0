/-! The small machine: an abstract memory, and a judgement V over it that the machine's own judgement W keeps.
    A cell is named by its place: 0 is the script, 1, 2 .. the cells made since the law began, in their order. -/
abbrev jT : Type := Nat × Nat
abbrev jM : Type := List jT × (Nat → Nat → Int32) × (Nat → Nat → Int64) × (Nat → Nat → Option Nat)
def tg (M : jM) (a : Nat) : jT := M.1.getD a (999, 0)
def rI (M : jM) (a k : Nat) : Int32 := M.2.1 a k
def rL (M : jM) (a k : Nat) : Int64 := M.2.2.1 a k
def rR (M : jM) (a k : Nat) : Option Nat := M.2.2.2 a k
def up2 {α : Type} (f : Nat → Nat → α) (a k : Nat) (v : α) : Nat → Nat → α := fun b j => if b = a ∧ j = k then v else f b j
def upA {α : Type} (f : Nat → Nat → α) (a : Nat) (g : Nat → α) : Nat → Nat → α := fun b => if b = a then g else f b
def wI (M : jM) (a k : Nat) (v : Int32) : jM := (M.1, up2 M.2.1 a k v, M.2.2)
def wL (M : jM) (a k : Nat) (v : Int64) : jM := (M.1, M.2.1, up2 M.2.2.1 a k v, M.2.2.2)
def wR (M : jM) (a k : Nat) (v : Option Nat) : jM := (M.1, M.2.1, M.2.2.1, up2 M.2.2.2 a k v)
def aI (M : jM) (a : Nat) (g : Nat → Int32) : jM := (M.1, upA M.2.1 a g, M.2.2)
def nw (M : jM) (t : jT) : jM := (M.1 ++ [t], upA M.2.1 M.1.length (fun _ => 0), upA M.2.2.1 M.1.length (fun _ => 0), upA M.2.2.2 M.1.length (fun _ => none))
/-- which fields are references, class by class, as vwCl numbers them -/
def jsig : Nat → List Bool
  | 0 => [true, false, false]
  | 1 => [true, true, true, true, false, false, false, false]
  | 2 => [true, true, false]
  | 3 => [true, true, true, true, true, false, true]
  | 4 => [true, false]
  | 5 => [true, false, false, false, false]
  | 6 => [true, true, false]
  | 7 => [true, false, false, false, true]
  | 8 => [false, true, true]
  | 9 => [true, false]
  | 10 => [true, true, true, true, true, true, true, true, true, false, true, true]
  | 11 => [true, true, true, true, true, false, false, false, true, true, false, false, false, true, true, false, false, false, true, true, true, true, true, false, true, true, true, true, false, false, true, true, true, false, false, true, false, false, false, true, true, true, false, true, false, false, true, false, false, true, true, false, false, false, false, true, true, true, true, true, true, true, true, true]
  | _ => []
/-- the slots of a cell -/
def jsz (t : jT) : Nat := if t.1 < 12 then (jsig t.1).length else if t.1 = 105 then 0 else t.2
def jsl (M : jM) : Nat := (M.1.map jsz).sum
def jle (M N : jM) : Prop := M.1.length ≤ N.1.length ∧ jsl M ≤ jsl N
theorem jle_rf {M : jM} : jle M M := ⟨Nat.le_refl _, Nat.le_refl _⟩
theorem jle_tr {M N O : jM} (h : jle M N) (k : jle N O) : jle M O := ⟨Nat.le_trans h.1 k.1, Nat.le_trans h.2 k.2⟩
theorem jle_nw {M : jM} {t : jT} : jle M (nw M t) := ⟨by simp [nw], by simp [jsl, nw]⟩
theorem jsl_nw {M : jM} {t : jT} : jsl (nw M t) = jsl M + jsz t := by simp [jsl, nw]
theorem jln_nw {M : jM} {t : jT} : (nw M t).1.length = M.1.length + 1 := by simp [nw]
/-- what is fixed over the law's run: launch, class numbers, slots, array classes, the script's address, the first new address, the script -/
abbrev jG : Type := Launch × (Nat → ClassId) × (Nat → Nat → Nat) × (Nat → ClassId) × Nat × Nat × Nat × (Nat → Int32)
abbrev jl (G : jG) : Launch := G.1
abbrev jD (G : jG) : va_G := (G.2.1, G.2.2.1)
abbrev jc (G : jG) : Nat → ClassId := G.2.2.2.1
abbrev jb (G : jG) : Nat := G.2.2.2.2.1
abbrev jn (G : jG) : Nat := G.2.2.2.2.2.1
abbrev jL (G : jG) : Nat := G.2.2.2.2.2.2.1
abbrev jx (G : jG) : Nat → Int32 := G.2.2.2.2.2.2.2
def jad (G : jG) (k : Nat) : Nat := if k = 0 then jb G else jn G + (k - 1)
def jre (G : jG) (v : Value) : Value := match v with
  | .ref k => .ref (jad G k)
  | .int x => .int x
  | .long x => .long x
  | .float x => .float x
  | .double x => .double x
  | .null => .null
  | .retAddr x => .retAddr x
theorem jre_cat (G : jG) (v : Value) : (jre G v).category = v.category := by cases v <;> rfl
theorem jre_rf (G : jG) (r : Option Nat) : jre G (va_rf r) = va_rf (r.map (jad G)) := by cases r <;> rfl
def jrp (G : jG) (q : Nat × Value) : Nat × Value := (q.1, jre G q.2)
def jA (G : jG) : Nat → Prop := fun q => jn G ≤ q
/-- an object's fields -/
def jF (G : jG) (ci : Nat) (M : jM) (a : Nat) : List Value := (List.range (jsig ci).length).map (fun j => if (jsig ci).getD j false = true then va_rf ((rR M a j).map (jad G)) else .int (rI M a j))
def jE (G : jG) (M : jM) (a : Nat) : va_E :=
  if (tg M a).1 < 12 then .inr ((tg M a).1, jF G (tg M a).1 M a)
  else if (tg M a).1 < 102 then .inl (jc G (tg M a).1, (tg M a).2, .inl (rI M a))
  else if (tg M a).1 = 102 then .inl (jc G 102, (tg M a).2, .inr (.inl (rL M a)))
  else .inl (jc G (tg M a).1, (tg M a).2, .inr (.inr (.inr (.inr (fun j => (rR M a j).map (jad G))))))
def jws (G : jG) (M : jM) : va_W := (List.range (M.1.length - 1)).map (fun k => (jn G + k, jE G M (k + 1)))
theorem jws_at {G : jG} {M : jM} {k : Nat} (h : k + 1 < M.1.length) : (jws G M)[k]? = some (jn G + k, jE G M (k + 1)) := by
  unfold jws
  rw [List.getElem?_map, List.getElem?_range (by omega)]
  rfl
theorem jws_of {G : jG} {M : jM} {k : Nat} {q : Nat × va_E} (h : (jws G M)[k]? = some q) : k + 1 < M.1.length ∧ q = (jn G + k, jE G M (k + 1)) := by
  have hl : k < (jws G M).length := (List.getElem?_eq_some_iff.mp h).1
  have hl2 : k + 1 < M.1.length := by simp [jws] at hl; omega
  rw [jws_at hl2] at h
  exact ⟨hl2, (Option.some.inj h).symm⟩
theorem jws_D {G : jG} {M : jM} : va_D (jA G) (jws G M) := by
  refine ⟨fun i j p q hi hj e => ?_, fun k q hk => ?_⟩
  · obtain ⟨-, rfl⟩ := jws_of hi
    obtain ⟨-, rfl⟩ := jws_of hj
    simp at e
    exact e
  · obtain ⟨-, rfl⟩ := jws_of hk
    exact Nat.le_add_right _ _
/-- a cell with a tag is there -/
theorem tg_lt {M : jM} {a : Nat} {t : jT} (h : tg M a = t) (ht : t ≠ (999, 0)) : a < M.1.length := by
  rcases Nat.lt_or_ge a M.1.length with g | g
  · exact g
  · exact absurd (by rw [← h]; simp [tg, g]) ht
/-- the words that a callee may ask for -/
def jtb : List Cond := lw_tbl.filter goodWord
theorem jtb_of {w : Cond} (h : w ∈ lw_tbl) (g : goodWord w = true) : w ∈ jtb := List.mem_filter.mpr ⟨h, g⟩
def jtys (G : jG) : List (ClassId × FieldType) := [(jc G 100, .int), (jc G 101, .byte), (jc G 102, .long), (jc G 103, .object "TwoWorlds$World"), (jc G 104, .object "TwoWorlds$Sentence")]
def jK (G : jG) (s : State) : Prop := va_K (jD G) vwCl (jtys G) s ∧ (∀ (a : String) (i : Nat) (x : MethodName) (h : String), Cond.methodLinkNest a i x h ∈ lw_tbl → va_Nw (.methodLinkNest a i x h) s) ∧ va_AO "TwoWorlds$World" s ∧ va_AO "TwoWorlds$Sentence" s
/-- the heap holds the memory -/
def jH (G : jG) (M : jM) (H : Heap) : Prop := 1 ≤ M.1.length ∧ H.size = jn G + (M.1.length - 1) ∧ va_P (jD G) vwCl (jws G M) H ∧ tg M 0 = (105, jL G) ∧ (∀ j, rI M 0 j = jx G j)
def jQ (G : jG) (r : Option Value) (M : jM) : Array Value → State → Outcome → State → Prop := fun _ st o t => o = .returned (r.map (jre G)) ∧ jH G M t.heap ∧ jK G t ∧ va_F (jA G) st t
abbrev jMeth : Type := MethodName × ByteArray × Nat × Option FieldType
def jCx (G : jG) (mm : jMeth) (p : Program) (R : Room) (s : State) (m : MethodId) (args : Array Value) (meth : Method) (c : Code) (d : Nat) : Prop :=
  p.tables.exec = Jvm.exec ∧ c.code = mm.2.1 ∧ meth.sig.returnType = mm.2.2.2 ∧ meth.locks = false ∧ c.maxLocals = mm.2.2.1 ∧ s.vm.findClass mm.1.cls = some m.cls ∧ meth.name = mm.1.name ∧ (∀ w ∈ jtb, w.before args s = true) ∧ jK G s ∧ jn G ≤ s.heap.size ∧ (jb G < jn G ∧ va_X (jb G) (jL G) (jx G) s s.heap) ∧ d ≤ R.frames ∧ 64 * d ≤ R.locals
def V (G : jG) (mm : jMeth) (d pc : Nat) (ls : List (Nat × Value)) (st : List Value) (M : jM) (Q : Option Value → jM → Prop) : Prop :=
  ∃ (r : Option Value) (M' : jM), Q r M' ∧ jle M M' ∧ ∀ (p : Program) (e : Env) (R : Room) (s : State) (m : MethodId) (args : Array Value) (below : List Frame) (meth : Method) (c : Code) (lsR : Array Slot) (H : Heap) (locs : List Loc) (Me : jM),
    jCx G mm p R s m args meth c d → M'.1.length - Me.1.length ≤ R.cells ∧ jsl M' - jsl Me ≤ R.slots → jle Me M → jH G M H → va_S (jA G) s.heap H locs → lv_has lsR mm.2.2.1 (ls.map (jrp G)) →
    W p (jl G) e R s m args below meth c H locs (M.1.length - Me.1.length) (jsl M - jsl Me) (MQ below (jQ G r M') args s (M'.1.length - Me.1.length) (jsl M' - jsl Me) (jA G)) (F0 m pc lsR (st.map (jre G)))
section JV
variable {G : jG} {mm : jMeth} {d pc : Nat} {ls : List (Nat × Value)} {st : List Value} {M : jM} {Q : Option Value → jM → Prop}
/-- a row that leaves memory and locals alone -/
theorem V.go {pc2 : Nat} {st2 : List Value}
    (hW : ∀ (p : Program) (e : Env) (R : Room) (s : State) (m : MethodId) (args : Array Value) (below : List Frame) (meth : Method) (c : Code) (lsR : Array Slot) (H : Heap) (locs : List Loc) (cells slots : Nat) (Z : State → Prop), jCx G mm p R s m args meth c d → jH G M H → va_S (jA G) s.heap H locs → lv_has lsR mm.2.2.1 (ls.map (jrp G)) →
      W p (jl G) e R s m args below meth c H locs cells slots Z (F0 m pc2 lsR (st2.map (jre G))) → W p (jl G) e R s m args below meth c H locs cells slots Z (F0 m pc lsR (st.map (jre G))))
    (k : V G mm d pc2 ls st2 M Q) : V G mm d pc ls st M Q := by
  obtain ⟨r, M', hQ, hl, h⟩ := k
  exact ⟨r, M', hQ, hl, fun p e R s m args below meth c lsR H locs Me hc hb h1 h2 h3 h4 => hW p e R s m args below meth c lsR H locs _ _ _ hc h2 h3 h4 (h p e R s m args below meth c lsR H locs Me hc hb h1 h2 h3 h4)⟩
/-- a row that changes the locals -/
theorem V.gol {pc2 : Nat} {st2 : List Value} {ls2 : List (Nat × Value)}
    (hW : ∀ (p : Program) (e : Env) (R : Room) (s : State) (m : MethodId) (args : Array Value) (below : List Frame) (meth : Method) (c : Code) (lsR : Array Slot) (H : Heap) (locs : List Loc) (cells slots : Nat) (Z : State → Prop), jCx G mm p R s m args meth c d → lv_has lsR mm.2.2.1 (ls.map (jrp G)) →
      (∀ ls' : Array Slot, lv_has ls' mm.2.2.1 (ls2.map (jrp G)) → W p (jl G) e R s m args below meth c H locs cells slots Z (F0 m pc2 ls' (st2.map (jre G)))) → W p (jl G) e R s m args below meth c H locs cells slots Z (F0 m pc lsR (st.map (jre G))))
    (k : V G mm d pc2 ls2 st2 M Q) : V G mm d pc ls st M Q := by
  obtain ⟨r, M', hQ, hl, h⟩ := k
  exact ⟨r, M', hQ, hl, fun p e R s m args below meth c lsR H locs Me hc hb h1 h2 h3 h4 => hW p e R s m args below meth c lsR H locs _ _ _ hc h4 (fun ls' hl' => h p e R s m args below meth c ls' H locs Me hc hb h1 h2 h3 hl')⟩
theorem V.mono {Q' : Option Value → jM → Prop} (h : ∀ r M', Q r M' → Q' r M') (k : V G mm d pc ls st M Q) : V G mm d pc ls st M Q' := by
  obtain ⟨r, M', hQ, h2⟩ := k
  exact ⟨r, M', h _ _ hQ, h2⟩
/-- fewer locals -/
theorem V.sub {ls2 : List (Nat × Value)} (h : ∀ q ∈ ls2, q ∈ ls) (k : V G mm d pc ls2 st M Q) : V G mm d pc ls st M Q := by
  obtain ⟨r, M', hQ, hl, hh⟩ := k
  refine ⟨r, M', hQ, hl, fun p e R s m args below meth c lsR H locs Me hc hb h1 h2 h3 h4 => hh p e R s m args below meth c lsR H locs Me hc hb h1 h2 h3 ⟨h4.1, h4.2.1, fun q hq => ?_⟩⟩
  obtain ⟨q0, hq0, rfl⟩ := List.mem_map.mp hq
  exact h4.2.2 _ (List.mem_map_of_mem (h _ hq0))
theorem V.pick {ls2 : List (Nat × Value)} (ks : List Nat) (h : lv_pick ls ks = ls2) (k : V G mm d pc ls2 st M Q) : V G mm d pc ls st M Q := by
  refine V.sub (fun q hq => ?_) k
  rw [← h] at hq
  obtain ⟨k, -, hk⟩ := List.mem_filterMap.mp hq
  exact List.mem_of_getElem? hk
theorem j_at {lsR : Array Slot} {n i : Nat} {v : Value} (h : lv_has lsR n (ls.map (jrp G))) (k : Nat) (hk : ls[k]? = some (i, v)) : lsR[i]? = some (.val (jre G v)) := by
  refine lv_at h k (i := i) ?_
  rw [List.getElem?_map, hk]
  rfl
theorem j_filt (ls : List (Nat × Value)) (f g : Nat × Value → Bool) (h : ∀ q, f (jrp G q) = g q) : (ls.map (jrp G)).filter f = (ls.filter g).map (jrp G) := by
  rw [List.filter_map]
  congr 1
  congr 1
  funext q
  exact h q
theorem v_iconst {n : Int} {v : Int32} (hd : decode mm.2.1 pc = .ok (.iconst n, 1)) (hv : Int32.ofInt n = v) (k : V G mm d (pc + 1) ls (.int v :: st) M Q) : V G mm d pc ls st M Q :=
  V.go (fun _ _ _ _ _ _ _ _ _ _ _ _ _ _ _ c _ _ _ w => lv_iconst c.1 c.2.1 hd hv w) k
theorem v_bipush {n : Int} {v : Int32} (hd : decode mm.2.1 pc = .ok (.bipush n, 2)) (hv : (Int8.ofInt n).toInt32 = v) (k : V G mm d (pc + 2) ls (.int v :: st) M Q) : V G mm d pc ls st M Q :=
  V.go (fun _ _ _ _ _ _ _ _ _ _ _ _ _ _ _ c _ _ _ w => lv_bipush c.1 c.2.1 hd hv w) k
theorem v_sipush {n : Int} {v : Int32} (hd : decode mm.2.1 pc = .ok (.sipush n, 3)) (hv : (Int16.ofInt n).toInt32 = v) (k : V G mm d (pc + 3) ls (.int v :: st) M Q) : V G mm d pc ls st M Q :=
  V.go (fun _ _ _ _ _ _ _ _ _ _ _ _ _ _ _ c _ _ _ w => lv_sipush c.1 c.2.1 hd hv w) k
theorem v_lconst {n : Fin 2} {v : Int64} (hd : decode mm.2.1 pc = .ok (.lconst n, 1)) (hv : Int64.ofNat (n : Nat) = v) (k : V G mm d (pc + 1) ls (.long v :: st) M Q) : V G mm d pc ls st M Q :=
  V.go (fun _ _ _ _ _ _ _ _ _ _ _ _ _ _ _ c _ _ _ w => lv_lconst c.1 c.2.1 hd hv w) k
theorem v_ldc {index : Nat} {v : Int32} (hd : decode mm.2.1 pc = .ok (.ldc index, 2)) (hw : Cond.constant mm.1.cls index v ∈ jtb) (k : V G mm d (pc + 2) ls (.int v :: st) M Q) : V G mm d pc ls st M Q :=
  V.go (fun _ _ _ _ _ _ _ _ _ _ _ _ _ _ _ c _ _ _ w => lv_ldc c.1 c.2.1 c.2.2.2.2.2.1 (c.2.2.2.2.2.2.2.1 _ hw) hd w) k
theorem v_ldcw {index : Nat} {v : Int32} (hd : decode mm.2.1 pc = .ok (.ldc_w index, 3)) (hw : Cond.constant mm.1.cls index v ∈ jtb) (k : V G mm d (pc + 3) ls (.int v :: st) M Q) : V G mm d pc ls st M Q :=
  V.go (fun _ _ _ _ _ _ _ _ _ _ _ _ _ _ _ c _ _ _ w => lv_ldcw c.1 c.2.1 c.2.2.2.2.2.1 (c.2.2.2.2.2.2.2.1 _ hw) hd w) k
theorem v_iload_n {n : Fin 4} {i : Nat} {x : Int32} (hd : decode mm.2.1 pc = .ok (.iload_n n, 1)) (hi : (n : Nat) = i) (k : Nat) (hk : ls[k]? = some (i, .int x)) (kk : V G mm d (pc + 1) ls (.int x :: st) M Q) : V G mm d pc ls st M Q :=
  V.go (fun _ _ _ _ _ _ _ _ _ _ _ _ _ _ _ c _ _ hl w => lv_iload_n c.1 c.2.1 hd hi (j_at hl k hk) w) kk
theorem v_iload {i : Nat} {x : Int32} (hd : decode mm.2.1 pc = .ok (.iload i, 2)) (k : Nat) (hk : ls[k]? = some (i, .int x)) (kk : V G mm d (pc + 2) ls (.int x :: st) M Q) : V G mm d pc ls st M Q :=
  V.go (fun _ _ _ _ _ _ _ _ _ _ _ _ _ _ _ c _ _ hl w => lv_iload c.1 c.2.1 hd (j_at hl k hk) w) kk
theorem v_lload_n {n : Fin 4} {i : Nat} {x : Int64} (hd : decode mm.2.1 pc = .ok (.lload_n n, 1)) (hi : (n : Nat) = i) (k : Nat) (hk : ls[k]? = some (i, .long x)) (kk : V G mm d (pc + 1) ls (.long x :: st) M Q) : V G mm d pc ls st M Q :=
  V.go (fun _ _ _ _ _ _ _ _ _ _ _ _ _ _ _ c _ _ hl w => lv_lload_n c.1 c.2.1 hd hi (j_at hl k hk) w) kk
theorem v_lload {i : Nat} {x : Int64} (hd : decode mm.2.1 pc = .ok (.lload i, 2)) (k : Nat) (hk : ls[k]? = some (i, .long x)) (kk : V G mm d (pc + 2) ls (.long x :: st) M Q) : V G mm d pc ls st M Q :=
  V.go (fun _ _ _ _ _ _ _ _ _ _ _ _ _ _ _ c _ _ hl w => lv_lload c.1 c.2.1 hd (j_at hl k hk) w) kk
theorem v_aload_n {n : Fin 4} {i : Nat} {a : Nat} (hd : decode mm.2.1 pc = .ok (.aload_n n, 1)) (hi : (n : Nat) = i) (k : Nat) (hk : ls[k]? = some (i, .ref a)) (kk : V G mm d (pc + 1) ls (.ref a :: st) M Q) : V G mm d pc ls st M Q :=
  V.go (fun _ _ _ _ _ _ _ _ _ _ _ _ _ _ _ c _ _ hl w => lv_aload_n c.1 c.2.1 hd hi (j_at hl k hk) w) kk
theorem v_aload {i : Nat} {a : Nat} (hd : decode mm.2.1 pc = .ok (.aload i, 2)) (k : Nat) (hk : ls[k]? = some (i, .ref a)) (kk : V G mm d (pc + 2) ls (.ref a :: st) M Q) : V G mm d pc ls st M Q :=
  V.go (fun _ _ _ _ _ _ _ _ _ _ _ _ _ _ _ c _ _ hl w => lv_aload c.1 c.2.1 hd (j_at hl k hk) w) kk
theorem v_aload_nN {n : Fin 4} {i : Nat} (hd : decode mm.2.1 pc = .ok (.aload_n n, 1)) (hi : (n : Nat) = i) (k : Nat) (hk : ls[k]? = some (i, .null)) (kk : V G mm d (pc + 1) ls (.null :: st) M Q) : V G mm d pc ls st M Q :=
  V.go (fun _ _ _ _ _ _ _ _ _ _ _ _ _ _ _ c _ _ hl w => lv_aload_nN c.1 c.2.1 hd hi (j_at hl k hk) w) kk
theorem v_aloadN {i : Nat} (hd : decode mm.2.1 pc = .ok (.aload i, 2)) (k : Nat) (hk : ls[k]? = some (i, .null)) (kk : V G mm d (pc + 2) ls (.null :: st) M Q) : V G mm d pc ls st M Q :=
  V.go (fun _ _ _ _ _ _ _ _ _ _ _ _ _ _ _ c _ _ hl w => lv_aloadN c.1 c.2.1 hd (j_at hl k hk) w) kk
def jst (i : Nat) (v : Value) (ls : List (Nat × Value)) : List (Nat × Value) := (i, v) :: ls.filter (fun q => !(q.1 == i) && !(q.1 + 1 == i && q.2.category == 2))
def jst2 (i : Nat) (v : Value) (ls : List (Nat × Value)) : List (Nat × Value) := (i, v) :: ls.filter (fun q => !(q.1 == i) && (!(q.1 == i + 1) && !(q.1 + 1 == i && q.2.category == 2)))
theorem jst_map (i : Nat) (v : Value) : (i, jre G v) :: (ls.map (jrp G)).filter (fun q => !(q.1 == i) && !(q.1 + 1 == i && q.2.category == 2)) = (jst i v ls).map (jrp G) := by
  rw [j_filt ls _ (fun q => !(q.1 == i) && !(q.1 + 1 == i && q.2.category == 2)) (fun q => by show _ = _; simp only [jrp, jre_cat])]
  rfl
theorem jst2_map (i : Nat) (v : Value) : (i, jre G v) :: (ls.map (jrp G)).filter (fun q => !(q.1 == i) && (!(q.1 == i + 1) && !(q.1 + 1 == i && q.2.category == 2))) = (jst2 i v ls).map (jrp G) := by
  rw [j_filt ls _ (fun q => !(q.1 == i) && (!(q.1 == i + 1) && !(q.1 + 1 == i && q.2.category == 2))) (fun q => by show _ = _; simp only [jrp, jre_cat])]
  rfl
theorem v_istore_n {n : Fin 4} {i : Nat} {x : Int32} {ls2 : List (Nat × Value)} (hd : decode mm.2.1 pc = .ok (.istore_n n, 1)) (hi : (n : Nat) = i) (hn : i < mm.2.2.1) (hl : jst i (.int x) ls = ls2) (kk : V G mm d (pc + 1) ls2 st M Q) : V G mm d pc ls (.int x :: st) M Q :=
  V.gol (fun _ _ _ _ _ _ _ _ _ _ _ _ _ _ _ c h w => lv_istore_n c.1 c.2.1 hd hi h hn (by rw [← hl]; exact jst_map i (.int x)) w) kk
theorem v_istore {i : Nat} {x : Int32} {ls2 : List (Nat × Value)} (hd : decode mm.2.1 pc = .ok (.istore i, 2)) (hn : i < mm.2.2.1) (hl : jst i (.int x) ls = ls2) (kk : V G mm d (pc + 2) ls2 st M Q) : V G mm d pc ls (.int x :: st) M Q :=
  V.gol (fun _ _ _ _ _ _ _ _ _ _ _ _ _ _ _ c h w => lv_istore c.1 c.2.1 hd h hn (by rw [← hl]; exact jst_map i (.int x)) w) kk
theorem v_lstore_n {n : Fin 4} {i : Nat} {x : Int64} {ls2 : List (Nat × Value)} (hd : decode mm.2.1 pc = .ok (.lstore_n n, 1)) (hi : (n : Nat) = i) (hn : i + 1 < mm.2.2.1) (hl : jst2 i (.long x) ls = ls2) (kk : V G mm d (pc + 1) ls2 st M Q) : V G mm d pc ls (.long x :: st) M Q :=
  V.gol (fun _ _ _ _ _ _ _ _ _ _ _ _ _ _ _ c h w => lv_lstore_n c.1 c.2.1 hd hi h hn (by rw [← hl]; exact jst2_map i (.long x)) w) kk
theorem v_lstore {i : Nat} {x : Int64} {ls2 : List (Nat × Value)} (hd : decode mm.2.1 pc = .ok (.lstore i, 2)) (hn : i + 1 < mm.2.2.1) (hl : jst2 i (.long x) ls = ls2) (kk : V G mm d (pc + 2) ls2 st M Q) : V G mm d pc ls (.long x :: st) M Q :=
  V.gol (fun _ _ _ _ _ _ _ _ _ _ _ _ _ _ _ c h w => lv_lstore c.1 c.2.1 hd h hn (by rw [← hl]; exact jst2_map i (.long x)) w) kk
theorem v_astore_n {n : Fin 4} {i : Nat} {x : Nat} {ls2 : List (Nat × Value)} (hd : decode mm.2.1 pc = .ok (.astore_n n, 1)) (hi : (n : Nat) = i) (hn : i < mm.2.2.1) (hl : jst i (.ref x) ls = ls2) (kk : V G mm d (pc + 1) ls2 st M Q) : V G mm d pc ls (.ref x :: st) M Q :=
  V.gol (fun _ _ _ _ _ _ _ _ _ _ _ _ _ _ _ c h w => lv_astore_n c.1 c.2.1 hd hi h hn (by rw [← hl]; exact jst_map i (.ref x)) w) kk
theorem v_astore {i : Nat} {x : Nat} {ls2 : List (Nat × Value)} (hd : decode mm.2.1 pc = .ok (.astore i, 2)) (hn : i < mm.2.2.1) (hl : jst i (.ref x) ls = ls2) (kk : V G mm d (pc + 2) ls2 st M Q) : V G mm d pc ls (.ref x :: st) M Q :=
  V.gol (fun _ _ _ _ _ _ _ _ _ _ _ _ _ _ _ c h w => lv_astore c.1 c.2.1 hd h hn (by rw [← hl]; exact jst_map i (.ref x)) w) kk
theorem v_astore_nN {n : Fin 4} {i : Nat} {ls2 : List (Nat × Value)} (hd : decode mm.2.1 pc = .ok (.astore_n n, 1)) (hi : (n : Nat) = i) (hn : i < mm.2.2.1) (hl : jst i .null ls = ls2) (kk : V G mm d (pc + 1) ls2 st M Q) : V G mm d pc ls (.null :: st) M Q :=
  V.gol (fun _ _ _ _ _ _ _ _ _ _ _ _ _ _ _ c h w => lv_astore_nN c.1 c.2.1 hd hi h hn (by rw [← hl]; exact jst_map i .null) w) kk
theorem v_astoreN {i : Nat} {ls2 : List (Nat × Value)} (hd : decode mm.2.1 pc = .ok (.astore i, 2)) (hn : i < mm.2.2.1) (hl : jst i .null ls = ls2) (kk : V G mm d (pc + 2) ls2 st M Q) : V G mm d pc ls (.null :: st) M Q :=
  V.gol (fun _ _ _ _ _ _ _ _ _ _ _ _ _ _ _ c h w => lv_astoreN c.1 c.2.1 hd h hn (by rw [← hl]; exact jst_map i .null) w) kk
theorem v_iinc {i : Nat} {n : Int} {x v : Int32} {ls2 : List (Nat × Value)} (hd : decode mm.2.1 pc = .ok (.iinc i n, 3)) (k : Nat) (hk : ls[k]? = some (i, .int x)) (hv : x + Int32.ofInt n = v) (hn : i < mm.2.2.1) (hl : jst i (.int v) ls = ls2) (kk : V G mm d (pc + 3) ls2 st M Q) : V G mm d pc ls st M Q :=
  V.gol (fun _ _ _ _ _ _ _ _ _ _ _ _ _ _ _ c h w => lv_iinc c.1 c.2.1 hd h (k := k) (x := x) (by rw [List.getElem?_map, hk]; rfl) hv hn (by rw [← hl]; exact jst_map i (.int v)) w) kk
theorem v_iadd {x y : Int32} (hd : decode mm.2.1 pc = .ok (.iadd, 1)) (k : V G mm d (pc + 1) ls (.int (x + y) :: st) M Q) : V G mm d pc ls (.int y :: .int x :: st) M Q :=
  V.go (fun _ _ _ _ _ _ _ _ _ _ _ _ _ _ _ c _ _ _ w => lv_iadd c.1 c.2.1 hd w) k
theorem v_isub {x y : Int32} (hd : decode mm.2.1 pc = .ok (.isub, 1)) (k : V G mm d (pc + 1) ls (.int (x - y) :: st) M Q) : V G mm d pc ls (.int y :: .int x :: st) M Q :=
  V.go (fun _ _ _ _ _ _ _ _ _ _ _ _ _ _ _ c _ _ _ w => lv_isub c.1 c.2.1 hd w) k
theorem v_imul {x y : Int32} (hd : decode mm.2.1 pc = .ok (.imul, 1)) (k : V G mm d (pc + 1) ls (.int (x * y) :: st) M Q) : V G mm d pc ls (.int y :: .int x :: st) M Q :=
  V.go (fun _ _ _ _ _ _ _ _ _ _ _ _ _ _ _ c _ _ _ w => lv_imul c.1 c.2.1 hd w) k
theorem v_iand {x y : Int32} (hd : decode mm.2.1 pc = .ok (.iand, 1)) (k : V G mm d (pc + 1) ls (.int (x &&& y) :: st) M Q) : V G mm d pc ls (.int y :: .int x :: st) M Q :=
  V.go (fun _ _ _ _ _ _ _ _ _ _ _ _ _ _ _ c _ _ _ w => lv_iand c.1 c.2.1 hd w) k
theorem v_ior {x y : Int32} (hd : decode mm.2.1 pc = .ok (.ior, 1)) (k : V G mm d (pc + 1) ls (.int (x ||| y) :: st) M Q) : V G mm d pc ls (.int y :: .int x :: st) M Q :=
  V.go (fun _ _ _ _ _ _ _ _ _ _ _ _ _ _ _ c _ _ _ w => lv_ior c.1 c.2.1 hd w) k
theorem v_ixor {x y : Int32} (hd : decode mm.2.1 pc = .ok (.ixor, 1)) (k : V G mm d (pc + 1) ls (.int (x ^^^ y) :: st) M Q) : V G mm d pc ls (.int y :: .int x :: st) M Q :=
  V.go (fun _ _ _ _ _ _ _ _ _ _ _ _ _ _ _ c _ _ _ w => lv_ixor c.1 c.2.1 hd w) k
theorem v_ishl {x y : Int32} (hd : decode mm.2.1 pc = .ok (.ishl, 1)) (k : V G mm d (pc + 1) ls (.int (x <<< (y &&& 31)) :: st) M Q) : V G mm d pc ls (.int y :: .int x :: st) M Q :=
  V.go (fun _ _ _ _ _ _ _ _ _ _ _ _ _ _ _ c _ _ _ w => lv_ishl c.1 c.2.1 hd w) k
theorem v_ishr {x y : Int32} (hd : decode mm.2.1 pc = .ok (.ishr, 1)) (k : V G mm d (pc + 1) ls (.int (x >>> (y &&& 31)) :: st) M Q) : V G mm d pc ls (.int y :: .int x :: st) M Q :=
  V.go (fun _ _ _ _ _ _ _ _ _ _ _ _ _ _ _ c _ _ _ w => lv_ishr c.1 c.2.1 hd w) k
theorem v_idiv {x y : Int32} (hd : decode mm.2.1 pc = .ok (.idiv, 1)) (hne : ¬ y = 0) (k : V G mm d (pc + 1) ls (.int (x / y) :: st) M Q) : V G mm d pc ls (.int y :: .int x :: st) M Q :=
  V.go (fun _ _ _ _ _ _ _ _ _ _ _ _ _ _ _ c _ _ _ w => lv_idiv c.1 c.2.1 hd hne w) k
theorem v_irem {x y : Int32} (hd : decode mm.2.1 pc = .ok (.irem, 1)) (hne : ¬ y = 0) (k : V G mm d (pc + 1) ls (.int (x - x / y * y) :: st) M Q) : V G mm d pc ls (.int y :: .int x :: st) M Q :=
  V.go (fun _ _ _ _ _ _ _ _ _ _ _ _ _ _ _ c _ _ _ w => lv_irem c.1 c.2.1 hd hne w) k
theorem v_iushr {x y : Int32} (hd : decode mm.2.1 pc = .ok (.iushr, 1)) (k : V G mm d (pc + 1) ls (.int ((x.toUInt32 >>> (y.toUInt32 &&& Int32.toUInt32 31)).toInt32) :: st) M Q) : V G mm d pc ls (.int y :: .int x :: st) M Q :=
  V.go (fun _ _ _ _ _ _ _ _ _ _ _ _ _ _ _ c _ _ _ w => lv_iushr c.1 c.2.1 hd rfl w) k
theorem v_ladd {x y : Int64} (hd : decode mm.2.1 pc = .ok (.ladd, 1)) (k : V G mm d (pc + 1) ls (.long (x + y) :: st) M Q) : V G mm d pc ls (.long y :: .long x :: st) M Q :=
  V.go (fun _ _ _ _ _ _ _ _ _ _ _ _ _ _ _ c _ _ _ w => lv_ladd c.1 c.2.1 hd w) k
theorem v_lor {x y : Int64} (hd : decode mm.2.1 pc = .ok (.lor, 1)) (k : V G mm d (pc + 1) ls (.long (x ||| y) :: st) M Q) : V G mm d pc ls (.long y :: .long x :: st) M Q :=
  V.go (fun _ _ _ _ _ _ _ _ _ _ _ _ _ _ _ c _ _ _ w => lv_lor c.1 c.2.1 hd w) k
theorem v_lshl {x : Int64} {y : Int32} (hd : decode mm.2.1 pc = .ok (.lshl, 1)) (k : V G mm d (pc + 1) ls (.long (x <<< (y.toInt64 &&& 63)) :: st) M Q) : V G mm d pc ls (.int y :: .long x :: st) M Q :=
  V.go (fun _ _ _ _ _ _ _ _ _ _ _ _ _ _ _ c _ _ _ w => lv_lshl c.1 c.2.1 hd rfl w) k
theorem v_i2l {x : Int32} (hd : decode mm.2.1 pc = .ok (.i2l, 1)) (k : V G mm d (pc + 1) ls (.long x.toInt64 :: st) M Q) : V G mm d pc ls (.int x :: st) M Q :=
  V.go (fun _ _ _ _ _ _ _ _ _ _ _ _ _ _ _ c _ _ _ w => lv_i2l c.1 c.2.1 hd rfl w) k
theorem v_i2b {x : Int32} (hd : decode mm.2.1 pc = .ok (.i2b, 1)) (k : V G mm d (pc + 1) ls (.int x.toInt8.toInt32 :: st) M Q) : V G mm d pc ls (.int x :: st) M Q :=
  V.go (fun _ _ _ _ _ _ _ _ _ _ _ _ _ _ _ c _ _ _ w => lv_i2b c.1 c.2.1 hd rfl w) k
theorem v_dup {v : Value} (hd : decode mm.2.1 pc = .ok (.dup, 1)) (hv : v.category = 1) (k : V G mm d (pc + 1) ls (v :: v :: st) M Q) : V G mm d pc ls (v :: st) M Q :=
  V.go (fun _ _ _ _ _ _ _ _ _ _ _ _ _ _ _ c _ _ _ w => lv_dup c.1 c.2.1 hd ((jre_cat G v).trans hv) w) k
theorem v_pop {v : Value} (hd : decode mm.2.1 pc = .ok (.pop, 1)) (hv : v.category = 1) (k : V G mm d (pc + 1) ls st M Q) : V G mm d pc ls (v :: st) M Q :=
  V.go (fun _ _ _ _ _ _ _ _ _ _ _ _ _ _ _ c _ _ _ w => lv_pop c.1 c.2.1 hd ((jre_cat G v).trans hv) w) k
theorem v_dup2 {v w : Value} (hd : decode mm.2.1 pc = .ok (.dup2, 1)) (hv : v.category = 1) (hw : w.category = 1) (k : V G mm d (pc + 1) ls (v :: w :: v :: w :: st) M Q) : V G mm d pc ls (v :: w :: st) M Q :=
  V.go (fun _ _ _ _ _ _ _ _ _ _ _ _ _ _ _ c _ _ _ q => lv_dup2_11 c.1 c.2.1 hd ((jre_cat G v).trans hv) ((jre_cat G w).trans hw) q) k
theorem v_null (hd : decode mm.2.1 pc = .ok (.aconst_null, 1)) (k : V G mm d (pc + 1) ls (.null :: st) M Q) : V G mm d pc ls st M Q :=
  V.go (fun _ _ _ _ _ _ _ _ _ _ _ _ _ _ _ c _ _ _ w => lv_null c.1 c.2.1 hd w) k
theorem v_goto {off : Int} {tgt : Nat} (hd : decode mm.2.1 pc = .ok (.goto off, 3)) (ht : (pc : Int) + off = (tgt : Int)) (k : V G mm d tgt ls st M Q) : V G mm d pc ls st M Q :=
  V.go (fun _ _ _ _ _ _ _ _ _ _ _ _ _ _ _ c _ _ _ w => lv_goto c.1 c.2.1 hd ht w) k
theorem v_if_eq {x : Int32} {off : Int} {tgt : Nat} (hd : decode mm.2.1 pc = .ok (.ifCond .eq off, 3)) (ht : (pc : Int) + off = (tgt : Int)) (kt : x = 0 → V G mm d tgt ls st M Q) (kf : ¬ (x = 0) → V G mm d (pc + 3) ls st M Q) : V G mm d pc ls (.int x :: st) M Q := by
  by_cases h : x = 0
  · exact V.go (fun _ _ _ _ _ _ _ _ _ _ _ _ _ _ _ c _ _ _ w => lv_if_eq c.1 c.2.1 hd ht (fun _ => w) (fun q => absurd h q)) (kt h)
  · exact V.go (fun _ _ _ _ _ _ _ _ _ _ _ _ _ _ _ c _ _ _ w => lv_if_eq c.1 c.2.1 hd ht (fun q => absurd q h) (fun _ => w)) (kf h)
theorem v_if_ne {x : Int32} {off : Int} {tgt : Nat} (hd : decode mm.2.1 pc = .ok (.ifCond .ne off, 3)) (ht : (pc : Int) + off = (tgt : Int)) (kt : ¬ x = 0 → V G mm d tgt ls st M Q) (kf : x = 0 → V G mm d (pc + 3) ls st M Q) : V G mm d pc ls (.int x :: st) M Q := by
  by_cases h : ¬ x = 0
  · exact V.go (fun _ _ _ _ _ _ _ _ _ _ _ _ _ _ _ c _ _ _ w => lv_if_ne c.1 c.2.1 hd ht (fun _ => w) (fun q => absurd q h)) (kt h)
  · exact V.go (fun _ _ _ _ _ _ _ _ _ _ _ _ _ _ _ c _ _ _ w => lv_if_ne c.1 c.2.1 hd ht (fun q => absurd q h) (fun _ => w)) (kf (Decidable.not_not.mp h))
theorem v_if_lt {x : Int32} {off : Int} {tgt : Nat} (hd : decode mm.2.1 pc = .ok (.ifCond .lt off, 3)) (ht : (pc : Int) + off = (tgt : Int)) (kt : x < 0 → V G mm d tgt ls st M Q) (kf : ¬ (x < 0) → V G mm d (pc + 3) ls st M Q) : V G mm d pc ls (.int x :: st) M Q := by
  by_cases h : x < 0
  · exact V.go (fun _ _ _ _ _ _ _ _ _ _ _ _ _ _ _ c _ _ _ w => lv_if_lt c.1 c.2.1 hd ht (fun _ => w) (fun q => absurd h q)) (kt h)
  · exact V.go (fun _ _ _ _ _ _ _ _ _ _ _ _ _ _ _ c _ _ _ w => lv_if_lt c.1 c.2.1 hd ht (fun q => absurd q h) (fun _ => w)) (kf h)
theorem v_if_ge {x : Int32} {off : Int} {tgt : Nat} (hd : decode mm.2.1 pc = .ok (.ifCond .ge off, 3)) (ht : (pc : Int) + off = (tgt : Int)) (kt : 0 ≤ x → V G mm d tgt ls st M Q) (kf : ¬ (0 ≤ x) → V G mm d (pc + 3) ls st M Q) : V G mm d pc ls (.int x :: st) M Q := by
  by_cases h : 0 ≤ x
  · exact V.go (fun _ _ _ _ _ _ _ _ _ _ _ _ _ _ _ c _ _ _ w => lv_if_ge c.1 c.2.1 hd ht (fun _ => w) (fun q => absurd h q)) (kt h)
  · exact V.go (fun _ _ _ _ _ _ _ _ _ _ _ _ _ _ _ c _ _ _ w => lv_if_ge c.1 c.2.1 hd ht (fun q => absurd q h) (fun _ => w)) (kf h)
theorem v_if_gt {x : Int32} {off : Int} {tgt : Nat} (hd : decode mm.2.1 pc = .ok (.ifCond .gt off, 3)) (ht : (pc : Int) + off = (tgt : Int)) (kt : 0 < x → V G mm d tgt ls st M Q) (kf : ¬ (0 < x) → V G mm d (pc + 3) ls st M Q) : V G mm d pc ls (.int x :: st) M Q := by
  by_cases h : 0 < x
  · exact V.go (fun _ _ _ _ _ _ _ _ _ _ _ _ _ _ _ c _ _ _ w => lv_if_gt c.1 c.2.1 hd ht (fun _ => w) (fun q => absurd h q)) (kt h)
  · exact V.go (fun _ _ _ _ _ _ _ _ _ _ _ _ _ _ _ c _ _ _ w => lv_if_gt c.1 c.2.1 hd ht (fun q => absurd q h) (fun _ => w)) (kf h)
theorem v_if_le {x : Int32} {off : Int} {tgt : Nat} (hd : decode mm.2.1 pc = .ok (.ifCond .le off, 3)) (ht : (pc : Int) + off = (tgt : Int)) (kt : x ≤ 0 → V G mm d tgt ls st M Q) (kf : ¬ (x ≤ 0) → V G mm d (pc + 3) ls st M Q) : V G mm d pc ls (.int x :: st) M Q := by
  by_cases h : x ≤ 0
  · exact V.go (fun _ _ _ _ _ _ _ _ _ _ _ _ _ _ _ c _ _ _ w => lv_if_le c.1 c.2.1 hd ht (fun _ => w) (fun q => absurd h q)) (kt h)
  · exact V.go (fun _ _ _ _ _ _ _ _ _ _ _ _ _ _ _ c _ _ _ w => lv_if_le c.1 c.2.1 hd ht (fun q => absurd q h) (fun _ => w)) (kf h)
theorem v_ic_eq {x y : Int32} {off : Int} {tgt : Nat} (hd : decode mm.2.1 pc = .ok (.if_icmp .eq off, 3)) (ht : (pc : Int) + off = (tgt : Int)) (kt : x = y → V G mm d tgt ls st M Q) (kf : ¬ (x = y) → V G mm d (pc + 3) ls st M Q) : V G mm d pc ls (.int y :: .int x :: st) M Q := by
  by_cases h : x = y
  · exact V.go (fun _ _ _ _ _ _ _ _ _ _ _ _ _ _ _ c _ _ _ w => lv_icmp_eq c.1 c.2.1 hd ht (fun _ => w) (fun q => absurd h q)) (kt h)
  · exact V.go (fun _ _ _ _ _ _ _ _ _ _ _ _ _ _ _ c _ _ _ w => lv_icmp_eq c.1 c.2.1 hd ht (fun q => absurd q h) (fun _ => w)) (kf h)
theorem v_ic_ne {x y : Int32} {off : Int} {tgt : Nat} (hd : decode mm.2.1 pc = .ok (.if_icmp .ne off, 3)) (ht : (pc : Int) + off = (tgt : Int)) (kt : ¬ x = y → V G mm d tgt ls st M Q) (kf : x = y → V G mm d (pc + 3) ls st M Q) : V G mm d pc ls (.int y :: .int x :: st) M Q := by
  by_cases h : ¬ x = y
  · exact V.go (fun _ _ _ _ _ _ _ _ _ _ _ _ _ _ _ c _ _ _ w => lv_icmp_ne c.1 c.2.1 hd ht (fun _ => w) (fun q => absurd q h)) (kt h)
  · exact V.go (fun _ _ _ _ _ _ _ _ _ _ _ _ _ _ _ c _ _ _ w => lv_icmp_ne c.1 c.2.1 hd ht (fun q => absurd q h) (fun _ => w)) (kf (Decidable.not_not.mp h))
theorem v_ic_lt {x y : Int32} {off : Int} {tgt : Nat} (hd : decode mm.2.1 pc = .ok (.if_icmp .lt off, 3)) (ht : (pc : Int) + off = (tgt : Int)) (kt : x < y → V G mm d tgt ls st M Q) (kf : ¬ (x < y) → V G mm d (pc + 3) ls st M Q) : V G mm d pc ls (.int y :: .int x :: st) M Q := by
  by_cases h : x < y
  · exact V.go (fun _ _ _ _ _ _ _ _ _ _ _ _ _ _ _ c _ _ _ w => lv_icmp_lt c.1 c.2.1 hd ht (fun _ => w) (fun q => absurd h q)) (kt h)
  · exact V.go (fun _ _ _ _ _ _ _ _ _ _ _ _ _ _ _ c _ _ _ w => lv_icmp_lt c.1 c.2.1 hd ht (fun q => absurd q h) (fun _ => w)) (kf h)
theorem v_ic_ge {x y : Int32} {off : Int} {tgt : Nat} (hd : decode mm.2.1 pc = .ok (.if_icmp .ge off, 3)) (ht : (pc : Int) + off = (tgt : Int)) (kt : y ≤ x → V G mm d tgt ls st M Q) (kf : ¬ (y ≤ x) → V G mm d (pc + 3) ls st M Q) : V G mm d pc ls (.int y :: .int x :: st) M Q := by
  by_cases h : y ≤ x
  · exact V.go (fun _ _ _ _ _ _ _ _ _ _ _ _ _ _ _ c _ _ _ w => lv_icmp_ge c.1 c.2.1 hd ht (fun _ => w) (fun q => absurd h q)) (kt h)
  · exact V.go (fun _ _ _ _ _ _ _ _ _ _ _ _ _ _ _ c _ _ _ w => lv_icmp_ge c.1 c.2.1 hd ht (fun q => absurd q h) (fun _ => w)) (kf h)
theorem v_ic_gt {x y : Int32} {off : Int} {tgt : Nat} (hd : decode mm.2.1 pc = .ok (.if_icmp .gt off, 3)) (ht : (pc : Int) + off = (tgt : Int)) (kt : y < x → V G mm d tgt ls st M Q) (kf : ¬ (y < x) → V G mm d (pc + 3) ls st M Q) : V G mm d pc ls (.int y :: .int x :: st) M Q := by
  by_cases h : y < x
  · exact V.go (fun _ _ _ _ _ _ _ _ _ _ _ _ _ _ _ c _ _ _ w => lv_icmp_gt c.1 c.2.1 hd ht (fun _ => w) (fun q => absurd h q)) (kt h)
  · exact V.go (fun _ _ _ _ _ _ _ _ _ _ _ _ _ _ _ c _ _ _ w => lv_icmp_gt c.1 c.2.1 hd ht (fun q => absurd q h) (fun _ => w)) (kf h)
theorem v_ic_le {x y : Int32} {off : Int} {tgt : Nat} (hd : decode mm.2.1 pc = .ok (.if_icmp .le off, 3)) (ht : (pc : Int) + off = (tgt : Int)) (kt : x ≤ y → V G mm d tgt ls st M Q) (kf : ¬ (x ≤ y) → V G mm d (pc + 3) ls st M Q) : V G mm d pc ls (.int y :: .int x :: st) M Q := by
  by_cases h : x ≤ y
  · exact V.go (fun _ _ _ _ _ _ _ _ _ _ _ _ _ _ _ c _ _ _ w => lv_icmp_le c.1 c.2.1 hd ht (fun _ => w) (fun q => absurd h q)) (kt h)
  · exact V.go (fun _ _ _ _ _ _ _ _ _ _ _ _ _ _ _ c _ _ _ w => lv_icmp_le c.1 c.2.1 hd ht (fun q => absurd q h) (fun _ => w)) (kf h)
theorem v_ifnull {a : Nat} {off : Int} (hd : decode mm.2.1 pc = .ok (.ifnull off, 3)) (k : V G mm d (pc + 3) ls st M Q) : V G mm d pc ls (.ref a :: st) M Q :=
  V.go (fun _ _ _ _ _ _ _ _ _ _ _ _ _ _ _ c _ _ _ w => lv_ifnull c.1 c.2.1 hd w) k
theorem v_ifnullN {off : Int} {tgt : Nat} (hd : decode mm.2.1 pc = .ok (.ifnull off, 3)) (ht : (pc : Int) + off = (tgt : Int)) (k : V G mm d tgt ls st M Q) : V G mm d pc ls (.null :: st) M Q :=
  V.go (fun _ _ _ _ _ _ _ _ _ _ _ _ _ _ _ c _ _ _ w => lv_ifnullN c.1 c.2.1 hd ht w) k
theorem v_ifnonnull {a : Nat} {off : Int} {tgt : Nat} (hd : decode mm.2.1 pc = .ok (.ifnonnull off, 3)) (ht : (pc : Int) + off = (tgt : Int)) (k : V G mm d tgt ls st M Q) : V G mm d pc ls (.ref a :: st) M Q :=
  V.go (fun _ _ _ _ _ _ _ _ _ _ _ _ _ _ _ c _ _ _ w => lv_ifnonnull c.1 c.2.1 hd ht w) k
theorem v_ifnonnullN {off : Int} (hd : decode mm.2.1 pc = .ok (.ifnonnull off, 3)) (k : V G mm d (pc + 3) ls st M Q) : V G mm d pc ls (.null :: st) M Q :=
  V.go (fun _ _ _ _ _ _ _ _ _ _ _ _ _ _ _ c _ _ _ w => lv_ifnonnullN c.1 c.2.1 hd w) k
theorem v_lookup {dflt : Int} {ps : Array (Int × Int)} {len : Nat} {x : Int32} {off : Int} {tgt : Nat} (hd : decode mm.2.1 pc = .ok (.lookupswitch dflt ps, len)) (hp : (ps.toList.zip (ps.toList.drop 1)).all (fun (a, next) => a.1 < next.1) = true) (ho : Op.lookupswitch.offset ps.toList dflt x.toInt = off) (ht : (pc : Int) + off = (tgt : Int)) (k : V G mm d tgt ls st M Q) : V G mm d pc ls (.int x :: st) M Q :=
  V.go (fun _ _ _ _ _ _ _ _ _ _ _ _ _ _ _ c _ _ _ w => lv_lookup c.1 c.2.1 hd hp ho ht w) k
theorem v_tableOut {dflt lo hi : Int} {offs : Array Int} {len : Nat} {x : Int32} {tgt : Nat} (hd : decode mm.2.1 pc = .ok (.tableswitch dflt lo hi offs, len)) (h : x.toInt < lo ∨ hi < x.toInt) (ht : (pc : Int) + dflt = (tgt : Int)) (k : V G mm d tgt ls st M Q) : V G mm d pc ls (.int x :: st) M Q :=
  V.go (fun _ _ _ _ _ _ _ _ _ _ _ _ _ _ _ c _ _ _ w => lv_tableOut c.1 c.2.1 hd h ht w) k
theorem v_tableIn {dflt lo hi : Int} {offs : Array Int} {len : Nat} {x : Int32} {off : Int} {tgt : Nat} (hd : decode mm.2.1 pc = .ok (.tableswitch dflt lo hi offs, len)) (h1 : ¬ x.toInt < lo) (h2 : ¬ hi < x.toInt) (ho : offs[(x.toInt - lo).toNat]? = some off) (ht : (pc : Int) + off = (tgt : Int)) (k : V G mm d tgt ls st M Q) : V G mm d pc ls (.int x :: st) M Q :=
  V.go (fun _ _ _ _ _ _ _ _ _ _ _ _ _ _ _ c _ _ _ w => lv_tableIn c.1 c.2.1 hd h1 h2 ho ht w) k
end JV
