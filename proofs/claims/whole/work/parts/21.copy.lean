section JCP
variable {p : Program} {l : Launch} {e : Env} {R : Room} {s : State} {m : MethodId} {args : Array Value} {below : List Frame} {meth : Method} {c : Code} {H : Heap} {locs : List Loc} {cells slots : Nat} {Q : State → Prop}
variable {cc : ByteArray} {pc : Nat} {ls : Array Slot} {rest : List Value} {A : Nat → Prop} {a : Nat}
theorem jnn (z : Int32) (h : ¬ z < 0) : z.toInt = (z.toNatClampNeg : Int) := (toNatClampNeg_of_not_neg32 z h).symm
/-- System.arraycopy between rows of numbers: the heap has its size still -/
theorem jw_copy {own : String} {index a0 n0 n1 : Nat} {c0 c1 : ClassId} {f g : Nat → Int32} {ty : FieldType} {sp dp n : Int32} (hx : p.tables.exec = Jvm.exec) (hb : c.code = cc) (hml : c.maxLocals = ls.size) (hown : s.vm.findClass own = some m.cls)
    (hlink : (Cond.methodLink own index arraycopyName).before args s = true) (hnat : (Cond.native arraycopyName).before args s = true) (hstat : (Cond.static arraycopyName).before args s = true) (hini : (Cond.initialized "java/lang/System").before args s = true)
    (hA0 : ArrOfT s c0 ty) (hA1 : ArrOfT s c1 ty) (hc0 : H[a0]? = some (vp_cell c0 (n0, .inl f))) (hc1 : H[a]? = some (vp_cell c1 (n1, .inl g))) (hprim : refKind ty = false) (h1 : ¬ sp < 0) (h2 : ¬ dp < 0) (h3 : ¬ n < 0) (h4 : sp.toNatClampNeg + n.toNatClampNeg ≤ n0) (h5 : dp.toNatClampNeg + n.toNatClampNeg ≤ n1)
    (hfit : ∀ i, i < n.toNatClampNeg → fits ty (.int (f (sp.toNatClampNeg + i))) = true) (hS : va_S A s.heap H locs) (hA : A a) (hframes : 1 ≤ R.frames) (hlocals : (rest.map fun v => v.category).sum + (nativeFrameWords "java/lang/System" "arraycopy" 5 + 11) ≤ R.locals) (hdg : decode cc pc = .ok (.invokestatic index, 3))
    (kk : ∀ (H1 : Heap) (locs1 : List Loc), H1[a]? = some (vp_cell c1 (n1, .inl (va_cpy f g sp.toNatClampNeg dp.toNatClampNeg n.toNatClampNeg))) → H1.size = H.size → (∀ q : Nat, q ≠ a → H1[q]? = H[q]?) → va_S A s.heap H1 locs1 → W p l e R s m args below meth c H1 locs1 cells slots Q (F0 m (pc + 3) ls rest)) :
    W p l e R s m args below meth c H locs cells slots Q (F0 m pc ls (.int n :: .int dp :: .ref a :: .int sp :: .ref a0 :: rest)) := by
  intro T hT X
  obtain ⟨-, k0, hk0, cm0, hkk0⟩ := hA0 n0 (fun j => .int (f j))
  obtain ⟨-, k1, hk1, cm1, hkk1⟩ := hA1 n1 (fun j => .int (g j))
  have z0 : (vp_cell c0 (n0, .inl f)).slots.size = n0 := by show (arrV c0 n0 (fun j => .int (f j))).slots.size = n0; rw [arrV_size]
  have z1 : (vp_cell c1 (n1, .inl g)).slots.size = n1 := by show (arrV c1 n1 (fun j => .int (g j))).slots.size = n1; rw [arrV_size]
  have rd : ∀ i, i < n.toNatClampNeg → (vp_cell c0 (n0, .inl f)).slots.getD (sp.toNatClampNeg + i) .null = .int (f (sp.toNatClampNeg + i)) := fun i hi => by
    show (arrV c0 n0 (fun j => .int (f j))).slots.getD _ _ = _
    rw [Array.getD_eq_getD_getElem?, arrV_read _ _ (by omega)]
    rfl
  obtain ⟨vm', X', step⟩ := X.arraycopy hx hown hlink hnat hstat hini (src := a0) (dst := a) (cs := vp_cell c0 (n0, .inl f)) (cd := vp_cell c1 (n1, .inl g)) (srcPos := sp) (destPos := dp) (n := n) (by rw [hT]; exact hc0) (by rw [hT]; exact hc1)
    (fun _ h => by cases h) (fun _ h => by cases h) (fun h => by cases h) (fun h => by cases h) hk0 hk1 hkk0 hkk1 (by simp [hprim]) h1 h2 h3
    (by rw [jnn sp h1, jnn n h3, z0]; omega) (by rw [jnn dp h2, jnn n h3, z1]; omega)
    (fun vm₁ _ i hi => by rw [rd i hi]; exact ⟨hfit i hi, trivial⟩)
    (g := F0 m pc ls (.int n :: .int dp :: .ref a :: .int sp :: .ref a0 :: rest)) rfl (by rw [hml]) (rest := rest) rfl (by rw [hb]; exact hdg) hframes (by show 2 * 0 + _ + _ ≤ _; omega)
  have e1 : copied (vp_cell c0 (n0, .inl f)) (vp_cell c1 (n1, .inl g)) sp dp n = vp_cell c1 (n1, .inl (va_cpy f g sp.toNatClampNeg dp.toNatClampNeg n.toNatClampNeg)) := va_copied (fun z => .int z) c0 c1 f g h4
  rw [e1] at X' step
  have hl : a < H.size := (Array.getElem?_eq_some_iff.mp hc1).1
  generalize vp_cell c1 (n1, .inl (va_cpy f g sp.toNatClampNeg dp.toNatClampNeg n.toNatClampNeg)) = nc at X' step kk
  have hh : ((T.setVm vm').setCell a nc).heap = H.setIfInBounds a nc := by rw [← hT]; rfl
  have oq : ∀ q : Nat, q ≠ a → (H.setIfInBounds a nc)[q]? = H[q]? := fun q hq => by simp [Array.getElem?_setIfInBounds, Ne.symm hq]
  obtain ⟨t, a1, b1⟩ := kk (H.setIfInBounds a nc) _ (by simp [Array.getElem?_setIfInBounds, hl]) (by simp) oq ⟨by simp; exact hS.1, fun q g1 g2 => by
      rw [oq q (fun e => g2 (by rw [e]; exact hA))]
      exact hS.2.1 q g1 g2, fun q hq => by
      rcases List.mem_append.mp hq with h | h
      · exact hS.2.2 q h
      · obtain ⟨z, -, hz⟩ := List.mem_map.mp h
        rw [← hz]
        exact hA⟩ _ hh X'
  exact ⟨t, step t a1, b1⟩
end JCP
section JX2
variable {G : jG} {mm mm2 : jMeth} {d pc : Nat} {ls ls2 : List (Nat × Value)} {st : List Value} {M : jM} {Q : Option Value → jM → Prop} {β : Type} {b : β}
theorem rI_aI {a c j : Nat} {g : Nat → Int32} : rI (aI M a g) c j = if c = a then g j else rI M c j := by
  simp only [rI, aI, upA]
  split <;> rfl
theorem rL_aI {a c j : Nat} {g : Nat → Int32} : rL (aI M a g) c j = rL M c j := rfl
theorem rR_aI {a c j : Nat} {g : Nat → Int32} : rR (aI M a g) c j = rR M c j := rfl
theorem tg_aI {a c : Nat} {g : Nat → Int32} : tg (aI M a g) c = tg M c := rfl
theorem jbyte_fit {x : Int32} (h : x.toInt8.toInt32 = x) : fits .byte (.int x) = true := by
  rw [← h]
  simp [fits]
  have h1 := Int8.minValue_le_toInt x.toInt8
  have h2 := Int8.toInt_le x.toInt8
  constructor
  · rw [Int32.le_iff_toInt_le]
    simp at h1 ⊢
    exact h1
  · rw [Int32.le_iff_toInt_le]
    simp at h2 ⊢
    exact h2
theorem x_cp {idx a0 a t : Nat} {sp dp n : Int32} {f : jM → Option β} (h1d : 1 ≤ d) (ht : t = 100 ∨ t = 101) (hd : decode mm.2.1 pc = .ok (.invokestatic idx, 3)) (hw : Cond.methodLink mm.1.cls idx arraycopyName ∈ jtb ∧ Cond.native arraycopyName ∈ jtb ∧ Cond.static arraycopyName ∈ jtb ∧ Cond.initialized "java/lang/System" ∈ jtb) (hrest : Nat.ble ((st.map fun v => v.category).sum) 8 = true)
    (h : (cpI t M a0 sp a dp n).bind f = some b) (kk : ∀ M1, f M1 = some b → V G mm d (pc + 3) ls st M1 Q) : V G mm d pc ls (.int n :: .int dp :: .ref a :: .int sp :: .ref a0 :: st) M Q := by
  obtain ⟨M1, h1, h2⟩ := Option.bind_eq_some_iff.mp h
  unfold cpI at h1
  split at h1
  case isFalse => cases h1
  case isTrue hq =>
  cases h1
  obtain ⟨t0, t1, s1, s2, s3, s4, s5, s6⟩ := hq
  refine V.gom (M2 := aI M a (va_cpy (rI M a0) (rI M a) sp.toNatClampNeg dp.toNatClampNeg n.toNatClampNeg)) rfl (fun p e R s m args below meth c lsR H locs cells slots Z hc hH hS hl w => ?_) (kk _ h2)
  have hts := hc.2.2.2.2.2.2.2.1
  have e0 := jtag t0
  have e1 := jtag t1
  have ha0 := jH_pos hH e0 (by show t ≠ 105; omega)
  have ha := jH_pos hH e1 (by show t ≠ 105; omega)
  have hal0 := tg_lt e0 (by intro h; have h := congrArg Prod.fst h; simp at h; omega)
  have hal := tg_lt e1 (by intro h; have h := congrArg Prod.fst h; simp at h; omega)
  have c0 := jH_cell hH ha0 hal0
  have c1 := jH_cell hH ha hal
  have b1 := hc.2.2.2.2.2.2.2.2.2.2.2.1
  have b2 := hc.2.2.2.2.2.2.2.2.2.2.2.2
  have b3 : (((st.map (jre G)).map fun v => v.category).sum) ≤ 8 := by rw [jcat_sum]; exact Nat.le_of_ble_eq_true hrest
  have b4 : nativeFrameWords "java/lang/System" "arraycopy" 5 = 7 := by decide +kernel
  have hset : ∀ (H1 : Heap) (locs1 : List Loc), va_at (jD G) vwCl (jad G a, jE G (aI M a (va_cpy (rI M a0) (rI M a) sp.toNatClampNeg dp.toNatClampNeg n.toNatClampNeg)) a) H1 → H1.size = H.size → (∀ q : Nat, q ≠ jad G a → H1[q]? = H[q]?) → va_S (jA G) s.heap H1 locs1 → W p (jl G) e R s m args below meth c H1 locs1 cells slots Z (F0 m (pc + 3) lsR (st.map (jre G))) := by
    intro H1 locs1 g1 g2 g3 g4
    refine w H1 locs1 (jH_set (M := M) rfl ha (fun q hq => jE_eq rfl (by funext j; rw [rI_aI, if_neg hq]) rfl rfl) (fun j => by rw [rI_aI, if_neg (by omega)]) hH g1 g2 g3) g4
  have e9 : rI (aI M a (va_cpy (rI M a0) (rI M a) sp.toNatClampNeg dp.toNatClampNeg n.toNatClampNeg)) a = va_cpy (rI M a0) (rI M a) sp.toNatClampNeg dp.toNatClampNeg n.toNatClampNeg := by funext j; rw [rI_aI, if_pos rfl]
  rcases ht with rfl | rfl
  · rw [jE_int e0] at c0
    rw [jE_int e1] at c1
    refine jw_copy (ty := .int) (own := mm.1.cls) hc.1 hc.2.1 (hc.2.2.2.2.1.trans hl.1.symm) hc.2.2.2.2.2.1 (hts _ hw.1) (hts _ hw.2.1) (hts _ hw.2.2.1) (hts _ hw.2.2.2) (hc.2.2.2.2.2.2.2.2.1.1.2 0 _ rfl).1 (hc.2.2.2.2.2.2.2.2.1.1.2 0 _ rfl).1 c0 c1 rfl s1 s2 s3 s4 s5 (fun i _ => rfl) hS (by rw [jad_pos ha]; exact Nat.le_add_right _ _) (by omega) (by rw [b4]; omega) hd (fun H1 locs1 g1 g2 g3 g4 => hset H1 locs1 ?_ g2 g3 g4)
    rw [jE_int (M := aI M a _) e1, e9]
    exact g1
  · rw [jE_byte e0] at c0
    rw [jE_byte e1] at c1
    refine jw_copy (ty := .byte) (own := mm.1.cls) hc.1 hc.2.1 (hc.2.2.2.2.1.trans hl.1.symm) hc.2.2.2.2.2.1 (hts _ hw.1) (hts _ hw.2.1) (hts _ hw.2.2.1) (hts _ hw.2.2.2) (hc.2.2.2.2.2.2.2.2.1.1.2 1 _ rfl).1 (hc.2.2.2.2.2.2.2.2.1.1.2 1 _ rfl).1 c0 c1 rfl s1 s2 s3 s4 s5 (fun i hi => jbyte_fit (by have := s6 i hi; simpa [jfit] using this)) hS (by rw [jad_pos ha]; exact Nat.le_add_right _ _) (by omega) (by rw [b4]; omega) hd (fun H1 locs1 g1 g2 g3 g4 => hset H1 locs1 ?_ g2 g3 g4)
    rw [jE_byte (M := aI M a _) e1, e9]
    exact g1
/-- switches: one key after the other -/
def jkey (x : Int32) (ks : List (Int × Nat)) : Option Nat := match ks with
  | [] => none
  | (k, j) :: r => if x = Int32.ofInt k then some j else jkey x r
theorem x_tb {β : Type} {b : β} {x : Int32} {k : Int} {A B : Option β} (h : (if x = Int32.ofInt k then A else B) = some b) : (x = Int32.ofInt k ∧ A = some b) ∨ (¬ x = Int32.ofInt k ∧ B = some b) := x_br h
end JX2
section JMX
variable {G : jG} {mm : jMeth} {d pc : Nat} {ls : List (Nat × Value)} {st : List Value} {M : jM} {Q : Option Value → jM → Prop}
def jmx (x y : Int32) : Int32 := if x < y then y else x
def jmn (x y : Int32) : Int32 := if y < x then y else x
/-- a row that wants the room to be kept -/
theorem V.gob {pc2 : Nat} {st2 : List Value}
    (hW : ∀ (p : Program) (e : Env) (R : Room) (s : State) (m : MethodId) (args : Array Value) (below : List Frame) (meth : Method) (c : Code) (lsR : Array Slot) (H : Heap) (locs : List Loc) (cells slots : Nat) (Z : State → Prop), cells ≤ R.cells → slots ≤ R.slots → jCx G mm p R s m args meth c d → jH G M H → va_S (jA G) s.heap H locs → lv_has lsR mm.2.2.1 (ls.map (jrp G)) →
      W p (jl G) e R s m args below meth c H locs cells slots Z (F0 m pc2 lsR (st2.map (jre G))) → W p (jl G) e R s m args below meth c H locs cells slots Z (F0 m pc lsR (st.map (jre G))))
    (k : V G mm d pc2 ls st2 M Q) : V G mm d pc ls st M Q := by
  obtain ⟨r, M', hQ, hl, h⟩ := k
  exact ⟨r, M', hQ, hl, fun p e R s m args below meth c lsR H locs Me hc hb h1 h2 h3 h4 => hW p e R s m args below meth c lsR H locs _ _ _ (by have := hl.1; have := hb.1; omega) (by have := hl.2; have := hb.2; omega) hc h2 h3 h4 (h p e R s m args below meth c lsR H locs Me hc hb h1 h2 h3 h4)⟩
theorem v_mmax {idx : Nat} {x y : Int32} (h1d : 1 ≤ d) (hd : decode mm.2.1 pc = .ok (.invokestatic idx, 3)) (hw : Cond.methodLink mm.1.cls idx Lib.Math.max.name ∈ jtb ∧ Cond.static Lib.Math.max.name ∈ jtb ∧ Cond.initialized "java/lang/Math" ∈ jtb ∧ Cond.code Lib.Math.max.name Lib.Math.max.code 2 (some .int) ∈ jtb) (hrest : Nat.ble ((st.map fun v => v.category).sum) 8 = true) (k : V G mm d (pc + 3) ls (.int (jmx x y) :: st) M Q) : V G mm d pc ls (.int y :: .int x :: st) M Q := by
  refine V.gob (fun p e R s m args below meth c lsR H locs cells slots Z b1 b2 hc hH hS hl w => ?_) k
  have hts := hc.2.2.2.2.2.2.2.1
  have f1 := hc.2.2.2.2.2.2.2.2.2.2.2.1
  have f2 := hc.2.2.2.2.2.2.2.2.2.2.2.2
  have b3 : (((st.map (jre G)).map fun v => v.category).sum) ≤ 8 := by rw [jcat_sum]; exact Nat.le_of_ble_eq_true hrest
  exact va_mmax hc.1 hc.2.1 (hc.2.2.2.2.1.trans hl.1.symm) hc.2.2.2.2.2.1 (hts _ hw.1) (hts _ hw.2.1) (hts _ hw.2.2.1) (hts _ hw.2.2.2) (by omega) (by omega) b1 b2 hd w
theorem v_mmin {idx : Nat} {x y : Int32} (h1d : 1 ≤ d) (hd : decode mm.2.1 pc = .ok (.invokestatic idx, 3)) (hw : Cond.methodLink mm.1.cls idx Lib.Math.min.name ∈ jtb ∧ Cond.static Lib.Math.min.name ∈ jtb ∧ Cond.initialized "java/lang/Math" ∈ jtb ∧ Cond.code Lib.Math.min.name Lib.Math.min.code 2 (some .int) ∈ jtb) (hrest : Nat.ble ((st.map fun v => v.category).sum) 8 = true) (k : V G mm d (pc + 3) ls (.int (jmn x y) :: st) M Q) : V G mm d pc ls (.int y :: .int x :: st) M Q := by
  refine V.gob (fun p e R s m args below meth c lsR H locs cells slots Z b1 b2 hc hH hS hl w => ?_) k
  have hts := hc.2.2.2.2.2.2.2.1
  have f1 := hc.2.2.2.2.2.2.2.2.2.2.2.1
  have f2 := hc.2.2.2.2.2.2.2.2.2.2.2.2
  have b3 : (((st.map (jre G)).map fun v => v.category).sum) ≤ 8 := by rw [jcat_sum]; exact Nat.le_of_ble_eq_true hrest
  exact va_mmin hc.1 hc.2.1 (hc.2.2.2.2.1.trans hl.1.symm) hc.2.2.2.2.2.1 (hts _ hw.1) (hts _ hw.2.1) (hts _ hw.2.2.1) (hts _ hw.2.2.2) (by omega) (by omega) b1 b2 hd w
end JMX
