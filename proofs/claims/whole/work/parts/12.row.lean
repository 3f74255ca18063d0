section JR
variable {G : jG} {mm : jMeth} {d pc : Nat} {ls : List (Nat × Value)} {st : List Value} {M : jM} {Q : Option Value → jM → Prop}
theorem jH_cell {H : Heap} (hH : jH G M H) {a : Nat} (ha : 0 < a) (hal : a < M.1.length) : va_at (jD G) vwCl (jad G a, jE G M a) H := hH.2.2.1 _ _ (jws_pl ha hal)
theorem jE_wI_ne {a k b : Nat} {v : Int32} (h : b ≠ a) : jE G (wI M a k v) b = jE G M b := jE_eq rfl (by funext j; rw [rI_wI, if_neg (fun q => h q.1)]) rfl rfl
theorem jE_wR_ne {a k b : Nat} {v : Option Nat} (h : b ≠ a) : jE G (wR M a k v) b = jE G M b := jE_eq rfl rfl rfl (by funext j; rw [rR_wR, if_neg (fun q => h q.1)])
theorem jE_wL_ne {a k b : Nat} {v : Int64} (h : b ≠ a) : jE G (wL M a k v) b = jE G M b := jE_eq rfl rfl (by funext j; rw [rL_wL, if_neg (fun q => h q.1)]) rfl
theorem v_putI {idx ci k a : Nat} {ty : FieldType} {fin : Bool} {x : Int32} (hd : decode mm.2.1 pc = .ok (.putfield idx, 3)) (fl : jFl mm.1.cls idx ci k ty fin) (hs : (jsig ci).getD k false = false) (hfi : fin = true → mm.1.name = "<init>" ∧ ∀ r, vwCl[ci]? = some r → r.1 = mm.1.cls) (hn : narrow ty (.int x) = .int x) (hf : fits ty (.int x) = true) (ht : tg M a = (ci, 0)) (kk : V G mm d (pc + 3) ls st (wI M a k x) Q) : V G mm d pc ls (.int x :: .ref a :: st) M Q := by
  obtain ⟨C, T, N, tyf, f1, f2, f3, f4, f5, f6, f7, f8, f9, f10, f11⟩ := fl
  subst f9
  refine V.gom (M2 := wI M a k x) rfl (fun p e R s m args below meth c lsR H locs cells slots Z hc hH hS hl w => ?_) kk
  have ha := jH_pos hH ht (by show ci ≠ 105; omega)
  have hal := tg_lt ht (by intro h; cases h; omega)
  have hat := jH_cell hH ha hal
  rw [jE_obj ht f3] at hat
  refine jw_put (own := mm.1.cls) (C := C) (T := T) (N := N) (ci := ci) (tyf := tyf) (fin := fin) (k := k) hc.1 hc.2.1 hc.2.2.2.2.2.2.2.1 f6 f7 f8 hc.2.2.2.2.2.1 hc.2.2.2.2.2.2.2.2.1.1 hat f1 f2 (hc.2.2.2.2.2.2.2.1 _ f5) f10 (fun h => ⟨by rw [hc.2.2.2.2.2.2.1]; exact (hfi h).1, by rw [f11]; exact (hfi h).2 _ f1⟩) hn hf (by rw [jF_len]; omega) hd (fun H1 i g1 g2 g3 => w H1 _ ?_ (jS_put hS g2 g3 ha))
  refine jH_set (M := M) rfl ha (fun b hb => jE_wI_ne hb) (fun j => by rw [rI_wI, if_neg (fun q => by omega)]) hH ?_ g2 g3
  rw [jE_obj (M := wI M a k x) ht f3, jF_wI hs]
  exact g1
theorem v_putR {idx ci k a b : Nat} {ty : FieldType} {fin : Bool} (hd : decode mm.2.1 pc = .ok (.putfield idx, 3)) (fl : jFl mm.1.cls idx ci k ty fin) (hs : (jsig ci).getD k false = true) (hfi : fin = true → mm.1.name = "<init>" ∧ ∀ r, vwCl[ci]? = some r → r.1 = mm.1.cls) (hn : ∀ q, narrow ty (.ref q) = .ref q) (hf : ∀ q, fits ty (.ref q) = true) (ht : tg M a = (ci, 0)) (kk : V G mm d (pc + 3) ls st (wR M a k (some b)) Q) : V G mm d pc ls (.ref b :: .ref a :: st) M Q := by
  obtain ⟨C, T, N, tyf, f1, f2, f3, f4, f5, f6, f7, f8, f9, f10, f11⟩ := fl
  subst f9
  refine V.gom (M2 := wR M a k (some b)) rfl (fun p e R s m args below meth c lsR H locs cells slots Z hc hH hS hl w => ?_) kk
  have ha := jH_pos hH ht (by show ci ≠ 105; omega)
  have hal := tg_lt ht (by intro h; cases h; omega)
  have hat := jH_cell hH ha hal
  rw [jE_obj ht f3] at hat
  refine jw_put (own := mm.1.cls) (C := C) (T := T) (N := N) (ci := ci) (tyf := tyf) (fin := fin) (k := k) hc.1 hc.2.1 hc.2.2.2.2.2.2.2.1 f6 f7 f8 hc.2.2.2.2.2.1 hc.2.2.2.2.2.2.2.2.1.1 hat f1 f2 (hc.2.2.2.2.2.2.2.1 _ f5) f10 (fun h => ⟨by rw [hc.2.2.2.2.2.2.1]; exact (hfi h).1, by rw [f11]; exact (hfi h).2 _ f1⟩) (hn _) (hf _) (by rw [jF_len]; omega) hd (fun H1 i g1 g2 g3 => w H1 _ ?_ (jS_put hS g2 g3 ha))
  refine jH_set (M := M) rfl ha (fun b hb => jE_wR_ne hb) (fun j => rfl) hH ?_ g2 g3
  rw [jE_obj (M := wR M a k (some b)) ht f3, jF_wR hs]
  exact g1
theorem v_iald {a n : Nat} {i : Int32} (hd : decode mm.2.1 pc = .ok (.iaload, 1)) (ht : tg M a = (100, n)) (hi : vp_in i n) (kk : V G mm d (pc + 1) ls (.int (rI M a i.toNatClampNeg) :: st) M Q) : V G mm d pc ls (.int i :: .ref a :: st) M Q := by
  refine V.go (fun p e R s m args below meth c lsR H locs cells slots Z hc hH hS hl w => ?_) kk
  have ha := jH_pos hH ht (by show (100 : Nat) ≠ 105; decide)
  have hal := tg_lt ht (by intro h; cases h)
  exact va_iald hc.1 hc.2.1 hc.2.2.2.2.2.2.2.2.1.1 hH.2.2.1 (a - 1) 0 (by rw [jws_pl ha hal, jE_int ht]) rfl hi hd w
theorem v_bald {a n : Nat} {i : Int32} (hd : decode mm.2.1 pc = .ok (.baload, 1)) (ht : tg M a = (101, n)) (hi : vp_in i n) (kk : V G mm d (pc + 1) ls (.int (rI M a i.toNatClampNeg) :: st) M Q) : V G mm d pc ls (.int i :: .ref a :: st) M Q := by
  refine V.go (fun p e R s m args below meth c lsR H locs cells slots Z hc hH hS hl w => ?_) kk
  have ha := jH_pos hH ht (by show (101 : Nat) ≠ 105; decide)
  have hal := tg_lt ht (by intro h; cases h)
  exact va_bald hc.1 hc.2.1 hc.2.2.2.2.2.2.2.2.1.1 hH.2.2.1 (a - 1) 1 (by rw [jws_pl ha hal, jE_byte ht]) rfl hi hd w
theorem v_lald {a n : Nat} {i : Int32} (hd : decode mm.2.1 pc = .ok (.laload, 1)) (ht : tg M a = (102, n)) (hi : vp_in i n) (kk : V G mm d (pc + 1) ls (.long (rL M a i.toNatClampNeg) :: st) M Q) : V G mm d pc ls (.int i :: .ref a :: st) M Q := by
  refine V.go (fun p e R s m args below meth c lsR H locs cells slots Z hc hH hS hl w => ?_) kk
  have ha := jH_pos hH ht (by show (102 : Nat) ≠ 105; decide)
  have hal := tg_lt ht (by intro h; cases h)
  exact va_lald hc.1 hc.2.1 hc.2.2.2.2.2.2.2.2.1.1 hH.2.2.1 (a - 1) 2 (by rw [jws_pl ha hal, jE_long ht]) rfl hi hd w
theorem v_sald {n : Nat} {i : Int32} (hd : decode mm.2.1 pc = .ok (.iaload, 1)) (ht : tg M 0 = (105, n)) (hi : vp_in i n) (kk : V G mm d (pc + 1) ls (.int (rI M 0 i.toNatClampNeg) :: st) M Q) : V G mm d pc ls (.int i :: .ref 0 :: st) M Q := by
  refine V.go (fun p e R s m args below meth c lsR H locs cells slots Z hc hH hS hl w => ?_) kk
  obtain ⟨hb, hX⟩ := hc.2.2.2.2.2.2.2.2.2.2.1
  have e1 : n = jL G := by have := ht.symm.trans hH.2.2.2.1; cases this; rfl
  subst e1
  refine va_sld (A := jA G) hc.1 hc.2.1 hX (Nat.lt_of_lt_of_le hb hc.2.2.2.2.2.2.2.2.2.1) (Nat.not_le.mpr hb) hS hi hd ?_
  rw [← hH.2.2.2.2]
  exact w
theorem v_alen {a n t : Nat} (hd : decode mm.2.1 pc = .ok (.arraylength, 1)) (ht : tg M a = (t, n)) (h1 : 100 ≤ t) (h2 : t ≤ 104) (kk : V G mm d (pc + 1) ls (.int (nI n) :: st) M Q) : V G mm d pc ls (.ref a :: st) M Q := by
  refine V.go (fun p e R s m args below meth c lsR H locs cells slots Z hc hH hS hl w => ?_) kk
  have ha := jH_pos hH ht (by show t ≠ 105; omega)
  have hal := tg_lt ht (by intro h; cases h; omega)
  have hp := jws_pl (G := G) ha hal
  rcases (show t = 100 ∨ t = 101 ∨ t = 102 ∨ t = 103 ∨ t = 104 by omega) with rfl | rfl | rfl | rfl | rfl
  · rw [jE_int ht] at hp
    exact va_alen hc.1 hc.2.1 hc.2.2.2.2.2.2.2.2.1.1 hH.2.2.1 (a - 1) 0 hp rfl rfl hd w
  · rw [jE_byte ht] at hp
    exact va_alen hc.1 hc.2.1 hc.2.2.2.2.2.2.2.2.1.1 hH.2.2.1 (a - 1) 1 hp rfl rfl hd w
  · rw [jE_long ht] at hp
    exact va_alen hc.1 hc.2.1 hc.2.2.2.2.2.2.2.2.1.1 hH.2.2.1 (a - 1) 2 hp rfl rfl hd w
  · rw [jE_ref ht (by decide)] at hp
    exact va_alen hc.1 hc.2.1 hc.2.2.2.2.2.2.2.2.1.1 hH.2.2.1 (a - 1) 3 hp rfl rfl hd w
  · rw [jE_ref ht (by decide)] at hp
    exact va_alen hc.1 hc.2.1 hc.2.2.2.2.2.2.2.2.1.1 hH.2.2.1 (a - 1) 4 hp rfl rfl hd w
theorem v_slen {n : Nat} (hd : decode mm.2.1 pc = .ok (.arraylength, 1)) (ht : tg M 0 = (105, n)) (kk : V G mm d (pc + 1) ls (.int (nI n) :: st) M Q) : V G mm d pc ls (.ref 0 :: st) M Q := by
  refine V.go (fun p e R s m args below meth c lsR H locs cells slots Z hc hH hS hl w => ?_) kk
  obtain ⟨hb, hX⟩ := hc.2.2.2.2.2.2.2.2.2.2.1
  have e1 : n = jL G := by have := ht.symm.trans hH.2.2.2.1; cases this; rfl
  subst e1
  exact va_slen (A := jA G) hc.1 hc.2.1 hX (Nat.lt_of_lt_of_le hb hc.2.2.2.2.2.2.2.2.2.1) (Nat.not_le.mpr hb) hS hd w
theorem v_aald {a n t b : Nat} {i : Int32} (hd : decode mm.2.1 pc = .ok (.aaload, 1)) (ht : tg M a = (t, n)) (h1 : t = 103 ∨ t = 104) (hi : vp_in i n) (hr : rR M a i.toNatClampNeg = some b) (kk : V G mm d (pc + 1) ls (.ref b :: st) M Q) : V G mm d pc ls (.int i :: .ref a :: st) M Q := by
  refine V.go (fun p e R s m args below meth c lsR H locs cells slots Z hc hH hS hl w => ?_) kk
  have ha := jH_pos hH ht (by show t ≠ 105; omega)
  have hal := tg_lt ht (by intro h; cases h; omega)
  have hp := jws_pl (G := G) ha hal
  rw [jE_ref ht (by omega)] at hp
  have w' : W p (jl G) e R s m args below meth c H locs cells slots Z (F0 m (pc + 1) lsR (va_rf ((rR M a i.toNatClampNeg).map (jad G)) :: st.map (jre G))) := by rw [hr]; exact w
  rcases h1 with rfl | rfl
  · exact va_aldq hc.1 hc.2.1 hc.2.2.2.2.2.2.2.2.1.1 hH.2.2.1 (a - 1) 3 hp rfl hi hd w'
  · exact va_aldq hc.1 hc.2.1 hc.2.2.2.2.2.2.2.2.1.1 hH.2.2.1 (a - 1) 4 hp rfl hi hd w'
theorem v_iast {a n : Nat} {i x : Int32} (hd : decode mm.2.1 pc = .ok (.iastore, 1)) (ht : tg M a = (100, n)) (hi : vp_in i n) (kk : V G mm d (pc + 1) ls st (wI M a i.toNatClampNeg x) Q) : V G mm d pc ls (.int x :: .int i :: .ref a :: st) M Q := by
  refine V.gom (M2 := wI M a i.toNatClampNeg x) rfl (fun p e R s m args below meth c lsR H locs cells slots Z hc hH hS hl w => ?_) kk
  have ha := jH_pos hH ht (by show (100 : Nat) ≠ 105; decide)
  have hal := tg_lt ht (by intro h; cases h)
  have hat := jH_cell hH ha hal
  rw [jE_int ht] at hat
  refine jw_iast hc.1 hc.2.1 (hc.2.2.2.2.2.2.2.2.1.1.2 0 _ rfl).1 hat hi hd (fun H1 i' g1 g2 g3 => w H1 _ ?_ (jS_put hS g2 g3 ha))
  refine jH_set (M := M) rfl ha (fun b hb => jE_wI_ne hb) (fun j => by rw [rI_wI, if_neg (fun q => by omega)]) hH ?_ g2 g3
  rw [jE_int (M := wI M a i.toNatClampNeg x) ht]
  have e2 : rI (wI M a i.toNatClampNeg x) a = upd (rI M a) i.toNatClampNeg x := by funext j; rw [rI_wI]; simp [upd]
  rw [e2]
  exact g1
theorem v_bast {a n : Nat} {i x : Int32} (hd : decode mm.2.1 pc = .ok (.bastore, 1)) (ht : tg M a = (101, n)) (hi : vp_in i n) (kk : V G mm d (pc + 1) ls st (wI M a i.toNatClampNeg x.toInt8.toInt32) Q) : V G mm d pc ls (.int x :: .int i :: .ref a :: st) M Q := by
  refine V.gom (M2 := wI M a i.toNatClampNeg x.toInt8.toInt32) rfl (fun p e R s m args below meth c lsR H locs cells slots Z hc hH hS hl w => ?_) kk
  have ha := jH_pos hH ht (by show (101 : Nat) ≠ 105; decide)
  have hal := tg_lt ht (by intro h; cases h)
  have hat := jH_cell hH ha hal
  rw [jE_byte ht] at hat
  refine jw_bast hc.1 hc.2.1 (hc.2.2.2.2.2.2.2.2.1.1.2 1 _ rfl).1 hat hi hd (fun H1 i' g1 g2 g3 => w H1 _ ?_ (jS_put hS g2 g3 ha))
  refine jH_set (M := M) rfl ha (fun b hb => jE_wI_ne hb) (fun j => by rw [rI_wI, if_neg (fun q => by omega)]) hH ?_ g2 g3
  rw [jE_byte (M := wI M a i.toNatClampNeg x.toInt8.toInt32) ht]
  have e2 : rI (wI M a i.toNatClampNeg x.toInt8.toInt32) a = upd (rI M a) i.toNatClampNeg x.toInt8.toInt32 := by funext j; rw [rI_wI]; simp [upd]
  rw [e2]
  exact g1
theorem v_last {a n : Nat} {i : Int32} {x : Int64} (hd : decode mm.2.1 pc = .ok (.lastore, 1)) (ht : tg M a = (102, n)) (hi : vp_in i n) (kk : V G mm d (pc + 1) ls st (wL M a i.toNatClampNeg x) Q) : V G mm d pc ls (.long x :: .int i :: .ref a :: st) M Q := by
  refine V.gom (M2 := wL M a i.toNatClampNeg x) rfl (fun p e R s m args below meth c lsR H locs cells slots Z hc hH hS hl w => ?_) kk
  have ha := jH_pos hH ht (by show (102 : Nat) ≠ 105; decide)
  have hal := tg_lt ht (by intro h; cases h)
  have hat := jH_cell hH ha hal
  rw [jE_long ht] at hat
  refine jw_last hc.1 hc.2.1 (hc.2.2.2.2.2.2.2.2.1.1.2 2 _ rfl).1 hat hi hd (fun H1 i' g1 g2 g3 => w H1 _ ?_ (jS_put hS g2 g3 ha))
  refine jH_set (M := M) rfl ha (fun b hb => jE_wL_ne hb) (fun j => rfl) hH ?_ g2 g3
  rw [jE_long (M := wL M a i.toNatClampNeg x) ht]
  have e2 : rL (wL M a i.toNatClampNeg x) a = vp_updL (rL M a) i.toNatClampNeg x := by funext j; rw [rL_wL]; simp [vp_updL]
  rw [e2]
  exact g1
theorem v_aast {a n t b ci : Nat} {i : Int32} (hd : decode mm.2.1 pc = .ok (.aastore, 1)) (ht : tg M a = (t, n)) (h1 : t = 103 ∧ ci = 8 ∨ t = 104 ∧ ci = 6) (hb : tg M b = (ci, 0)) (hi : vp_in i n) (kk : V G mm d (pc + 1) ls st (wR M a i.toNatClampNeg (some b)) Q) : V G mm d pc ls (.ref b :: .int i :: .ref a :: st) M Q := by
  refine V.gom (M2 := wR M a i.toNatClampNeg (some b)) rfl (fun p e R s m args below meth c lsR H locs cells slots Z hc hH hS hl w => ?_) kk
  have ha := jH_pos hH ht (by show t ≠ 105; omega)
  have hal := tg_lt ht (by intro h; cases h; omega)
  have hat := jH_cell hH ha hal
  rw [jE_ref ht (by omega)] at hat
  have hb0 := jH_pos hH hb (by show ci ≠ 105; omega)
  have hbl := tg_lt hb (by intro h; cases h; omega)
  have hbt := jH_cell hH hb0 hbl
  rw [jE_obj hb (by omega)] at hbt
  have fin : ∀ (H1 : Heap) (i' : Nat), H1[jad G a]? = some (vp_cell (jc G t) (n, .inr (.inr (.inr (.inr (va_up (fun j => (rR M a j).map (jad G)) i.toNatClampNeg (some (jad G b)))))))) → H1.size = H.size → (∀ q : Nat, q ≠ jad G a → H1[q]? = H[q]?) → W p (jl G) e R s m args below meth c H1 (locs ++ [⟨jad G a, i'⟩]) cells slots Z (F0 m (pc + 1) lsR (st.map (jre G))) := by
    intro H1 i' g1 g2 g3
    refine w H1 _ (jH_set (M := M) rfl ha (fun b hb => jE_wR_ne hb) (fun j => rfl) hH ?_ g2 g3) (jS_put hS g2 g3 ha)
    rw [jE_ref (M := wR M a i.toNatClampNeg (some b)) ht (by omega)]
    have e2 : (fun j => (rR (wR M a i.toNatClampNeg (some b)) a j).map (jad G)) = va_up (fun j => (rR M a j).map (jad G)) i.toNatClampNeg (some (jad G b)) := by
      funext j
      rw [rR_wR]
      by_cases hj : j = i.toNatClampNeg
      · simp [va_up, hj]
      · simp [va_up, hj]
    rw [e2]
    exact g1
  rcases h1 with ⟨rfl, rfl⟩ | ⟨rfl, rfl⟩
  · exact jw_aast (r := (RX9, TX9, 3)) hc.1 hc.2.1 hc.2.2.2.2.2.2.2.2.1.1 3 rfl hat hbt rfl hi hd fin
  · exact jw_aast (r := (RX7, TX7, 3)) hc.1 hc.2.1 hc.2.2.2.2.2.2.2.2.1.1 4 rfl hat hbt rfl hi hd fin
/-- the method's end -/
theorem jK_warm {s t : State} (hW : s.WarmedH t.vm) (h : jK G s) : jK G t := ⟨va_K.moved hW.alike h.1, fun a i x y hw => va_Nw.warmM hW (h.2.1 a i x y hw), va_AO.moved hW.alike h.2.2.1, va_AO.moved hW.alike h.2.2.2⟩
theorem v_iret {ty : FieldType} {x : Int32} (hd : decode mm.2.1 pc = .ok (.ireturn, 1)) (hr : mm.2.2.2 = some ty) (hn : narrow ty (.int x) = .int x) (hq : Q (some (.int x)) M) : V G mm d pc ls [.int x] M Q :=
  ⟨_, _, hq, jle_rf, fun p e R s m args below meth c lsR H locs Me hc hb h1 h2 h3 h4 => W.zret (ty := ty) hc.1 hc.2.1 (hc.2.2.1.trans hr) hn (fun t ht hW => ⟨rfl, by rw [ht]; exact h2, jK_warm hW hc.2.2.2.2.2.2.2.2.1, h3.F ht⟩) h3.2.2 hd (hc.2.2.2.1)⟩
theorem v_vret (hd : decode mm.2.1 pc = .ok (.return_, 1)) (hr : mm.2.2.2 = none) (hq : Q none M) : V G mm d pc ls [] M Q :=
  ⟨_, _, hq, jle_rf, fun p e R s m args below meth c lsR H locs Me hc hb h1 h2 h3 h4 => W.vret hc.1 hc.2.1 (hc.2.2.1.trans hr) (fun t ht hW => ⟨rfl, by rw [ht]; exact h2, jK_warm hW hc.2.2.2.2.2.2.2.2.1, h3.F ht⟩) h3.2.2 hd (hc.2.2.2.1)⟩
theorem v_aret {rt : FieldType} {a : Nat} (hd : decode mm.2.1 pc = .ok (.areturn, 1)) (hr : mm.2.2.2 = some rt) (hrt : (∃ n, rt = .object n) ∨ ∃ t, rt = .array t) (hq : Q (some (.ref a)) M) : V G mm d pc ls [.ref a] M Q :=
  ⟨_, _, hq, jle_rf, fun p e R s m args below meth c lsR H locs Me hc hb h1 h2 h3 h4 => W.aret (rt := rt) hc.1 hc.2.1 (hc.2.2.1.trans hr) hrt (Or.inr ⟨_, rfl⟩) (fun t ht hW => ⟨rfl, by rw [ht]; exact h2, jK_warm hW hc.2.2.2.2.2.2.2.2.1, h3.F ht⟩) h3.2.2 hd (hc.2.2.2.1)⟩
theorem v_aretN {rt : FieldType} (hd : decode mm.2.1 pc = .ok (.areturn, 1)) (hr : mm.2.2.2 = some rt) (hrt : (∃ n, rt = .object n) ∨ ∃ t, rt = .array t) (hq : Q (some .null) M) : V G mm d pc ls [.null] M Q :=
  ⟨_, _, hq, jle_rf, fun p e R s m args below meth c lsR H locs Me hc hb h1 h2 h3 h4 => W.aret (rt := rt) hc.1 hc.2.1 (hc.2.2.1.trans hr) hrt (Or.inl rfl) (fun t ht hW => ⟨rfl, by rw [ht]; exact h2, jK_warm hW hc.2.2.2.2.2.2.2.2.1, h3.F ht⟩) h3.2.2 hd (hc.2.2.2.1)⟩
end JR
