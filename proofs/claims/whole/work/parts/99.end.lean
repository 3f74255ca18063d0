/-! THE CLAIM OUT OF ONE WALK OF THE LAW'S BODY. Your part is whole_start (and what it stands on); all else here is the same for every law, but numbers. -/
def R_law : String := "TwoWorldsLaw"
def lw_P (b : Addr) (xs : List Int32) (args : Array Value) (s : State) : Prop := args = #[.ref b] ∧ s.IntsAt b xs ∧ xs.length ≤ 3072 ∧ (Jvm.Cond.and given_1 narrow_1).before args s = true
def lw_Q (_ : Array Value) (s : State) (o : Outcome) (t : State) : Prop := o = .returned (some (.int 1)) ∧ Framed s o t [] 600000 7302250
def lw_Z (below : List Frame) (a : Array Value) (s : State) : State → Prop := fun t => ∃ o, t.status = .running ∧ Ended t below o ∧ lw_Q a s o t
/-- the law's own end, with 1 on the stack, nothing written that was there before, its room as the claim has it -/
theorem lw_ret {p : Program} {l : Launch} {e : Env} {s : State} {m : MethodId} {below : List Frame} {meth : Method} {c : Code} {b : Nat} (hx : p.tables.exec = Jvm.exec) (hb : c.code = code) (hr : meth.sig.returnType = ret) (hlocks : meth.locks = false) {pc : Nat} {H : Heap} {ls : Array Slot} (hdg : decode code pc = .ok (.ireturn, 1)) : W p l e room_1 s m #[Value.ref b] below meth c H [] 600000 7302250 (lw_Z below #[Value.ref b] s) (F0 m pc ls [.int 1]) := by
  intro T hT X
  obtain ⟨fs, hret, hrun, hended, hW, hframe⟩ := X.leave (v := some (.int 1)) (hlocks := hlocks) (fun h => by rw [hr] at h; cases h)
  have hmeth' : T.vm.method? m = some meth := X.method'
  refine ⟨T.setFrames fs, ?_, .returned (some (.int 1)), hrun, hended, rfl, ⟨_, rfl⟩, hW, hframe⟩
  jvm_step X.here [X.here.top, hx, hb, hdg, hmeth', hr, ret, narrow_b1]
  (try refine ⟨rfl, ?_⟩); (try refine ⟨rfl, ?_⟩)
  first | (intro acts; rw [hret _ acts rfl rfl rfl]) | rw [hret _ _ rfl rfl rfl]
  exact Steps.refl _
/-- what holds at the law's entry: the machine, the code, the tables' words (any of lw_tbl by 'hts w (by decide +kernel)'), the script of L ints xs at the cell b, what the Statement gives of the start (any of its parts by flat_of_before) -/
def lw_At (p : Program) (s : State) (m : MethodId) (meth : Method) (c : Code) (b L : Nat) (xs : Nat → Int32) : Prop :=
  p.tables.exec = Jvm.exec ∧ c.code = code ∧ meth.sig.returnType = ret ∧ c.maxLocals = 4 ∧ s.vm.findClass R_law = some m.cls ∧ (∀ w ∈ lw_tbl, w.before #[Value.ref b] s = true) ∧ va_X b L xs s s.heap ∧ b < s.heap.size ∧ meth.locks = false ∧ (Jvm.Cond.and given_1 narrow_1).before #[Value.ref b] s = true ∧ meth.name = "law"
-- ===== YOUR PART BEGINS =====
set_option maxHeartbeats 4000000 in
set_option maxRecDepth 100000 in
theorem whole_start {p : Program} {e : Env} {s : State} {m : MethodId} {below : List Frame} {meth : Method} {c : Code} (l : Launch) {b L : Nat} {xs : Nat → Int32} (hL : L ≤ 3072) (C0 : lw_At p s m meth c b L xs) : W p l e room_1 s m #[Value.ref b] below meth c s.heap [] 0 0 (lw_Z below #[Value.ref b] s) (entryFrame m ([Value.ref b] : List Value).toArray 4) := by
  obtain ⟨hx, hb, hr, hml, hown, hts, hX, hbl, hlocks, hgv, hnm⟩ := C0
  obtain ⟨Mz, hf, hc1, hc2⟩ := law_true L xs hL
  obtain ⟨kc0, ki0, kk0⟩ := u_known (C := RX0) (T := TX0) (N := 3) (n := 3) hts inX0 (hts (.instantiable RX0 3) (List.mem_of_getElem? (i := 251) (by decide +kernel)))
  obtain ⟨kc1, ki1, kk1⟩ := u_known (C := RX1) (T := TX1) (N := 8) (n := 8) hts inX1 (hts (.instantiable RX1 8) (List.mem_of_getElem? (i := 285) (by decide +kernel)))
  obtain ⟨kc2, ki2, kk2⟩ := u_known (C := RX2) (T := TX2) (N := 3) (n := 3) hts inX2 (hts (.instantiable RX2 3) (List.mem_of_getElem? (i := 269) (by decide +kernel)))
  obtain ⟨kc3, ki3, kk3⟩ := u_known (C := RX3) (T := TX3) (N := 7) (n := 7) hts inX3 (hts (.instantiable RX3 7) (List.mem_of_getElem? (i := 148) (by decide +kernel)))
  obtain ⟨kc4, ki4, kk4⟩ := u_known (C := RX4) (T := TX4) (N := 2) (n := 2) hts inX4 (hts (.instantiable RX4 2) (List.mem_of_getElem? (i := 225) (by decide +kernel)))
  obtain ⟨kc5, ki5, kk5⟩ := u_known (C := RX6) (T := TX6) (N := 5) (n := 5) hts inX6 (hts (.instantiable RX6 5) (List.mem_of_getElem? (i := 178) (by decide +kernel)))
  obtain ⟨kc6, ki6, kk6⟩ := u_known (C := RX7) (T := TX7) (N := 3) (n := 3) hts inX7 (hts (.instantiable RX7 3) (List.mem_of_getElem? (i := 715) (by decide +kernel)))
  obtain ⟨kc7, ki7, kk7⟩ := u_known (C := RX8) (T := TX8) (N := 5) (n := 5) hts inX8 (hts (.instantiable RX8 5) (List.mem_of_getElem? (i := 202) (by decide +kernel)))
  obtain ⟨kc8, ki8, kk8⟩ := u_known (C := RX9) (T := TX9) (N := 3) (n := 3) hts inX9 (hts (.instantiable RX9 3) (List.mem_of_getElem? (i := 131) (by decide +kernel)))
  obtain ⟨kc9, ki9, kk9⟩ := u_known (C := RX10) (T := TX10) (N := 2) (n := 2) hts inX10 (hts (.instantiable RX10 2) (List.mem_of_getElem? (i := 238) (by decide +kernel)))
  obtain ⟨kc10, ki10, kk10⟩ := u_known (C := RX11) (T := TX11) (N := 12) (n := 12) hts inX11 (hts (.instantiable RX11 12) (List.mem_of_getElem? (i := 122) (by decide +kernel)))
  obtain ⟨kc11, ki11, kk11⟩ := u_known (C := RX12) (T := TX12) (N := 64) (n := 64) hts inX12 (hts (.instantiable RX12 64) (List.mem_of_getElem? (i := 1037) (by decide +kernel)))
  obtain ⟨dC, dI, hKc⟩ : ∃ (dC : Nat → ClassId) (dI : Nat → Nat → Nat), ∀ (k : Nat) (q : vw_C), vwCl[k]? = some q → u_Kn s q.1 q.2.1 q.2.2 (dC k) (dI k) := by
    refine ⟨fun k => match k with | 0 => kc0 | 1 => kc1 | 2 => kc2 | 3 => kc3 | 4 => kc4 | 5 => kc5 | 6 => kc6 | 7 => kc7 | 8 => kc8 | 9 => kc9 | 10 => kc10 | _ => kc11, fun k => match k with | 0 => ki0 | 1 => ki1 | 2 => ki2 | 3 => ki3 | 4 => ki4 | 5 => ki5 | 6 => ki6 | 7 => ki7 | 8 => ki8 | 9 => ki9 | 10 => ki10 | _ => ki11, ?_⟩
    intro k q hq
    match k, hq with
    | 0, hq => cases hq; exact kk0
    | 1, hq => cases hq; exact kk1
    | 2, hq => cases hq; exact kk2
    | 3, hq => cases hq; exact kk3
    | 4, hq => cases hq; exact kk4
    | 5, hq => cases hq; exact kk5
    | 6, hq => cases hq; exact kk6
    | 7, hq => cases hq; exact kk7
    | 8, hq => cases hq; exact kk8
    | 9, hq => cases hq; exact kk9
    | 10, hq => cases hq; exact kk10
    | 11, hq => cases hq; exact kk11
    | k + 12, hq => simp [vwCl] at hq
  obtain ⟨a0, q0, d0, e00, e01, e02⟩ := Cond.arrayClass_spec (hts (.arrayClass .int) (List.mem_of_getElem? (i := 146) (by decide +kernel)))
  obtain ⟨a1, q1, d1, e10, e11, e12⟩ := Cond.arrayClass_spec (hts (.arrayClass .byte) (List.mem_of_getElem? (i := 223) (by decide +kernel)))
  obtain ⟨a2, q2, d2, e20, e21, e22⟩ := Cond.arrayClass_spec (hts (.arrayClass .long) (List.mem_of_getElem? (i := 315) (by decide +kernel)))
  have hO3 := hts (.arrayOver (.object "TwoWorlds$World")) (List.mem_of_getElem? (i := 130) (by decide +kernel))
  have hO4 := hts (.arrayOver (.object "TwoWorlds$Sentence")) (List.mem_of_getElem? (i := 267) (by decide +kernel))
  obtain ⟨d3, a3, q3, e30, -, e31, e32, e33⟩ := Cond.arrayOver_spec hO3
  obtain ⟨d4, a4, q4, e40, -, e41, e42, e43⟩ := Cond.arrayOver_spec hO4
  obtain ⟨G, hG⟩ : ∃ G : jG, G = (l, dC, dI, (fun k => match k with | 100 => a0 | 101 => a1 | 102 => a2 | 103 => a3 | _ => a4), b, s.heap.size, L, xs) := ⟨_, rfl⟩
  have hV := s_L_law (G := G) (d := 300) (by decide) hf
  obtain ⟨rz, M1, ⟨hr1, hM1⟩, hle, hW⟩ := hV
  subst hr1; subst hM1
  have hK : jK G s := by
    refine ⟨⟨by subst hG; exact hKc, ?_⟩, fun a i x h hw => va_Nw.of rfl (hts _ hw), va_AO.of hO3, va_AO.of hO4⟩
    intro k q hq
    subst hG
    match k, hq with
    | 0, hq => cases hq; exact ⟨fun n z => ⟨fun k h => (by cases h), q0, e01, d0, e02⟩, e00⟩
    | 1, hq => cases hq; exact ⟨fun n z => ⟨fun k h => (by cases h), q1, e11, d1, e12⟩, e10⟩
    | 2, hq => cases hq; exact ⟨fun n z => ⟨fun k h => (by cases h), q2, e21, d2, e22⟩, e20⟩
    | 3, hq => cases hq; exact ⟨fun n z => ⟨fun k h => (by cases h), q3, e31, d3, e32⟩, q3, d3, e31, e32, e30, e33⟩
    | 4, hq => cases hq; exact ⟨fun n z => ⟨fun k h => (by cases h), q4, e41, d4, e42⟩, q4, d4, e41, e42, e40, e43⟩
    | k + 5, hq => simp [jtys] at hq
  have hCx : jCx G m_L_law p room_1 s m #[Value.ref b] meth c 300 := ⟨hx, hb, hr, hlocks, hml, hown, hnm, fun w hw => hts w (List.mem_filter.mp hw).1, hK, by subst hG; exact Nat.le_refl _, by subst hG; exact ⟨hbl, hX⟩, by decide, by decide⟩
  have hH : jH G (jM0 L xs) s.heap := by subst hG; exact ⟨Nat.le_refl _, rfl, fun k q h => by simp [jws, jM0] at h, rfl, fun j => rfl⟩
  have hl := lv_entry ([.ref b]) (n := 4) (Nat.le_of_ble_eq_true rfl)
  rw [lg_entry_eq]
  generalize (lg_sl ([.ref b]) ++ List.replicate (4 - (lg_sl ([.ref b])).length) Slot.unset).toArray = ls at hl ⊢
  have hl2 : lv_has ls m_L_law.2.2.1 (([(0, .ref 0)] : List (Nat × Value)).map (jrp G)) := by subst hG; exact hl
  have hw := hW p e room_1 s m #[Value.ref b] below meth c ls s.heap [] (jM0 L xs) hCx ⟨by show M1.1.length - 1 ≤ 600000; omega, by show jsl M1 - jsl (jM0 L xs) ≤ 7302250; omega⟩ jle_rf hH va_S.rf hl2
  have hjl : jl G = l := by subst hG; rfl
  rw [hjl] at hw
  intro T hT X
  obtain ⟨t, g1, o, g2, g3, g4, Lz, g5, g6⟩ := hw T hT (by rw [Nat.sub_self, Nat.sub_self]; exact X)
  have ho : o = .returned (some (.int 1)) := g4.1
  refine ⟨t, g1, o, g2, g3, ho, g5.1, g5.2.1, g5.2.2.weaken (fun y hy hlt => absurd hlt (Nat.not_lt.mpr (by have h9 := g6 y hy; subst hG; exact h9))) ?_ ?_⟩
  · show M1.1.length - 1 ≤ 600000; omega
  · show jsl M1 - jsl (jM0 L xs) ≤ 7302250; omega
-- ===== YOUR PART ENDS =====
set_option maxHeartbeats 4000000 in
theorem lw_walk (l : Launch) (b : Addr) (xs : List Int32) : MetFree l x (headSpec (Jvm.Cond.code x code maxLocals ret :: tables_1) room_1) (lw_P b xs) (fun _ _ _ _ _ => True) lw_Q := by
  refine MetFree.of_bodyS (code := code) (maxLocals := maxLocals) (ret := ret) (by decide) ?_ ?_
  · intro args s m h hn
    obtain ⟨meth, c, h1, h2, h3, h4, h5, h6, -, -⟩ := Cond.code_spec hn (atoms_spec (ws := Jvm.Cond.code x code maxLocals ret :: tables_1) h _ List.mem_cons_self)
    exact ⟨meth, c, h1, h2, h3, h4, h5, h6⟩
  · intro p e s m args below meth c s₁ B hml0 hP _
    obtain ⟨rfl, hx, hbd, hgv⟩ := hP
    obtain ⟨scr, harrAt, hlist, hof, hsmall⟩ := hx
    obtain ⟨hcb, hkn, -, -⟩ := State.arrayAt?_spec harrAt
    have hown : s.vm.findClass R_law = some m.cls := findClass_of_methodNamed B.named
    have hts0 : ∀ c ∈ (Jvm.Cond.code x code maxLocals ret :: tables_1), c.before #[Value.ref b] s = true := atoms_spec (ws := Jvm.Cond.code x code maxLocals ret :: tables_1) B.pre
    have hts : ∀ w ∈ lw_tbl, w.before #[Value.ref b] s = true := k2_hts_sels lw_privs (fun w hw => hts0 w (List.mem_cons_of_mem _ hw)) lw_privs_ok
    have hml : c.maxLocals = 4 := B.maxLocals_eq (hts0 _ List.mem_cons_self)
    have X₀ : Stand p l e room_1 s m #[Value.ref b] below meth c s₁ [] 0 0 := Stand.of_body B
    have hh0 : s₁.heap = s.heap := by rw [B.state]; rfl
    have hsz : scr.slots.size = xs.length := by rw [← Array.length_toList, hlist, List.length_map]
    have hval : ∀ j : Nat, j < xs.length → scr.slots[j]? = some (.int (xs.getD j 0)) := fun j hj => by
      rw [← Array.getElem?_toList, hlist]
      simp [hj]
    have hbl : b < s.heap.size := (Array.getElem?_eq_some_iff.mp hcb).1
    have hX : va_X b xs.length (fun j => xs.getD j 0) s s.heap := ⟨scr, hcb, hof, hkn, hsz, hval⟩
    have K : W p l e room_1 s m #[Value.ref b] below meth c s₁.heap [] 0 0 (lw_Z below #[Value.ref b] s) (entryFrame m ([Value.ref b] : List Value).toArray 4) := by
      rw [hh0]
      exact whole_start l hbd ⟨B.exec, B.bytes, B.returns, hml, hown, hts, hX, hbl, B.notSynchronized, hgv, (name_of_methodNamed B.named B.method).1⟩
    obtain ⟨t, a1, o, b1, b2, b3⟩ := K s₁ rfl X₀
    exact ⟨t, o, a1, b1, b2, b3⟩
theorem lw_pre_spec {args : Array Value} {s : State} (h : (Jvm.Cond.and given_1 narrow_1).before args s = true) (hr : rest_1_c.before args s = true) : ∃ (b : Addr) (xs : List Int32), lw_P b xs args s := by
  have hs := flat_of_before _ h
  have hq := flat_of_before _ hr
  have hc : (Cond.count 1).before args s = true := hs _ (by decide +kernel)
  have harr : (Cond.arrayOf (.arg 0) .int).before args s = true := hs _ (by decide +kernel)
  have hle : (Cond.le (.length (.arg 0)) (.int 3072)).before args s = true := hs _ (by decide +kernel)
  have hlen : (Cond.isInt (.length (.arg 0))).before args s = true := hq _ (by decide +kernel)
  have hall : (Cond.all (.arg 0) (.isInt (.elem (.arg 0) (.index 0)))).before args s = true := hq _ (by decide +kernel)
  obtain ⟨b, xs, hb, hx⟩ := State.ints_of_pre rfl harr hlen hall
  have hsm : xs.length < 2 ^ 31 := hx.choose_spec.2.2.2
  have hev : (Term.length (.arg 0)).eval args s none [] s = some (.int xs.length.toInt32) := hx.length_eval hb
  have hv := Cond.le_ints hev (show (Term.int 3072).eval args s none [] s = some (.int 3072) from rfl)
  have hd : xs.length.toInt32 ≤ 3072 := by
    simpa [Cond.before, Cond.holds, hv] using hle
  have hN : xs.length ≤ 3072 := (Int32.ofNat_le_ofNat hsm (by decide)).mp (show Int32.ofNat xs.length ≤ Int32.ofNat 3072 from hd)
  exact ⟨b, xs, Cond.one_arg hc (show args[0]? = some (.ref b) from hb), hx, hN, h⟩
theorem lw_comes (l : Launch) : Comes l x (Jvm.Cond.code x code maxLocals ret :: tables_1) room_1 (fun tb e args s => Calls_1 tb e args s ∧ rest_1 tb e args s ∧ Pre_1 tb e args s)
    (fun _ _ args s o t => lw_Q args s o t) := by
  intro p e ha hc hk s m args below hf hfit hheap happ hpre
  obtain ⟨b, xs, hP⟩ := lw_pre_spec hpre.2.2 hpre.2.1
  obtain ⟨k, o, h1, h2, h3, hQ⟩ := lw_walk l b xs p e ha hc hk s m args below hf ((Spec.applies_iff_loose hf).mp happ).1 hP trivial
  exact ⟨k, o, h1, h2, h3, hQ⟩
theorem lw_frame {s t : State} {o : Outcome} {args : Array Value} (h : Framed s o t [] 600000 7302250) :
    Framed s o t (fieldLocs frame_1_writes args s ++ arrayLocs frame_1_arrays args s ++ staticLocs frame_1_statics s) 600000 7302250 := h
theorem lw_limb (L : Cond) (hL : ∀ (args : Array Value) (s t : State), L.after args s (.returned (some (.int 1))) t = true) :
    ArmFor flags0 classFile x code maxLocals ret World_1 tables_1 room_1 Calls_1 rest_1 Pre_1
      (fun tb e a s o t => postC L tb e a s o t ∧ Framed s o t (fieldLocs frame_1_writes a s ++ arrayLocs frame_1_arrays a s ++ staticLocs frame_1_statics s) 600000 7302250) := by
  intro l _ _ _ p e ha hc hk s m args below hf hfit hheap happ hpre
  obtain ⟨k, o, h1, h2, h3, rfl, hF⟩ := lw_comes l p e ha hc hk s m args below hf hfit hheap happ hpre
  exact ⟨k, _, h1, h2, h3, hL args s _, lw_frame hF⟩
theorem i_vc : Claimed_1_1 ∧ Claimed_1_2 := ⟨lw_limb limb_1_1 (fun args s t => by simp [limb_1_1, Cond.after, Cond.holds, Cond.value]), lw_limb limb_1_2 (fun args s t => Cond.after_iff.mpr (by
  first | (rw [show limb_1_2 = Cond.eq .result (.int 1) from rfl, Cond.eq_ints (x := 1) (y := 1) rfl rfl]; simp; done) | (simp [limb_1_2, Cond.value, Term.eval]; done)))⟩
