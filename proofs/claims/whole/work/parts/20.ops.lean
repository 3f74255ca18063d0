/-! The memory's operations as partial functions, and a row for each that takes the equation "this text ends in b" along. -/
abbrev jO (τ : Type) : Type := Option (τ × jM)
def cI (r : Int32) : Option Value := some (.int r)
def cU (_ : Unit) : Option Value := none
def cR (r : Nat) : Option Value := some (.ref r)
def cN (r : Option Nat) : Option Value := some (va_rf r)
def jQb {τ : Type} (cv : τ → Option Value) (b : τ × jM) : Option Value → jM → Prop := fun r M' => r = cv b.1 ∧ M' = b.2
/-- loops' fuel; kept folded -/
def jF0 : Nat := 1000000
/-- recursions' fuel -/
def jR0 : Nat := 40
def jv {α : Type} (x : α) : Option α := some x
def gI (ci : Nat) (M : jM) (a k : Nat) : Option Int32 := if tg M a = (ci, 0) then some (rI M a k) else none
def gR (ci : Nat) (M : jM) (a k : Nat) : Option Nat := if tg M a = (ci, 0) then rR M a k else none
def pI (ci : Nat) (M : jM) (a k : Nat) (x : Int32) : Option jM := if tg M a = (ci, 0) then some (wI M a k x) else none
def pZ (ci : Nat) (M : jM) (a k : Nat) (x : Int32) : Option jM := if tg M a = (ci, 0) ∧ (x = 0 ∨ x = 1) then some (wI M a k x) else none
def pR (ci : Nat) (M : jM) (a k b : Nat) : Option jM := if tg M a = (ci, 0) then some (wR M a k (some b)) else none
def jok (i : Int32) (n : Nat) : Bool := !(decide (i < 0)) && decide (i.toNatClampNeg < n)
def ldI (M : jM) (a : Nat) (i : Int32) : Option Int32 := if (tg M a).1 = 100 ∧ jok i (tg M a).2 = true then some (rI M a i.toNatClampNeg) else none
def ldB (M : jM) (a : Nat) (i : Int32) : Option Int32 := if (tg M a).1 = 101 ∧ jok i (tg M a).2 = true then some (rI M a i.toNatClampNeg) else none
def ldJ (M : jM) (a : Nat) (i : Int32) : Option Int64 := if (tg M a).1 = 102 ∧ jok i (tg M a).2 = true then some (rL M a i.toNatClampNeg) else none
def ldA (t : Nat) (M : jM) (a : Nat) (i : Int32) : Option Nat := if (tg M a).1 = t ∧ jok i (tg M a).2 = true then rR M a i.toNatClampNeg else none
def ldS (M : jM) (a : Nat) (i : Int32) : Option Int32 := if a = 0 ∧ (tg M 0).1 = 105 ∧ jok i (tg M 0).2 = true then some (rI M 0 i.toNatClampNeg) else none
def stI (M : jM) (a : Nat) (i x : Int32) : Option jM := if (tg M a).1 = 100 ∧ jok i (tg M a).2 = true then some (wI M a i.toNatClampNeg x) else none
def stB (M : jM) (a : Nat) (i x : Int32) : Option jM := if (tg M a).1 = 101 ∧ jok i (tg M a).2 = true then some (wI M a i.toNatClampNeg x.toInt8.toInt32) else none
def stJ (M : jM) (a : Nat) (i : Int32) (x : Int64) : Option jM := if (tg M a).1 = 102 ∧ jok i (tg M a).2 = true then some (wL M a i.toNatClampNeg x) else none
def stA (t ci : Nat) (M : jM) (a : Nat) (i : Int32) (b : Nat) : Option jM := if (tg M a).1 = t ∧ tg M b = (ci, 0) ∧ jok i (tg M a).2 = true then some (wR M a i.toNatClampNeg (some b)) else none
def ln (M : jM) (a : Nat) : Option Int32 := if 100 ≤ (tg M a).1 ∧ (tg M a).1 ≤ 104 then some (nI (tg M a).2) else none
def lnS (M : jM) (a : Nat) : Option Int32 := if a = 0 ∧ (tg M 0).1 = 105 then some (nI (tg M 0).2) else none
def nO (ci : Nat) (M : jM) : jO Nat := some (M.1.length, nw M (ci, 0))
def nA (t : Nat) (M : jM) (n : Int32) : jO Nat := if ¬ n < 0 ∧ n.toNatClampNeg ≤ 100000 then some (M.1.length, nw M (t, n.toNatClampNeg)) else none
def dv (x y : Int32) : Option Int32 := if y = 0 then none else some (x / y)
def rm (x y : Int32) : Option Int32 := if y = 0 then none else some (x - x / y * y)
def jiv {τ : Type} (ci : Nat) (M : jM) (a : Nat) (o : jO τ) : jO τ := if tg M a = (ci, 0) then o else none
def rZ (x : Int32) (M : jM) : jO Int32 := if x = 0 ∨ x = 1 then some (x, M) else none
def rt {τ : Type} (x : τ) (M : jM) : jO τ := some (x, M)
def jfit (t : Nat) (x : Int32) : Bool := if t = 101 then decide (x.toInt8.toInt32 = x) else true
def cpI (t : Nat) (M : jM) (a0 : Nat) (sp : Int32) (a : Nat) (dp n : Int32) : Option jM :=
  if (tg M a0).1 = t ∧ (tg M a).1 = t ∧ ¬ sp < 0 ∧ ¬ dp < 0 ∧ ¬ n < 0 ∧ sp.toNatClampNeg + n.toNatClampNeg ≤ (tg M a0).2 ∧ dp.toNatClampNeg + n.toNatClampNeg ≤ (tg M a).2 ∧ (∀ i, i < n.toNatClampNeg → jfit t (rI M a0 (sp.toNatClampNeg + i)) = true) then some (aI M a (va_cpy (rI M a0) (rI M a) sp.toNatClampNeg dp.toNatClampNeg n.toNatClampNeg)) else none
/-- a run's end goes on -/
def jb2 {τ β : Type} (o : jO τ) (f : τ → jM → Option β) : Option β := match o with
  | none => none
  | some (a, M) => f a M
theorem jb2_some {τ β : Type} {a : τ} {M : jM} {f : τ → jM → Option β} : jb2 (some (a, M)) f = f a M := rfl
theorem jb2_iff {τ β : Type} {o : jO τ} {f : τ → jM → Option β} {b : β} (h : jb2 o f = some b) : ∃ a M, o = some (a, M) ∧ f a M = some b := by
  cases o with
  | none => cases h
  | some q => exact ⟨q.1, q.2, rfl, h⟩
def jnl {β : Type} (x : Option Nat) (A : Option β) (B : Nat → Option β) : Option β := match x with
  | none => A
  | some a => B a
theorem jok_in {i : Int32} {n : Nat} (h : jok i n = true) : vp_in i n := by
  simp [jok] at h
  unfold vp_in
  rintro (q | q)
  · exact absurd q (by simpa using h.1)
  · omega
section JX
variable {G : jG} {mm mm2 : jMeth} {d pc : Nat} {ls ls2 : List (Nat × Value)} {st : List Value} {M : jM} {Q : Option Value → jM → Prop} {β : Type} {b : β}
theorem x_gI {idx ci k a : Nat} {ty : FieldType} {fin : Bool} {f : Int32 → Option β} (hd : decode mm.2.1 pc = .ok (.getfield idx, 3)) (fl : jFl mm.1.cls idx ci k ty fin) (hs : (jsig ci).getD k false = false) (h : (gI ci M a k).bind f = some b) (kk : ∀ x, f x = some b → V G mm d (pc + 3) ls (.int x :: st) M Q) : V G mm d pc ls (.ref a :: st) M Q := by
  obtain ⟨x, h1, h2⟩ := Option.bind_eq_some_iff.mp h
  unfold gI at h1
  split at h1
  · rename_i ht; cases h1; exact v_getI hd fl hs ht (kk _ h2)
  · cases h1
theorem x_gR {idx ci k a : Nat} {ty : FieldType} {fin : Bool} {f : Nat → Option β} (hd : decode mm.2.1 pc = .ok (.getfield idx, 3)) (fl : jFl mm.1.cls idx ci k ty fin) (hs : (jsig ci).getD k false = true) (h : (gR ci M a k).bind f = some b) (kk : ∀ x, f x = some b → V G mm d (pc + 3) ls (.ref x :: st) M Q) : V G mm d pc ls (.ref a :: st) M Q := by
  obtain ⟨x, h1, h2⟩ := Option.bind_eq_some_iff.mp h
  unfold gR at h1
  split at h1
  · rename_i ht; exact v_getR hd fl hs ht h1 (kk _ h2)
  · cases h1
theorem x_pI {idx ci k a : Nat} {fin : Bool} {x : Int32} {f : jM → Option β} (hd : decode mm.2.1 pc = .ok (.putfield idx, 3)) (fl : jFl mm.1.cls idx ci k .int fin) (hs : (jsig ci).getD k false = false) (hfi : fin = true → mm.1.name = "<init>" ∧ ∀ r, vwCl[ci]? = some r → r.1 = mm.1.cls) (h : (pI ci M a k x).bind f = some b) (kk : ∀ M1, f M1 = some b → V G mm d (pc + 3) ls st M1 Q) : V G mm d pc ls (.int x :: .ref a :: st) M Q := by
  obtain ⟨M1, h1, h2⟩ := Option.bind_eq_some_iff.mp h
  unfold pI at h1
  split at h1
  · rename_i ht; cases h1; exact v_putI hd fl hs hfi rfl rfl ht (kk _ h2)
  · cases h1
theorem x_pZ {idx ci k a : Nat} {fin : Bool} {x : Int32} {f : jM → Option β} (hd : decode mm.2.1 pc = .ok (.putfield idx, 3)) (fl : jFl mm.1.cls idx ci k .boolean fin) (hs : (jsig ci).getD k false = false) (hfi : fin = true → mm.1.name = "<init>" ∧ ∀ r, vwCl[ci]? = some r → r.1 = mm.1.cls) (h : (pZ ci M a k x).bind f = some b) (kk : ∀ M1, f M1 = some b → V G mm d (pc + 3) ls st M1 Q) : V G mm d pc ls (.int x :: .ref a :: st) M Q := by
  obtain ⟨M1, h1, h2⟩ := Option.bind_eq_some_iff.mp h
  unfold pZ at h1
  split at h1
  · rename_i ht; cases h1
    refine v_putI hd fl hs hfi ?_ ?_ ht.1 (kk _ h2)
    · rcases ht.2 with rfl | rfl <;> rfl
    · rcases ht.2 with rfl | rfl <;> rfl
  · cases h1
theorem x_pR {idx ci k a b' : Nat} {ty : FieldType} {fin : Bool} {f : jM → Option β} (hd : decode mm.2.1 pc = .ok (.putfield idx, 3)) (fl : jFl mm.1.cls idx ci k ty fin) (hs : (jsig ci).getD k false = true) (hfi : fin = true → mm.1.name = "<init>" ∧ ∀ r, vwCl[ci]? = some r → r.1 = mm.1.cls) (hn : ∀ q, narrow ty (.ref q) = .ref q) (hf : ∀ q, fits ty (.ref q) = true) (h : (pR ci M a k b').bind f = some b) (kk : ∀ M1, f M1 = some b → V G mm d (pc + 3) ls st M1 Q) : V G mm d pc ls (.ref b' :: .ref a :: st) M Q := by
  obtain ⟨M1, h1, h2⟩ := Option.bind_eq_some_iff.mp h
  unfold pR at h1
  split at h1
  · rename_i ht; cases h1; exact v_putR hd fl hs hfi hn hf ht (kk _ h2)
  · cases h1
theorem jtag {a t : Nat} (h : (tg M a).1 = t) : tg M a = (t, (tg M a).2) := by rw [← h]
theorem x_ldI {a : Nat} {i : Int32} {f : Int32 → Option β} (hd : decode mm.2.1 pc = .ok (.iaload, 1)) (h : (ldI M a i).bind f = some b) (kk : ∀ x, f x = some b → V G mm d (pc + 1) ls (.int x :: st) M Q) : V G mm d pc ls (.int i :: .ref a :: st) M Q := by
  obtain ⟨x, h1, h2⟩ := Option.bind_eq_some_iff.mp h
  unfold ldI at h1
  split at h1
  · rename_i ht; cases h1; exact v_iald hd (jtag ht.1) (jok_in ht.2) (kk _ h2)
  · cases h1
theorem x_ldB {a : Nat} {i : Int32} {f : Int32 → Option β} (hd : decode mm.2.1 pc = .ok (.baload, 1)) (h : (ldB M a i).bind f = some b) (kk : ∀ x, f x = some b → V G mm d (pc + 1) ls (.int x :: st) M Q) : V G mm d pc ls (.int i :: .ref a :: st) M Q := by
  obtain ⟨x, h1, h2⟩ := Option.bind_eq_some_iff.mp h
  unfold ldB at h1
  split at h1
  · rename_i ht; cases h1; exact v_bald hd (jtag ht.1) (jok_in ht.2) (kk _ h2)
  · cases h1
theorem x_ldJ {a : Nat} {i : Int32} {f : Int64 → Option β} (hd : decode mm.2.1 pc = .ok (.laload, 1)) (h : (ldJ M a i).bind f = some b) (kk : ∀ x, f x = some b → V G mm d (pc + 1) ls (.long x :: st) M Q) : V G mm d pc ls (.int i :: .ref a :: st) M Q := by
  obtain ⟨x, h1, h2⟩ := Option.bind_eq_some_iff.mp h
  unfold ldJ at h1
  split at h1
  · rename_i ht; cases h1; exact v_lald hd (jtag ht.1) (jok_in ht.2) (kk _ h2)
  · cases h1
theorem x_ldA {a t : Nat} {i : Int32} {f : Nat → Option β} (hd : decode mm.2.1 pc = .ok (.aaload, 1)) (ht : t = 103 ∨ t = 104) (h : (ldA t M a i).bind f = some b) (kk : ∀ x, f x = some b → V G mm d (pc + 1) ls (.ref x :: st) M Q) : V G mm d pc ls (.int i :: .ref a :: st) M Q := by
  obtain ⟨x, h1, h2⟩ := Option.bind_eq_some_iff.mp h
  unfold ldA at h1
  split at h1
  · rename_i hq; exact v_aald hd (jtag hq.1) ht (jok_in hq.2) h1 (kk _ h2)
  · cases h1
theorem x_ldS {a : Nat} {i : Int32} {f : Int32 → Option β} (hd : decode mm.2.1 pc = .ok (.iaload, 1)) (h : (ldS M a i).bind f = some b) (kk : ∀ x, f x = some b → V G mm d (pc + 1) ls (.int x :: st) M Q) : V G mm d pc ls (.int i :: .ref a :: st) M Q := by
  obtain ⟨x, h1, h2⟩ := Option.bind_eq_some_iff.mp h
  unfold ldS at h1
  split at h1
  · rename_i ht; cases h1; obtain ⟨rfl, t1, t2⟩ := ht; exact v_sald hd (jtag t1) (jok_in t2) (kk _ h2)
  · cases h1
theorem x_stI {a : Nat} {i x : Int32} {f : jM → Option β} (hd : decode mm.2.1 pc = .ok (.iastore, 1)) (h : (stI M a i x).bind f = some b) (kk : ∀ M1, f M1 = some b → V G mm d (pc + 1) ls st M1 Q) : V G mm d pc ls (.int x :: .int i :: .ref a :: st) M Q := by
  obtain ⟨M1, h1, h2⟩ := Option.bind_eq_some_iff.mp h
  unfold stI at h1
  split at h1
  · rename_i ht; cases h1; exact v_iast hd (jtag ht.1) (jok_in ht.2) (kk _ h2)
  · cases h1
theorem x_stB {a : Nat} {i x : Int32} {f : jM → Option β} (hd : decode mm.2.1 pc = .ok (.bastore, 1)) (h : (stB M a i x).bind f = some b) (kk : ∀ M1, f M1 = some b → V G mm d (pc + 1) ls st M1 Q) : V G mm d pc ls (.int x :: .int i :: .ref a :: st) M Q := by
  obtain ⟨M1, h1, h2⟩ := Option.bind_eq_some_iff.mp h
  unfold stB at h1
  split at h1
  · rename_i ht; cases h1; exact v_bast hd (jtag ht.1) (jok_in ht.2) (kk _ h2)
  · cases h1
theorem x_stJ {a : Nat} {i : Int32} {x : Int64} {f : jM → Option β} (hd : decode mm.2.1 pc = .ok (.lastore, 1)) (h : (stJ M a i x).bind f = some b) (kk : ∀ M1, f M1 = some b → V G mm d (pc + 1) ls st M1 Q) : V G mm d pc ls (.long x :: .int i :: .ref a :: st) M Q := by
  obtain ⟨M1, h1, h2⟩ := Option.bind_eq_some_iff.mp h
  unfold stJ at h1
  split at h1
  · rename_i ht; cases h1; exact v_last hd (jtag ht.1) (jok_in ht.2) (kk _ h2)
  · cases h1
theorem x_stA {a t ci b' : Nat} {i : Int32} {f : jM → Option β} (hd : decode mm.2.1 pc = .ok (.aastore, 1)) (h0 : t = 103 ∧ ci = 8 ∨ t = 104 ∧ ci = 6) (h : (stA t ci M a i b').bind f = some b) (kk : ∀ M1, f M1 = some b → V G mm d (pc + 1) ls st M1 Q) : V G mm d pc ls (.ref b' :: .int i :: .ref a :: st) M Q := by
  obtain ⟨M1, h1, h2⟩ := Option.bind_eq_some_iff.mp h
  unfold stA at h1
  split at h1
  · rename_i ht; cases h1; exact v_aast hd (jtag ht.1) h0 ht.2.1 (jok_in ht.2.2) (kk _ h2)
  · cases h1
theorem x_ln {a : Nat} {f : Int32 → Option β} (hd : decode mm.2.1 pc = .ok (.arraylength, 1)) (h : (ln M a).bind f = some b) (kk : ∀ x, f x = some b → V G mm d (pc + 1) ls (.int x :: st) M Q) : V G mm d pc ls (.ref a :: st) M Q := by
  obtain ⟨x, h1, h2⟩ := Option.bind_eq_some_iff.mp h
  unfold ln at h1
  split at h1
  · rename_i ht; cases h1; exact v_alen hd (jtag rfl) ht.1 ht.2 (kk _ h2)
  · cases h1
theorem x_lnS {a : Nat} {f : Int32 → Option β} (hd : decode mm.2.1 pc = .ok (.arraylength, 1)) (h : (lnS M a).bind f = some b) (kk : ∀ x, f x = some b → V G mm d (pc + 1) ls (.int x :: st) M Q) : V G mm d pc ls (.ref a :: st) M Q := by
  obtain ⟨x, h1, h2⟩ := Option.bind_eq_some_iff.mp h
  unfold lnS at h1
  split at h1
  · rename_i ht; cases h1; obtain ⟨rfl, t1⟩ := ht; exact v_slen hd (jtag t1) (kk _ h2)
  · cases h1
theorem x_nO {idx ci : Nat} {f : Nat → jM → Option β} (hd : decode mm.2.1 pc = .ok (.new idx, 3)) (cl : jCl mm.1.cls idx ci) (h : jb2 (nO ci M) f = some b) (kk : ∀ a M1, f a M1 = some b → V G mm d (pc + 3) ls (.ref a :: st) M1 Q) : V G mm d pc ls st M Q :=
  v_new hd cl (kk _ _ h)
theorem x_nI {n : Int32} {f : Nat → jM → Option β} (hd : decode mm.2.1 pc = .ok (.newarray .int, 2)) (hw : Cond.arrayClass .int ∈ jtb) (h : jb2 (nA 100 M n) f = some b) (kk : ∀ a M1, f a M1 = some b → V G mm d (pc + 2) ls (.ref a :: st) M1 Q) : V G mm d pc ls (.int n :: st) M Q := by
  obtain ⟨x, M1, h1, h2⟩ := jb2_iff h
  unfold nA at h1
  split at h1
  · rename_i ht; cases h1; exact v_newI hd hw ht.1 rfl ht.2 (kk _ _ h2)
  · cases h1
theorem x_nB {n : Int32} {f : Nat → jM → Option β} (hd : decode mm.2.1 pc = .ok (.newarray .byte, 2)) (hw : Cond.arrayClass .byte ∈ jtb) (h : jb2 (nA 101 M n) f = some b) (kk : ∀ a M1, f a M1 = some b → V G mm d (pc + 2) ls (.ref a :: st) M1 Q) : V G mm d pc ls (.int n :: st) M Q := by
  obtain ⟨x, M1, h1, h2⟩ := jb2_iff h
  unfold nA at h1
  split at h1
  · rename_i ht; cases h1; exact v_newB hd hw ht.1 rfl ht.2 (kk _ _ h2)
  · cases h1
theorem x_nJ {n : Int32} {f : Nat → jM → Option β} (hd : decode mm.2.1 pc = .ok (.newarray .long, 2)) (hw : Cond.arrayClass .long ∈ jtb) (h : jb2 (nA 102 M n) f = some b) (kk : ∀ a M1, f a M1 = some b → V G mm d (pc + 2) ls (.ref a :: st) M1 Q) : V G mm d pc ls (.int n :: st) M Q := by
  obtain ⟨x, M1, h1, h2⟩ := jb2_iff h
  unfold nA at h1
  split at h1
  · rename_i ht; cases h1; exact v_newJ hd hw ht.1 rfl ht.2 (kk _ _ h2)
  · cases h1
theorem x_nR {idx t : Nat} {C : String} {n : Int32} {f : Nat → jM → Option β} (hd : decode mm.2.1 pc = .ok (.anewarray idx, 3)) (hw : Cond.classLink mm.1.cls idx C ∈ jtb) (hC : t = 103 ∧ C = "TwoWorlds$World" ∨ t = 104 ∧ C = "TwoWorlds$Sentence") (h : jb2 (nA t M n) f = some b) (kk : ∀ a M1, f a M1 = some b → V G mm d (pc + 3) ls (.ref a :: st) M1 Q) : V G mm d pc ls (.int n :: st) M Q := by
  obtain ⟨x, M1, h1, h2⟩ := jb2_iff h
  unfold nA at h1
  split at h1
  · rename_i ht; cases h1; exact v_newA hd hw hC ht.1 rfl ht.2 (kk _ _ h2)
  · cases h1
theorem x_dv {x y : Int32} {f : Int32 → Option β} (hd : decode mm.2.1 pc = .ok (.idiv, 1)) (h : (dv x y).bind f = some b) (kk : ∀ z, f z = some b → V G mm d (pc + 1) ls (.int z :: st) M Q) : V G mm d pc ls (.int y :: .int x :: st) M Q := by
  obtain ⟨z, h1, h2⟩ := Option.bind_eq_some_iff.mp h
  unfold dv at h1
  split at h1
  · cases h1
  · rename_i ht; cases h1; exact v_idiv hd ht (kk _ h2)
theorem x_rm {x y : Int32} {f : Int32 → Option β} (hd : decode mm.2.1 pc = .ok (.irem, 1)) (h : (rm x y).bind f = some b) (kk : ∀ z, f z = some b → V G mm d (pc + 1) ls (.int z :: st) M Q) : V G mm d pc ls (.int y :: .int x :: st) M Q := by
  obtain ⟨z, h1, h2⟩ := Option.bind_eq_some_iff.mp h
  unfold rm at h1
  split at h1
  · cases h1
  · rename_i ht; cases h1; exact v_irem hd ht (kk _ h2)
theorem x_jvI {x : Int32} {f : Int32 → Option β} (h : (jv x).bind f = some b) (kk : ∀ z, f z = some b → V G mm d pc ls (.int z :: st) M Q) : V G mm d pc ls (.int x :: st) M Q := kk _ h
theorem x_jvL {x : Int64} {f : Int64 → Option β} (h : (jv x).bind f = some b) (kk : ∀ z, f z = some b → V G mm d pc ls (.long z :: st) M Q) : V G mm d pc ls (.long x :: st) M Q := kk _ h
theorem v_lcmp {x y : Int64} (hd : decode mm.2.1 pc = .ok (.lcmp, 1)) (k : V G mm d (pc + 1) ls (.int (lg_cmp x y) :: st) M Q) : V G mm d pc ls (.long y :: .long x :: st) M Q :=
  V.go (fun _ _ _ _ _ _ _ _ _ _ _ _ _ _ _ c _ _ _ w => W.lcmp c.1 c.2.1 hd w) k
theorem v_aloadQ {i : Nat} {a : Option Nat} (hd : decode mm.2.1 pc = .ok (.aload i, 2)) (k : Nat) (hk : ls[k]? = some (i, va_rf a)) (kk : V G mm d (pc + 2) ls (va_rf a :: st) M Q) : V G mm d pc ls st M Q := by
  cases a with
  | none => exact v_aloadN hd k hk kk
  | some a => exact v_aload hd k hk kk
theorem v_aload_nQ {n : Fin 4} {i : Nat} {a : Option Nat} (hd : decode mm.2.1 pc = .ok (.aload_n n, 1)) (hi : (n : Nat) = i) (k : Nat) (hk : ls[k]? = some (i, va_rf a)) (kk : V G mm d (pc + 1) ls (va_rf a :: st) M Q) : V G mm d pc ls st M Q := by
  cases a with
  | none => exact v_aload_nN hd hi k hk kk
  | some a => exact v_aload_n hd hi k hk kk
theorem v_astore_nQ {n : Fin 4} {i : Nat} {x : Option Nat} (hd : decode mm.2.1 pc = .ok (.astore_n n, 1)) (hi : (n : Nat) = i) (hn : i < mm.2.2.1) (hl : jst i (va_rf x) ls = ls2) (kk : V G mm d (pc + 1) ls2 st M Q) : V G mm d pc ls (va_rf x :: st) M Q := by
  cases x with
  | none => exact v_astore_nN hd hi hn hl kk
  | some a => exact v_astore_n hd hi hn hl kk
theorem v_astoreQ {i : Nat} {x : Option Nat} (hd : decode mm.2.1 pc = .ok (.astore i, 2)) (hn : i < mm.2.2.1) (hl : jst i (va_rf x) ls = ls2) (kk : V G mm d (pc + 2) ls2 st M Q) : V G mm d pc ls (va_rf x :: st) M Q := by
  cases x with
  | none => exact v_astoreN hd hn hl kk
  | some a => exact v_astore hd hn hl kk
theorem v_aretQ {rt : FieldType} {a : Option Nat} (hd : decode mm.2.1 pc = .ok (.areturn, 1)) (hr : mm.2.2.2 = some rt) (hrt : (∃ n, rt = .object n) ∨ ∃ t, rt = .array t) (hq : Q (some (va_rf a)) M) : V G mm d pc ls [va_rf a] M Q := by
  cases a with
  | none => exact v_aretN hd hr hrt hq
  | some a => exact v_aret hd hr hrt hq
theorem x_iret {x : Int32} {b : Int32 × jM} (hd : decode mm.2.1 pc = .ok (.ireturn, 1)) (hr : mm.2.2.2 = some .int) (h : rt x M = some b) : V G mm d pc ls [.int x] M (jQb cI b) := by
  cases h; exact v_iret hd hr rfl ⟨rfl, rfl⟩
theorem x_zret {x : Int32} {b : Int32 × jM} (hd : decode mm.2.1 pc = .ok (.ireturn, 1)) (hr : mm.2.2.2 = some .boolean) (h : rZ x M = some b) : V G mm d pc ls [.int x] M (jQb cI b) := by
  unfold rZ at h
  split at h
  · rename_i ht
    cases h
    refine v_iret hd hr ?_ ⟨rfl, rfl⟩
    rcases ht with rfl | rfl <;> rfl
  · cases h
theorem x_vret {b : Unit × jM} (hd : decode mm.2.1 pc = .ok (.return_, 1)) (hr : mm.2.2.2 = none) (h : rt () M = some b) : V G mm d pc ls [] M (jQb cU b) := by
  cases h; exact v_vret hd hr ⟨rfl, rfl⟩
theorem x_aret {rtt : FieldType} {a : Nat} {b : Nat × jM} (hd : decode mm.2.1 pc = .ok (.areturn, 1)) (hr : mm.2.2.2 = some rtt) (hrt : (∃ n, rtt = .object n) ∨ ∃ t, rtt = .array t) (h : rt a M = some b) : V G mm d pc ls [.ref a] M (jQb cR b) := by
  cases h; exact v_aret hd hr hrt ⟨rfl, rfl⟩
theorem x_aretQ {rtt : FieldType} {a : Option Nat} {b : Option Nat × jM} (hd : decode mm.2.1 pc = .ok (.areturn, 1)) (hr : mm.2.2.2 = some rtt) (hrt : (∃ n, rtt = .object n) ∨ ∃ t, rtt = .array t) (h : rt a M = some b) : V G mm d pc ls [va_rf a] M (jQb cN b) := by
  cases h; exact v_aretQ hd hr hrt ⟨rfl, rfl⟩
theorem x_if {c : Prop} [Decidable c] {A B : Option β} (h : (if c then A else B) = some b) (row : (c → V G mm d pc ls st M Q) → (¬ c → V G mm d pc ls st M Q) → V G mm d pc ls st M Q) (kt : A = some b → V G mm d pc ls st M Q) (kf : B = some b → V G mm d pc ls st M Q) : V G mm d pc ls st M Q := row (fun hc => kt (by rw [if_pos hc] at h; exact h)) (fun hc => kf (by rw [if_neg hc] at h; exact h))
/-- a branch: c holds and A is the text, or not and B -/
theorem x_br {c : Prop} [Decidable c] {A B : Option β} (h : (if c then A else B) = some b) : (c ∧ A = some b) ∨ (¬ c ∧ B = some b) := by
  by_cases hc : c
  · rw [if_pos hc] at h; exact Or.inl ⟨hc, h⟩
  · rw [if_neg hc] at h; exact Or.inr ⟨hc, h⟩
theorem x_inv {τ : Type} {cv : τ → Option Value} {o : jO τ} {f : τ → jM → Option β} {As rest : List Value} {n idx a ci : Nat} {rr : vw_C} (h1d : 1 ≤ d) (hd : decode mm.2.1 pc = .ok (.invokevirtual idx, 3)) (hm : jMe mm2 n) (hw : Cond.methodLink mm.1.cls idx mm2.1 ∈ jtb ∧ Cond.instanceMethod mm2.1 ∈ jtb ∧ Cond.selects mm2.1.cls mm2.1 mm2.1 ∈ jtb) (hcl : vwCl[ci]? = some rr) (hrr : rr.1 = mm2.1.cls) (hci : ci < 12) (hls : (lg_sl (.ref a :: As)).length ≤ mm2.2.2.1) (hn : As.length = n) (hst : As.reverse ++ .ref a :: rest = st) (hrest : Nat.ble ((rest.map fun v => v.category).sum) 8 = true)
    (hl2 : lv_args 0 (.ref a :: As) = ls2) (h : jb2 (jiv ci M a o) f = some b) (hY : ∀ c, o = some c → V G mm2 (d - 1) 0 ls2 [] M (jQb cv c)) (kk : ∀ r M1, f r M1 = some b → V G mm d (pc + 3) ls ((cv r).toList ++ rest) M1 Q) : V G mm d pc ls st M Q := by
  obtain ⟨c1, c2, h1, h2⟩ := jb2_iff h
  obtain ⟨d, rfl⟩ : ∃ d', d = d' + 1 := ⟨d - 1, by omega⟩
  unfold jiv at h1
  split at h1
  · rename_i ht
    refine v_inv hd hm hw hcl hrr hci ht hls hn hst hrest (V.mono ?_ (by rw [hl2]; exact hY _ h1))
    rintro r M' ⟨rfl, rfl⟩
    exact kk _ _ h2
  · cases h1
theorem x_invs {τ : Type} {cv : τ → Option Value} {o : jO τ} {f : τ → jM → Option β} {As rest : List Value} {n idx : Nat} (h1d : 1 ≤ d) (hd : decode mm.2.1 pc = .ok (.invokestatic idx, 3)) (hm : jMe mm2 n) (hw : Cond.methodLink mm.1.cls idx mm2.1 ∈ jtb ∧ Cond.static mm2.1 ∈ jtb) (hls : (lg_sl As).length ≤ mm2.2.2.1) (hn : As.length = n) (hst : As.reverse ++ rest = st) (hrest : Nat.ble ((rest.map fun v => v.category).sum) 8 = true)
    (hl2 : lv_args 0 As = ls2) (h : jb2 o f = some b) (hY : ∀ c, o = some c → V G mm2 (d - 1) 0 ls2 [] M (jQb cv c)) (kk : ∀ r M1, f r M1 = some b → V G mm d (pc + 3) ls ((cv r).toList ++ rest) M1 Q) : V G mm d pc ls st M Q := by
  obtain ⟨c1, c2, h1, h2⟩ := jb2_iff h
  obtain ⟨d, rfl⟩ : ∃ d', d = d' + 1 := ⟨d - 1, by omega⟩
  refine v_invs hd hm hw hls hn hst hrest (V.mono ?_ (by rw [hl2]; exact hY _ h1))
  rintro r M' ⟨rfl, rfl⟩
  exact kk _ _ h2
theorem x_invN {τ : Type} {cv : τ → Option Value} {o : jO τ} {f : τ → jM → Option β} {As rest : List Value} {n idx a ci : Nat} {rr : vw_C} (h1d : 1 ≤ d) (hd : decode mm.2.1 pc = .ok (.invokevirtual idx, 3)) (hm : jMe mm2 n) (hw : (∃ h, Cond.methodLinkNest mm.1.cls idx mm2.1 h ∈ lw_tbl) ∧ Cond.instanceMethod mm2.1 ∈ jtb ∧ Cond.selects mm2.1.cls mm2.1 mm2.1 ∈ jtb) (hcl : vwCl[ci]? = some rr) (hrr : rr.1 = mm2.1.cls) (hci : ci < 12) (hls : (lg_sl (.ref a :: As)).length ≤ mm2.2.2.1) (hn : As.length = n) (hst : As.reverse ++ .ref a :: rest = st) (hrest : Nat.ble ((rest.map fun v => v.category).sum) 8 = true)
    (hl2 : lv_args 0 (.ref a :: As) = ls2) (h : jb2 (jiv ci M a o) f = some b) (hY : ∀ c, o = some c → V G mm2 (d - 1) 0 ls2 [] M (jQb cv c)) (kk : ∀ r M1, f r M1 = some b → V G mm d (pc + 3) ls ((cv r).toList ++ rest) M1 Q) : V G mm d pc ls st M Q := by
  obtain ⟨c1, c2, h1, h2⟩ := jb2_iff h
  obtain ⟨d, rfl⟩ : ∃ d', d = d' + 1 := ⟨d - 1, by omega⟩
  unfold jiv at h1
  split at h1
  · rename_i ht
    refine v_invN hd hm hw hcl hrr hci ht hls hn hst hrest (V.mono ?_ (by rw [hl2]; exact hY _ h1))
    rintro r M' ⟨rfl, rfl⟩
    exact kk _ _ h2
  · cases h1
theorem x_invsN {τ : Type} {cv : τ → Option Value} {o : jO τ} {f : τ → jM → Option β} {As rest : List Value} {n idx : Nat} (h1d : 1 ≤ d) (hd : decode mm.2.1 pc = .ok (.invokestatic idx, 3)) (hm : jMe mm2 n) (hw : (∃ h, Cond.methodLinkNest mm.1.cls idx mm2.1 h ∈ lw_tbl) ∧ Cond.static mm2.1 ∈ jtb) (hls : (lg_sl As).length ≤ mm2.2.2.1) (hn : As.length = n) (hst : As.reverse ++ rest = st) (hrest : Nat.ble ((rest.map fun v => v.category).sum) 8 = true)
    (hl2 : lv_args 0 As = ls2) (h : jb2 o f = some b) (hY : ∀ c, o = some c → V G mm2 (d - 1) 0 ls2 [] M (jQb cv c)) (kk : ∀ r M1, f r M1 = some b → V G mm d (pc + 3) ls ((cv r).toList ++ rest) M1 Q) : V G mm d pc ls st M Q := by
  obtain ⟨c1, c2, h1, h2⟩ := jb2_iff h
  obtain ⟨d, rfl⟩ : ∃ d', d = d' + 1 := ⟨d - 1, by omega⟩
  refine v_invsN hd hm hw hls hn hst hrest (V.mono ?_ (by rw [hl2]; exact hY _ h1))
  rintro r M' ⟨rfl, rfl⟩
  exact kk _ _ h2
theorem x_invI {τ : Type} {cv : τ → Option Value} {o : jO τ} {f : τ → jM → Option β} {As rest : List Value} {n idx a : Nat} (h1d : 1 ≤ d) (hd : decode mm.2.1 pc = .ok (.invokespecial idx, 3)) (hm : jMe mm2 n) (hr0 : mm2.2.2.2 = none) (hnm : mm2.1.name = "<init>") (hw : Cond.instanceMethod mm2.1 ∈ jtb) (hlk : Cond.methodLink mm.1.cls idx mm2.1 ∈ jtb ∨ ∃ h, Cond.methodLinkNest mm.1.cls idx mm2.1 h ∈ lw_tbl) (hls : (lg_sl (.ref a :: As)).length ≤ mm2.2.2.1) (hn : As.length = n) (hst : As.reverse ++ .ref a :: rest = st) (hrest : Nat.ble ((rest.map fun v => v.category).sum) 8 = true)
    (hl2 : lv_args 0 (.ref a :: As) = ls2) (h : jb2 o f = some b) (hY : ∀ c, o = some c → V G mm2 (d - 1) 0 ls2 [] M (jQb cv c)) (kk : ∀ r M1, f r M1 = some b → V G mm d (pc + 3) ls ((cv r).toList ++ rest) M1 Q) : V G mm d pc ls st M Q := by
  obtain ⟨c1, c2, h1, h2⟩ := jb2_iff h
  obtain ⟨d, rfl⟩ : ∃ d', d = d' + 1 := ⟨d - 1, by omega⟩
  refine v_invI hd hm hr0 hnm hw hlk hls hn hst hrest (V.mono ?_ (by rw [hl2]; exact hY _ h1))
  rintro r M' ⟨rfl, rfl⟩
  exact kk _ _ h2
theorem x_objInit {idx a : Nat} (h1d : 1 ≤ d) (hd : decode mm.2.1 pc = .ok (.invokespecial idx, 3)) (hw : Cond.methodLink mm.1.cls idx objectInit ∈ jtb ∧ Cond.instanceMethod objectInit ∈ jtb ∧ Cond.code objectInit ⟨#[0xb1]⟩ 1 none ∈ jtb) (hrest : Nat.ble ((st.map fun v => v.category).sum) 8 = true) (k : V G mm d (pc + 3) ls st M Q) : V G mm d pc ls (.ref a :: st) M Q := by
  obtain ⟨d, rfl⟩ : ∃ d', d = d' + 1 := ⟨d - 1, by omega⟩
  exact v_objInit hd hw hrest k
theorem x_if_eq {x : Int32} {off : Int} {tgt : Nat} {A B : Option β} (hd : decode mm.2.1 pc = .ok (.ifCond .eq off, 3)) (ht : (pc : Int) + off = (tgt : Int)) (h : (if x = 0 then A else B) = some b) (kA : A = some b → V G mm d tgt ls st M Q) (kB : B = some b → V G mm d (pc + 3) ls st M Q) : V G mm d pc ls (.int x :: st) M Q := by
  rcases x_br h with ⟨c, h⟩ | ⟨c, h⟩
  · exact v_if_eq hd ht (fun _ => kA h) (fun q => absurd c q)
  · exact v_if_eq hd ht (fun q => absurd q c) (fun _ => kB h)
theorem x_if_ne {x : Int32} {off : Int} {tgt : Nat} {A B : Option β} (hd : decode mm.2.1 pc = .ok (.ifCond .ne off, 3)) (ht : (pc : Int) + off = (tgt : Int)) (h : (if x = 0 then A else B) = some b) (kA : A = some b → V G mm d (pc + 3) ls st M Q) (kB : B = some b → V G mm d tgt ls st M Q) : V G mm d pc ls (.int x :: st) M Q := by
  rcases x_br h with ⟨c, h⟩ | ⟨c, h⟩
  · exact v_if_ne hd ht (fun q => absurd c q) (fun _ => kA h)
  · exact v_if_ne hd ht (fun _ => kB h) (fun q => absurd q c)
theorem x_if_lt {x : Int32} {off : Int} {tgt : Nat} {A B : Option β} (hd : decode mm.2.1 pc = .ok (.ifCond .lt off, 3)) (ht : (pc : Int) + off = (tgt : Int)) (h : (if x < 0 then A else B) = some b) (kA : A = some b → V G mm d tgt ls st M Q) (kB : B = some b → V G mm d (pc + 3) ls st M Q) : V G mm d pc ls (.int x :: st) M Q := by
  rcases x_br h with ⟨c, h⟩ | ⟨c, h⟩
  · exact v_if_lt hd ht (fun _ => kA h) (fun q => absurd c q)
  · exact v_if_lt hd ht (fun q => absurd q c) (fun _ => kB h)
theorem x_if_ge {x : Int32} {off : Int} {tgt : Nat} {A B : Option β} (hd : decode mm.2.1 pc = .ok (.ifCond .ge off, 3)) (ht : (pc : Int) + off = (tgt : Int)) (h : (if 0 ≤ x then A else B) = some b) (kA : A = some b → V G mm d tgt ls st M Q) (kB : B = some b → V G mm d (pc + 3) ls st M Q) : V G mm d pc ls (.int x :: st) M Q := by
  rcases x_br h with ⟨c, h⟩ | ⟨c, h⟩
  · exact v_if_ge hd ht (fun _ => kA h) (fun q => absurd c q)
  · exact v_if_ge hd ht (fun q => absurd q c) (fun _ => kB h)
theorem x_if_gt {x : Int32} {off : Int} {tgt : Nat} {A B : Option β} (hd : decode mm.2.1 pc = .ok (.ifCond .gt off, 3)) (ht : (pc : Int) + off = (tgt : Int)) (h : (if 0 < x then A else B) = some b) (kA : A = some b → V G mm d tgt ls st M Q) (kB : B = some b → V G mm d (pc + 3) ls st M Q) : V G mm d pc ls (.int x :: st) M Q := by
  rcases x_br h with ⟨c, h⟩ | ⟨c, h⟩
  · exact v_if_gt hd ht (fun _ => kA h) (fun q => absurd c q)
  · exact v_if_gt hd ht (fun q => absurd q c) (fun _ => kB h)
theorem x_if_le {x : Int32} {off : Int} {tgt : Nat} {A B : Option β} (hd : decode mm.2.1 pc = .ok (.ifCond .le off, 3)) (ht : (pc : Int) + off = (tgt : Int)) (h : (if x ≤ 0 then A else B) = some b) (kA : A = some b → V G mm d tgt ls st M Q) (kB : B = some b → V G mm d (pc + 3) ls st M Q) : V G mm d pc ls (.int x :: st) M Q := by
  rcases x_br h with ⟨c, h⟩ | ⟨c, h⟩
  · exact v_if_le hd ht (fun _ => kA h) (fun q => absurd c q)
  · exact v_if_le hd ht (fun q => absurd q c) (fun _ => kB h)
theorem x_ic_eq {x y : Int32} {off : Int} {tgt : Nat} {A B : Option β} (hd : decode mm.2.1 pc = .ok (.if_icmp .eq off, 3)) (ht : (pc : Int) + off = (tgt : Int)) (h : (if x = y then A else B) = some b) (kA : A = some b → V G mm d tgt ls st M Q) (kB : B = some b → V G mm d (pc + 3) ls st M Q) : V G mm d pc ls (.int y :: .int x :: st) M Q := by
  rcases x_br h with ⟨c, h⟩ | ⟨c, h⟩
  · exact v_ic_eq hd ht (fun _ => kA h) (fun q => absurd c q)
  · exact v_ic_eq hd ht (fun q => absurd q c) (fun _ => kB h)
theorem x_ic_ne {x y : Int32} {off : Int} {tgt : Nat} {A B : Option β} (hd : decode mm.2.1 pc = .ok (.if_icmp .ne off, 3)) (ht : (pc : Int) + off = (tgt : Int)) (h : (if x = y then A else B) = some b) (kA : A = some b → V G mm d (pc + 3) ls st M Q) (kB : B = some b → V G mm d tgt ls st M Q) : V G mm d pc ls (.int y :: .int x :: st) M Q := by
  rcases x_br h with ⟨c, h⟩ | ⟨c, h⟩
  · exact v_ic_ne hd ht (fun q => absurd c q) (fun _ => kA h)
  · exact v_ic_ne hd ht (fun _ => kB h) (fun q => absurd q c)
theorem x_ic_lt {x y : Int32} {off : Int} {tgt : Nat} {A B : Option β} (hd : decode mm.2.1 pc = .ok (.if_icmp .lt off, 3)) (ht : (pc : Int) + off = (tgt : Int)) (h : (if x < y then A else B) = some b) (kA : A = some b → V G mm d tgt ls st M Q) (kB : B = some b → V G mm d (pc + 3) ls st M Q) : V G mm d pc ls (.int y :: .int x :: st) M Q := by
  rcases x_br h with ⟨c, h⟩ | ⟨c, h⟩
  · exact v_ic_lt hd ht (fun _ => kA h) (fun q => absurd c q)
  · exact v_ic_lt hd ht (fun q => absurd q c) (fun _ => kB h)
theorem x_ic_ge {x y : Int32} {off : Int} {tgt : Nat} {A B : Option β} (hd : decode mm.2.1 pc = .ok (.if_icmp .ge off, 3)) (ht : (pc : Int) + off = (tgt : Int)) (h : (if y ≤ x then A else B) = some b) (kA : A = some b → V G mm d tgt ls st M Q) (kB : B = some b → V G mm d (pc + 3) ls st M Q) : V G mm d pc ls (.int y :: .int x :: st) M Q := by
  rcases x_br h with ⟨c, h⟩ | ⟨c, h⟩
  · exact v_ic_ge hd ht (fun _ => kA h) (fun q => absurd c q)
  · exact v_ic_ge hd ht (fun q => absurd q c) (fun _ => kB h)
theorem x_ic_gt {x y : Int32} {off : Int} {tgt : Nat} {A B : Option β} (hd : decode mm.2.1 pc = .ok (.if_icmp .gt off, 3)) (ht : (pc : Int) + off = (tgt : Int)) (h : (if y < x then A else B) = some b) (kA : A = some b → V G mm d tgt ls st M Q) (kB : B = some b → V G mm d (pc + 3) ls st M Q) : V G mm d pc ls (.int y :: .int x :: st) M Q := by
  rcases x_br h with ⟨c, h⟩ | ⟨c, h⟩
  · exact v_ic_gt hd ht (fun _ => kA h) (fun q => absurd c q)
  · exact v_ic_gt hd ht (fun q => absurd q c) (fun _ => kB h)
theorem x_ic_le {x y : Int32} {off : Int} {tgt : Nat} {A B : Option β} (hd : decode mm.2.1 pc = .ok (.if_icmp .le off, 3)) (ht : (pc : Int) + off = (tgt : Int)) (h : (if x ≤ y then A else B) = some b) (kA : A = some b → V G mm d tgt ls st M Q) (kB : B = some b → V G mm d (pc + 3) ls st M Q) : V G mm d pc ls (.int y :: .int x :: st) M Q := by
  rcases x_br h with ⟨c, h⟩ | ⟨c, h⟩
  · exact v_ic_le hd ht (fun _ => kA h) (fun q => absurd c q)
  · exact v_ic_le hd ht (fun q => absurd q c) (fun _ => kB h)
theorem x_nN {A : Option β} {B : Nat → Option β} (h : jnl none A B = some b) : A = some b := h
theorem x_nS {a : Nat} {A : Option β} {B : Nat → Option β} (h : jnl (some a) A B = some b) : B a = some b := h
theorem v_iincC {i : Nat} {n : Int} {x c : Int32} (hd : decode mm.2.1 pc = .ok (.iinc i n, 3)) (hc : Int32.ofInt n = c) (k : Nat) (hk : ls[k]? = some (i, .int x)) (hn : i < mm.2.2.1) (hl : jst i (.int (x + c)) ls = ls2) (kk : V G mm d (pc + 3) ls2 st M Q) : V G mm d pc ls st M Q := v_iinc hd k hk (by rw [hc]) hn hl kk
def jtab (dflt lo hi : Int) (offs : Array Int) (z : Int) : Int := if z < lo ∨ hi < z then dflt else (offs[(z - lo).toNat]?).getD dflt
theorem v_table {dflt lo hi : Int} {offs : Array Int} {len : Nat} {x : Int32} {off : Int} {tgt : Nat} (hd : decode mm.2.1 pc = .ok (.tableswitch dflt lo hi offs, len)) (hz : ((offs.size : Nat) : Int) = hi - lo + 1) (ho : jtab dflt lo hi offs x.toInt = off) (ht : (pc : Int) + off = (tgt : Int)) (k : V G mm d tgt ls st M Q) : V G mm d pc ls (.int x :: st) M Q := by
  unfold jtab at ho
  split at ho
  · rename_i hq; subst ho; exact v_tableOut hd hq ht k
  · rename_i hq
    have hlt : (x.toInt - lo).toNat < offs.size := by omega
    rw [Array.getElem?_eq_getElem hlt] at ho
    exact v_tableIn hd (by omega) (by omega) (by rw [Array.getElem?_eq_getElem hlt]; exact congrArg some ho) ht k
theorem x_ne {x k : Int32} {z : Int} (h : ¬ x = k) (hk : k.toInt = z) : ¬ x.toInt = z := fun e => h (Int32.toInt_inj.mp (by rw [e, hk]))
theorem jR0_eq : jR0 = 40 := rfl
theorem jw (i : Nat) {w : Cond} (h : lw_tbl[i]? = some w) (g : goodWord w = true) : w ∈ jtb := jtb_of (List.mem_of_getElem? h) g
end JX
