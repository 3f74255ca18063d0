/-! THE LAW: what holds between calls. -/
theorem Lo_el {C : Nat → Prop} {D : Nat → Nat → Prop} {M N : jM} (e : El C M N) (h : ∀ c k, C c → D c k) : Lo D M N := ⟨fun c _ => el_tg e c, fun c k _ _ => el_rR e c k, fun c k _ hc => el_rI e (fun z => hc (h c k z)) k⟩
theorem ez_tg {P : Nat → Nat → Prop} {M N : jM} (e : Ez P M N) (c : Nat) : tg N c = tg M c := by obtain ⟨l, h⟩ := e; rw [ey_tg h]; rfl
theorem ez_rR {P : Nat → Nat → Prop} {M N : jM} (e : Ez P M N) (c k : Nat) : rR N c k = rR M c k := by obtain ⟨l, h⟩ := e; rw [ey_rR h]; rfl
theorem Lo_ez {P D : Nat → Nat → Prop} {M N : jM} (e : Ez P M N) (h : ∀ c k, P c k → D c k) : Lo D M N := ⟨fun c _ => ez_tg e c, fun c k _ _ => ez_rR e c k, fun c k _ hc => ez_rI e (fun z => hc (h c k z))⟩
section LOs
variable {P : Nat → Nat → Prop} {M N : jM} {ws : Nat → Wd}
theorem isW_lo (l : Lo P M N) {a : Nat} (ha : a + 2 < 104) (h38 : a ≠ 38) (h : isW M a) : isW N a := by
  unfold isW at *
  rw [l.1 _ (by omega), l.1 _ (by omega), l.1 _ (by omega), l.2.1 _ _ (by omega) h38, l.2.1 _ _ (by omega) h38]
  exact h
theorem Wat_lo (l : Lo P M N) {a : Nat} {u : Wd} (ha : a + 2 < 104) (h38 : a ≠ 38) (hp : ∀ c k, a ≤ c → c ≤ a + 2 → ¬ P c k) (h : Wat M a u) : Wat N a u := ⟨isW_lo l ha h38 h.1, by rw [l.2.2 _ _ (by omega) (hp _ _ (by omega) (by omega))]; exact h.2.1, fun k hk => by rw [l.2.2 _ _ (by omega) (hp _ _ (by omega) (by omega))]; exact h.2.2.1 k hk, fun k hk => by rw [l.2.2 _ _ (by omega) (hp _ _ (by omega) (by omega))]; exact h.2.2.2 k hk⟩
theorem XA_lo (l : Lo P M N) (hp : ∀ c k, 47 ≤ c → c ≤ 64 → ¬ P c k) (h : XA ws M) : XA ws N := fun w hw => Wat_lo l (by omega) (by omega) (fun c k h1 h2 => hp c k (by omega) (by omega)) (h w hw)
theorem MA_lo (l : Lo P M N) (hp : ∀ c k, 66 ≤ c → c ≤ 68 → ¬ P c k) (h : MA ws M) : MA ws N := fun w hw => ⟨by rw [l.2.2 _ _ (by omega) (hp _ _ (by omega) (by omega))]; exact (h w hw).1, fun k hk => by rw [l.2.2 _ _ (by omega) (hp _ _ (by omega) (by omega))]; exact (h w hw).2.1 k hk, fun k hk => by rw [l.2.2 _ _ (by omega) (hp _ _ (by omega) (by omega))]; exact (h w hw).2.2 k hk⟩
theorem MS_lo (l : Lo P M N) {u v : Wd} (hp : ∀ c k, 18 ≤ c → c ≤ 28 → ¬ P c k) (h : MS M 18 u v) : MS N 18 u v := by
  obtain ⟨h1, h2, h3, h4, h5⟩ := h
  refine ⟨?_, Wat_lo l (by decide) (by decide) (fun c k a b => hp c k (by omega) (by omega)) h2, Wat_lo l (by decide) (by decide) (fun c k a b => hp c k (by omega) (by omega)) h3, fun i hi => ?_, fun i hi j hj => ?_⟩
  · obtain ⟨a1, a2, a3, a4, a5, a6, a7, a8, a9, a10, a11, a12, a13⟩ := h1
    exact ⟨by rw [l.1 _ (by decide)]; exact a1, by rw [l.2.1 _ _ (by decide) (by decide)]; exact a2, by rw [l.2.1 _ _ (by decide) (by decide)]; exact a3, by rw [l.2.1 _ _ (by decide) (by decide)]; exact a4, by rw [l.2.1 _ _ (by decide) (by decide)]; exact a5, by rw [l.2.1 _ _ (by decide) (by decide)]; exact a6, by rw [l.2.1 _ _ (by decide) (by decide)]; exact a7, by rw [l.1 _ (by decide)]; exact a8, by rw [l.1 _ (by decide)]; exact a9, by rw [l.1 _ (by decide)]; exact a10, by rw [l.1 _ (by decide)]; exact a11, isW_lo l (by decide) (by decide) a12, isW_lo l (by decide) (by decide) a13⟩
  · rw [l.2.2 _ _ (by decide) (hp _ _ (by decide) (by decide)), l.2.2 _ _ (by decide) (hp _ _ (by decide) (by decide))]; exact h4 i hi
  · rw [l.2.2 _ _ (by decide) (hp _ _ (by decide) (by decide)), l.2.2 _ _ (by decide) (hp _ _ (by decide) (by decide))]; exact h5 i hi j hj
theorem MR_lo (l : Lo P M N) {r : Rw} (hp : ∀ c k, 18 ≤ c → c ≤ 28 → ¬ P c k) (h : MR M 18 r) : MR N 18 r := ⟨by rw [l.2.2 _ _ (by decide) (hp _ _ (by decide) (by decide))]; exact h.1, h.2.1, fun k hk => by rw [l.2.2 _ _ (by decide) (hp _ _ (by decide) (by decide)), l.2.2 _ _ (by decide) (hp _ _ (by decide) (by decide))]; exact h.2.2 k hk⟩
theorem XB_lo (l : Lo P M N) {p : Pl} (hp : ∀ c k, 17 ≤ c → c ≤ 28 → ¬ P c k) (h : XB ws p M) : XB ws p N := by
  obtain ⟨h1, h2, h3, h4⟩ := h
  refine ⟨by rw [l.2.2 _ _ (by decide) (hp _ _ (by decide) (by decide))]; exact h1, by rw [l.2.2 _ _ (by decide) (hp _ _ (by decide) (by decide))]; exact h2, fun h0 => ⟨MS_lo l (fun c k a b => hp c k (by omega) b) (h3 h0).1, MR_lo l (fun c k a b => hp c k (by omega) b) (h3 h0).2⟩, fun h0 => ?_⟩
  rw [l.2.2 _ _ (by decide) (hp _ _ (by decide) (by decide)), l.2.2 _ _ (by decide) (hp _ _ (by decide) (by decide))]
  exact h4 h0
theorem MB_lo (l : Lo P M N) {p : Pl} (hp : ∀ c k, (c = 73 ∨ c = 74 ∨ (c = 65 ∧ ((10 ≤ k ∧ k ≤ 12) ∨ k = 15 ∨ k = 16))) → ¬ P c k) (h : MB p M) : MB p N := by
  obtain ⟨h1, h2, h3, h4⟩ := h
  refine ⟨by rw [l.2.2 _ _ (by decide) (hp _ _ (by decide))]; exact h1, by rw [l.2.2 _ _ (by decide) (hp _ _ (by decide))]; exact h2, fun h0 => ⟨by rw [l.2.2 _ _ (by decide) (hp _ _ (by decide))]; exact (h3 h0).1, fun k hk => ?_⟩, fun h0 => ?_⟩
  · rw [l.2.2 _ _ (by decide) (hp _ _ (Or.inl rfl)), l.2.2 _ _ (by decide) (hp _ _ (Or.inr (Or.inl rfl)))]; exact (h3 h0).2 k hk
  · rw [l.2.2 _ _ (by decide) (hp _ _ (by decide)), l.2.2 _ _ (by decide) (hp _ _ (by decide))]; exact h4 h0
theorem XF_lo (l : Lo P M N) {d : Kd} (h1 : ¬ P 39 2) (h2 : ∀ k, ¬ P 40 k) (h : XF d M) : XF d N := ⟨by rw [l.2.2 _ _ (by decide) h1]; exact h.1, fun i hi => by rw [l.2.2 _ _ (by decide) (h2 i)]; exact h.2 i hi⟩
theorem MF_lo (l : Lo P M N) {d : Kd} (h1 : ¬ P 65 48) (h2 : ∀ k, ¬ P 93 k) (h : MF d M) : MF d N := ⟨by rw [l.2.2 _ _ (by decide) h1]; exact h.1, fun i hi => by rw [l.2.2 _ _ (by decide) (h2 i)]; exact h.2 i hi⟩
theorem XC_lo (l : Lo P M N) {d : Co} (h1 : ∀ k, ¬ P 42 k) (h2 : ∀ k, ¬ P 43 k) (h : XC d M) : XC d N := ⟨by rw [l.2.2 _ _ (by decide) (h1 _)]; exact h.1, by rw [l.2.2 _ _ (by decide) (h1 _)]; exact h.2.1, by rw [l.2.2 _ _ (by decide) (h1 _)]; exact h.2.2.1, fun i hi => by rw [l.2.2 _ _ (by decide) (h2 i)]; exact h.2.2.2 i hi⟩
theorem MC_lo (l : Lo P M N) {d : Co} (h1 : ∀ k, 51 ≤ k → k ≤ 54 → ¬ P 65 k) (h2 : ∀ k, ¬ P 95 k) (h : MC d M) : MC d N := by
  obtain ⟨a1, a2, a3, a4⟩ := h
  have r : ∀ k, 51 ≤ k → k ≤ 54 → rI N 65 k = rI M 65 k := fun k k1 k2 => l.2.2 _ _ (by decide) (h1 k k1 k2)
  refine ⟨by rw [r _ (by decide) (by decide)]; exact a1, fun z => by rw [r _ (by decide) (by decide)]; exact a2 z, fun z => ?_, fun i hi => by rw [l.2.2 _ _ (by decide) (h2 i)]; exact a4 i hi⟩
  rw [r _ (by decide) (by decide), r _ (by decide) (by decide), r _ (by decide) (by decide)]
  exact a3 z
theorem XT_lo (l : Lo P M N) {t : Tp} (h1 : ¬ P 29 1) (h2 : ∀ k, ¬ P 30 k) (h : XT t M) : XT t N := ⟨by rw [l.2.2 _ _ (by decide) h1]; exact h.1, fun i hi => by rw [l.2.2 _ _ (by decide) (h2 i)]; exact h.2 i hi⟩
theorem MT_lo (l : Lo P M N) {t : Tp} (h1 : ¬ P 65 28) (h2 : ∀ k, ¬ P 83 k) (h : MT t M) : MT t N := ⟨by rw [l.2.2 _ _ (by decide) h1]; exact h.1, fun i hi => by rw [l.2.2 _ _ (by decide) (h2 i)]; exact h.2 i hi⟩
theorem MZ_lo (l : Lo P M N) {S : List Fm} (hS : S.length ≤ 20) (h1 : ¬ P 65 17) (h2 : ∀ c k, 75 ≤ c → c ≤ 79 → ¬ P c k) (h : MZ S M) : MZ S N := MZ_same hS (l.2.2 _ _ (by decide) h1) (fun c k a b => l.2.2 _ _ (by omega) (h2 c k a b)) h
end LOs
/-- all that is known: worlds, play, kinds, colours, tape, sentences, asked -/
abbrev St : Type := (Nat → Wd) × Pl × Kd × Co × Tp × List Fm × Nat
def XI (σ : St) (M : jM) : Prop := XA σ.1 M ∧ XB σ.1 σ.2.1 M ∧ XF σ.2.2.1 M ∧ XC σ.2.2.2.1 M ∧ XT σ.2.2.2.2.1 M ∧ rI M 36 2 = nI σ.2.2.2.2.2.2
def MI (σ : St) (M : jM) : Prop := MA σ.1 M ∧ MB σ.2.1 M ∧ MF σ.2.2.1 M ∧ MC σ.2.2.2.1 M ∧ MT σ.2.2.2.2.1 M ∧ MZ σ.2.2.2.2.2.1 M ∧ rI M 65 44 = nI σ.2.2.2.2.2.2
def PU (σ : St) : Prop := WF σ.1 ∧ PI σ.1 σ.2.1 ∧ PN σ.1 σ.2.1 ∧ σ.2.2.1.1 ≤ 12 ∧ CV σ.2.2.2.1 ∧ VT σ.2.2.2.2.1 ∧ SV σ.2.2.2.2.2.1
def B0 (L : Nat) (xs : Nat → Int32) (M : jM) : Prop := Sh M ∧ tg M 0 = (105, L) ∧ ∀ i, rI M 0 i = xs i
def BS2 (S : List Fm) (M : jM) : Prop := XS S M ∧ jsl M ≤ 100000 + 2000 * S.length
def INV (L : Nat) (xs : Nat → Int32) (σ : St) (M : jM) : Prop := PU σ ∧ B0 L xs M ∧ BS2 σ.2.2.2.2.2.1 M ∧ XI σ M ∧ MI σ M
/-- the class's cells; the reference's cells -/
def Pcl (c _k : Nat) : Prop := 1 ≤ c ∧ c ≤ 64
def Pmo (c _k : Nat) : Prop := 65 ≤ c
section INVs
variable {P : Nat → Nat → Prop} {M N : jM} {σ : St} {L : Nat} {xs : Nat → Int32}
theorem B0_lo (l : Lo P M N) (hS : Sh N) (hp : ∀ k, ¬ P 0 k) (h : B0 L xs M) : B0 L xs N := ⟨hS, by rw [l.1 _ (by decide)]; exact h.2.1, fun i => by rw [l.2.2 _ _ (by decide) (hp i)]; exact h.2.2 i⟩
theorem MI_c (l : Lo P M N) (hP : ∀ c k, P c k → c ≤ 64) (hS : σ.2.2.2.2.2.1.length ≤ 20) (h : MI σ M) : MI σ N := by
  obtain ⟨h1, h2, h3, h4, h5, h6, h7⟩ := h
  have no : ∀ c k, 65 ≤ c → ¬ P c k := fun c k hc z => by have := hP c k z; omega
  exact ⟨MA_lo l (fun c k _ _ => no c k (by omega)) h1, MB_lo l (fun c k hc => no c k (by omega)) h2, MF_lo l (no _ _ (by decide)) (fun k => no _ _ (by decide)) h3, MC_lo l (fun k _ _ => no _ _ (by decide)) (fun k => no _ _ (by decide)) h4, MT_lo l (no _ _ (by decide)) (fun k => no _ _ (by decide)) h5, MZ_lo l hS (no _ _ (by decide)) (fun c k _ _ => no c k (by omega)) h6, by rw [l.2.2 _ _ (by decide) (no _ _ (by decide))]; exact h7⟩
theorem XI_m (l : Lo P M N) (hP : ∀ c k, P c k → 65 ≤ c) (h : XI σ M) : XI σ N := by
  obtain ⟨h1, h2, h3, h4, h5, h6⟩ := h
  have no : ∀ c k, c ≤ 64 → ¬ P c k := fun c k hc z => by have := hP c k z; omega
  exact ⟨XA_lo l (fun c k _ _ => no c k (by omega)) h1, XB_lo l (fun c k _ _ => no c k (by omega)) h2, XF_lo l (no _ _ (by decide)) (fun k => no _ _ (by decide)) h3, XC_lo l (fun k => no _ _ (by decide)) (fun k => no _ _ (by decide)) h4, XT_lo l (no _ _ (by decide)) (fun k => no _ _ (by decide)) h5, by rw [l.2.2 _ _ (by decide) (no _ _ (by decide))]; exact h6⟩
/-- a call on both: one answer, all is known again -/
def STP (L : Nat) (xs : Nat → Int32) (M : jM) (fx fm : jM → jO Int32) : Prop := ∃ a N O σ, fx M = some (a, N) ∧ fm N = some (a, O) ∧ B0 L xs N ∧ INV L xs σ O
/-- the class's call has left N, the reference's then O -/
theorem stp {fx fm : jM → jO Int32} {σ' : St} {a : Int32} {O : jM} {PX PY : Nat → Nat → Prop} (hM : B0 L xs M) (hx : fx M = some (a, N)) (hm : fm N = some (a, O)) (pu : PU σ') (l1 : Lo PX M N) (p1 : ∀ c k, PX c k → 1 ≤ c) (hN : Sh N) (l2 : Lo PY N O) (p2 : ∀ c k, PY c k → 65 ≤ c) (hO : Sh O) (b : BS2 σ'.2.2.2.2.2.1 O) (xi : XI σ' N) (mi : MI σ' O) : STP L xs M fx fm := by
  have b1 : B0 L xs N := B0_lo l1 hN (fun k z => by have := p1 _ _ z; omega) hM
  exact ⟨a, N, O, σ', hx, hm, b1, pu, B0_lo l2 hO (fun k z => by have := p2 _ _ z; omega) b1, b, XI_m l2 p2 xi, mi⟩
end INVs
