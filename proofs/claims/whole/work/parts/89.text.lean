/-! WRITING: the text of a formula; the class's Writer. -/
def wa (c : Nat) : List Nat := aS c :: ((if aA c = 0 then [] else [96 + aA c]) ++ (if aB c = 0 then [] else [96 + aB c]))
/-- its text within q quantifiers; as a part or not; the sign between its parts, if it is a row of parts -/
def wr : Nat → Bool → Nat → Fm → List Nat
  | _, _, _, .leaf c => wa c
  | q, ip, sg, .branch k l r =>
    if k = 0 then wr q true sg l ++ sg :: wr q true sg r
    else if k = 45 then 45 :: wr q true sg l
    else if isQ k = true then k :: (97 + q) :: wr (q + 1) true sg l
    else (if ip = true then [40] else []) ++ (wr q true k l ++ (if ip = true then [41] else []))
section WR
variable {q k sg : Nat} {ip : Bool} {l r : Fm}
theorem wr_c : wr q ip sg (.branch 0 l r) = wr q true sg l ++ sg :: wr q true sg r := by rw [wr, if_pos rfl]
theorem wr_n : wr q ip sg (.branch 45 l r) = 45 :: wr q true sg l := by rw [wr, if_neg (by decide), if_pos rfl]
theorem wr_q (hk : k = 64 ∨ k = 63) : wr q ip sg (.branch k l r) = k :: (97 + q) :: wr (q + 1) true sg l := by rw [wr, if_neg (by omega), if_neg (by omega), if_pos (hk_Q hk)]
theorem wr_l (hk : k = 38 ∨ k = 124) : wr q ip sg (.branch k l r) = (if ip = true then [40] else []) ++ (wr q true k l ++ (if ip = true then [41] else [])) := by rw [wr, if_neg (by omega), if_neg (by omega), if_neg (hk_L hk)]
end WR
theorem wr_sg : ∀ f q, (wf 0 q f → ∀ ip sg sg', wr q ip sg f = wr q ip sg' f) ∧ (wf 1 q f → True) :=
  fm_ind (P := fun q f => ∀ ip sg sg', wr q ip sg f = wr q ip sg' f) (B := fun _ _ => True)
    (fun q c _ _ ip sg sg' => rfl)
    (fun q l _ ih ip sg sg' => by rw [wr_n, wr_n, ih true sg sg'])
    (fun q k l hk _ _ ih ip sg sg' => by rw [wr_q hk, wr_q hk, ih true sg sg'])
    (fun q k l hk _ _ ip sg sg' => by rw [wr_l hk, wr_l hk])
    (fun _ _ _ _ => trivial) (fun _ _ _ _ _ _ _ => trivial)
theorem by8 : ∀ v, v < 128 → (Int8.toInt32 (Int32.toInt8 (nI v))).toInt8.toInt32 = nI v := by decide +kernel
/-- behind L signs xs have been written into the cell c -/
def WT (c L : Nat) (xs : List Nat) (M N : jM) : Prop := (∀ i, i < L → rI N c i = rI M c i) ∧ (∀ i, i < xs.length → rI N c (L + i) = nI (xs.getD i 0))
theorem WT.nil {c L : Nat} {M : jM} : WT c L [] M M := ⟨fun _ _ => rfl, fun i hi => absurd hi (Nat.not_lt_zero i)⟩
theorem WT.app {c L : Nat} {xs ys : List Nat} {M N O : jM} (h : WT c L xs M N) (k : WT c (L + xs.length) ys N O) : WT c L (xs ++ ys) M O := by
  refine ⟨fun i hi => by rw [k.1 i (by omega), h.1 i hi], fun i hi => ?_⟩
  rw [List.length_append] at hi
  by_cases hc : i < xs.length
  · rw [k.1 _ (by omega), h.2 i hc, List.getD_eq_getElem?_getD, List.getD_eq_getElem?_getD, List.getElem?_append_left hc]
  · have := k.2 (i - xs.length) (by omega)
    rw [show L + xs.length + (i - xs.length) = L + i by omega] at this
    rw [this, List.getD_eq_getElem?_getD, List.getD_eq_getElem?_getD, List.getElem?_append_right (by omega)]
theorem WT.same {c L : Nat} {xs : List Nat} {M M' N N' : jM} (h : WT c L xs M N) (h1 : ∀ i, rI M' c i = rI M c i) (h2 : ∀ i, rI N' c i = rI N c i) : WT c L xs M' N' := ⟨fun i hi => by rw [h1, h2]; exact h.1 i hi, fun i hi => by rw [h2]; exact h.2 i hi⟩
def CY (c : Nat) : Prop := c = 34 ∨ c = 35
def YQ (nc LN : Nat) (M : jM) : Prop := Sh M ∧ tg M nc = (100, LN)
/-- the Writer's room has L signs, and then xs -/
def YR (L : Nat) (xs : List Nat) (M N : jM) : Prop := Ex CY M N ∧ rI N 34 1 = nI (L + xs.length) ∧ WT 35 L xs M N
theorem YR.nil {L : Nat} {M : jM} (h : rI M 34 1 = nI L) : YR L [] M M := ⟨Ex.rf, h, WT.nil⟩
theorem YR.app {L : Nat} {xs ys : List Nat} {M N O : jM} (h : YR L xs M N) (k : YR (L + xs.length) ys N O) : YR L (xs ++ ys) M O := ⟨h.1.tr k.1, by rw [k.2.1, List.length_append, Nat.add_assoc], h.2.2.app k.2.2⟩
section WY
variable {M : jM} {nc LN : Nat}
theorem YQ_ex {N : jM} (e : Ex CY M N) (h : YQ nc LN M) : YQ nc LN N := ⟨Sh_ex e h.1, by rw [ex_tg e]; exact h.2⟩
theorem y_put (h : Sh M) {L v : Nat} (hl : rI M 34 1 = nI L) (hL : L + 1 ≤ 1300) (hv : v < 128) : ∃ N, f_X10_put 34 (nI v) M = some ((), N) ∧ YR L [v] M N := by
  unfold f_X10_put
  have e1 : Ex CY M (wI M 35 L (nI v)) := ex_wI Ex.rf (Or.inr rfl)
  rw [gI_n (t34 h), Option.bind_some, hl, if_neg (nI_pos (by omega)), Option.bind_some, q34_0 h, Option.bind_some, ln_n (t35 h) (by decide) (by decide), Option.bind_some, if_neg (nI_ge (by omega) (by decide)), Option.bind_some, Option.bind_some, stB_n (t35 h) (by omega) (by decide), by8 v hv, Option.bind_some, gI_n (t34 (Sh_ex e1 h)), Option.bind_some, show rI (wI M 35 L (nI v)) 34 1 = nI L by rw [rI_wI, if_neg (by omega)]; exact hl, nI_add, pI_n (t34 (Sh_ex e1 h)), Option.bind_some]
  refine ⟨_, rfl, ex_wI e1 (Or.inl rfl), by rw [rI_wI, if_pos ⟨rfl, rfl⟩]; rfl, fun i hi => ?_, fun i hi => ?_⟩
  · rw [rI_wI, if_neg (by omega), rI_wI, if_neg (by omega)]
  · have : i = 0 := by have : i < 1 := hi; omega
    subst this
    rw [rI_wI, if_neg (by omega), rI_wI, if_pos ⟨rfl, by omega⟩]
    rfl
theorem y_var (h : Sh M) {L v : Nat} (hl : rI M 34 1 = nI L) (hL : L + (if v = 0 then ([] : List Nat) else [96 + v]).length ≤ 1300) (hv : v < 16) : ∃ N, f_X10_putVariable 34 (nI v) M = some ((), N) ∧ YR L (if v = 0 then [] else [96 + v]) M N := by
  unfold f_X10_putVariable
  by_cases h0 : v = 0
  · subst h0
    rw [if_pos (by decide)]
    exact ⟨M, rfl, YR.nil hl⟩
  · rw [if_neg h0] at hL
    rw [if_neg (nI_nle (by omega) (by omega)), if_neg h0, nI_add, pk_sub (by omega), show 97 + v - 1 = 96 + v by omega, jiv_n (t34 h)]
    obtain ⟨N, p1, p2⟩ := y_put h hl hL (show 96 + v < 128 by omega)
    rw [p1, jb2_some]
    exact ⟨N, rfl, p2⟩
def YP (nc LN q : Nat) (f : Fm) : Prop := ∀ (ip : Bool) (sg d deep at' L : Nat) (M : jM), YQ nc LN M → dp f < d → deep + dp f ≤ 30 → at' + sz f ≤ LN → Nx (rI M nc) at' q f → rI M 34 1 = nI L → L + (wr q ip sg f).length ≤ 1300 → ∃ N, f_X10_writeFrom d 34 nc (nI at') (bI ip) (nI deep) M = some ((), N) ∧ YR L (wr q ip sg f) M N
def YB (nc LN q : Nat) (f : Fm) : Prop := ∀ (ip : Bool) (sg d g deep k0 at' L : Nat) (M : jM), YQ nc LN M → dp f < d → deep + 1 + dp f ≤ 30 → at' + sz f ≤ LN → Nx (rI M nc) at' q f → rI M 34 1 = nI L → k0 + 1 ≤ at' → sg < 128 → sz f < g → L + ((if at' = k0 + 1 then [] else [sg]) ++ (wr q true sg f ++ (if ip = true then [41] else []))).length ≤ 1300 → ∃ N, l_X10_writeList_49 (f_X10_writeFrom d) g 34 nc (nI k0) (bI ip) (nI deep) (nI sg) (nI (at' + sz f)) (nI at') M = some ((), N) ∧ YR L ((if at' = k0 + 1 then [] else [sg]) ++ (wr q true sg f ++ (if ip = true then [41] else []))) M N
/-- the start of a node that is no list: sign and variables -/
theorem y_node (hnc : 104 ≤ nc) (hL8 : LN ≤ 800) (h : YQ nc LN M) {rec_ : Nat → Nat → Int32 → Int32 → Int32 → jM → jO Unit} {ip : Int32} {deep at' L c : Nat} (ha : at' < LN) (hd : deep ≤ 30) (hg : rI M nc at' = nI c) (hc : c < 2 ^ 31) (hk : ¬ (c % 256 = 38 ∨ c % 256 = 124)) (h7 : c % 256 < 128) (hl : rI M 34 1 = nI L) (hL : L + (c % 256 :: ((if c / 256 % 16 = 0 then [] else [96 + c / 256 % 16]) ++ (if c / 4096 % 16 = 0 then [] else [96 + c / 4096 % 16]))).length ≤ 1300) :
    ∃ N, g_X10_writeFrom rec_ 34 nc (nI at') ip (nI deep) M = (if nI (c % 256) = nI 45 then j_X10_writeFrom_85 rec_ 34 nc (nI at') (nI deep) N else if bI (isQ (c % 256)) = 0 then some ((), N) else j_X10_writeFrom_85 rec_ 34 nc (nI at') (nI deep) N) ∧ YR L (c % 256 :: ((if c / 256 % 16 = 0 then [] else [96 + c / 256 % 16]) ++ (if c / 4096 % 16 = 0 then [] else [96 + c / 4096 % 16]))) M N := by
  rw [List.length_cons, List.length_append] at hL
  unfold g_X10_writeFrom
  rw [if_neg (nI_pos (by omega)), ln_n h.2 (by decide) (by decide), Option.bind_some, if_neg (nI_ge ha (by omega)), if_pos (nI_le hd (by decide)), ldI_n h.2 ha (by omega), Option.bind_some, hg, n_sign hc, jb2_some, n_isList (by omega), jb2_some, decide_eq_false hk, if_pos (show bI false = 0 from rfl), jiv_n (t34 h.1)]
  obtain ⟨N1, p1, p2⟩ := y_put h.1 hl (by omega) h7
  have q1 := YQ_ex p2.1 h
  rw [p1, jb2_some, ldI_n q1.2 ha (by omega), Option.bind_some, ex_rI p2.1 (by unfold CY; omega), hg, n_first hc, jb2_some, jiv_n (t34 q1.1)]
  obtain ⟨N2, r1, r2⟩ := y_var (v := c / 256 % 16) q1.1 p2.2.1 (by show L + 1 + _ ≤ 1300; omega) (by omega)
  have q2 := YQ_ex r2.1 q1
  rw [r1, jb2_some, ldI_n q2.2 ha (by omega), Option.bind_some, ex_rI r2.1 (by unfold CY; omega), ex_rI p2.1 (by unfold CY; omega), hg, n_second hc, jb2_some, jiv_n (t34 q2.1)]
  obtain ⟨N3, s1, s2⟩ := y_var (v := c / 4096 % 16) q2.1 r2.2.1 (by show L + 1 + _ + _ ≤ 1300; omega) (by omega)
  rw [s1, jb2_some, n_isQ (by omega), jb2_some]
  refine ⟨N3, rfl, ?_⟩
  have := (p2.app r2).app (show YR (L + ([c % 256] ++ (if c / 256 % 16 = 0 then [] else [96 + c / 256 % 16])).length) _ N2 N3 by rw [List.length_append, ← Nat.add_assoc]; exact s2)
  exact this
end WY
