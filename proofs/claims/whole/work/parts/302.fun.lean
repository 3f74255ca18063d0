def f_X0_isSpent (v0 : Nat) (M : jM) : jO Int32 :=
  (gI 0 M v0 1).bind fun x1 =>
  if x1 ≤ (nI 100000) then
    rZ (nI 0) M
  else
    rZ (nI 1) M
theorem s_X0_isSpent {G : jG} {d : Nat} (hd_ : 0 ≤ d) {v0 : Nat} {M : jM} {b : Int32 × jM} (h : f_X0_isSpent  v0 M = some b) : V G m_X0_isSpent d 0 [(0, .ref v0)] [] M (jQb cI b) := by
  unfold f_X0_isSpent at h
  refine v_aload_n dX0_isSpent_0 rfl 0 rfl ?_
  refine x_gI dX0_isSpent_1 kf_X0_15 rfl h (fun x1 h => ?_)
  refine v_ldc (v := (nI 100000)) dX0_isSpent_4 (jw3 238 (by decide +kernel) (by decide +kernel)) ?_
  refine x_ic_le (tgt := 13) dX0_isSpent_6 (by decide) h (fun h => ?_) (fun h => ?_)
  · refine v_iconst dX0_isSpent_13 ic_0 ?_
    exact x_zret dX0_isSpent_14 rfl h
  · refine v_iconst dX0_isSpent_9 ic_1 ?_
    refine v_goto (tgt := 14) dX0_isSpent_10 (by decide) ?_
    exact x_zret dX0_isSpent_14 rfl h
def f_X4_spanOf (v0 : Int32) (M : jM) : jO Int32 :=
  rt (jmx (nI 1) (v0 >>> ((nI 16) &&& 31))) M
theorem s_X4_spanOf {G : jG} {d : Nat} (hd_ : 1 ≤ d) {v0 : Int32} {M : jM} {b : Int32 × jM} (h : f_X4_spanOf  v0 M = some b) : V G m_X4_spanOf d 0 [(0, .int v0)] [] M (jQb cI b) := by
  unfold f_X4_spanOf at h
  refine v_iconst dX4_spanOf_0 ic_1 ?_
  refine v_iload_n dX4_spanOf_1 rfl 0 rfl ?_
  refine v_bipush dX4_spanOf_2 bp_16 ?_
  refine v_ishr dX4_spanOf_4 ?_
  refine v_mmax (by omega) dX4_spanOf_5 kh_X4_19 rfl ?_
  exact x_iret dX4_spanOf_8 rfl h
def j_X0_askParts_81 (rec_ : Nat → Nat → Nat → Int32 → Int32 → jM → jO Int32)  (v5 : Int32) (M : jM) : jO Int32 :=
  if v5 = 0 then
    rZ (nI 1) M
  else
    rZ (nI 0) M
theorem t_X0_askParts_81 {G : jG} {d : Nat} {D_ : Nat} {rec_ : Nat → Nat → Nat → Int32 → Int32 → jM → jO Int32} (hrec_ : ∀ d2, D_ ≤ d2 → ∀ (u0 : Nat) (u1 : Nat) (u2 : Nat) (u3 : Int32) (u4 : Int32) (M : jM) b2, rec_ u0 u1 u2 u3 u4 M = some b2 → V G m_X0_ask d2 0 [(0, .ref u0), (1, .ref u1), (2, .ref u2), (3, .int u3), (4, .int u4)] [] M (jQb cI b2)) (hD_ : 2 ≤ D_) (hd_ : D_ + 1 ≤ d)  {v5 : Int32} {M : jM} {b : Int32 × jM} (h : j_X0_askParts_81 rec_ v5 M = some b) : V G m_X0_askParts d 81 [(5, .int v5)] [] M (jQb cI b) := by
  unfold j_X0_askParts_81 at h
  refine v_iload dX0_askParts_81 0 rfl ?_
  refine x_if_ne (tgt := 90) dX0_askParts_83 (by decide) h (fun h => ?_) (fun h => ?_)
  · refine v_iconst dX0_askParts_86 ic_1 ?_
    refine v_goto (tgt := 91) dX0_askParts_87 (by decide) ?_
    exact x_zret dX0_askParts_91 rfl h
  · refine v_iconst dX0_askParts_90 ic_0 ?_
    exact x_zret dX0_askParts_91 rfl h
def b_X0_askParts_32 (rec_ : Nat → Nat → Nat → Int32 → Int32 → jM → jO Int32)  (k32 : Nat → Nat → Nat → Int32 → Int32 → Int32 → Int32 → jM → jO Int32) (v0 : Nat) (v1 : Nat) (v2 : Nat) (v4 : Int32) (v5 : Int32) (v6 : Int32) (v7 : Int32) (M : jM) : jO Int32 :=
  if v6 ≤ v7 then
    j_X0_askParts_81 rec_ v5 M
  else
    jb2 (jiv 0 M v0 (f_X0_isSpent v0 M)) fun x2 M1 =>
    if x2 = 0 then
      jb2 (jiv 0 M1 v0 (rec_ v0 v1 v2 v7 (v4 + (nI 1)) M1)) fun x4 M3 =>
      if x4 = v5 then
        rZ v5 M3
      else
        (ldI M3 v1 v7).bind fun x5 =>
        jb2 (f_X4_spanOf x5 M3) fun x7 M6 =>
        (jv (v7 + x7)).bind fun y8 =>
        k32 v0 v1 v2 v4 v5 v6 y8 M6
    else
      j_X0_askParts_81 rec_ v5 M1
def l_X0_askParts_32 (rec_ : Nat → Nat → Nat → Int32 → Int32 → jM → jO Int32)  : Nat → Nat → Nat → Nat → Int32 → Int32 → Int32 → Int32 → jM → jO Int32
  | 0 => fun _ _ _ _ _ _ _ _ => none
  | n + 1 => b_X0_askParts_32 rec_ (l_X0_askParts_32 rec_ n)
theorem tb_X0_askParts_32 {G : jG} {d : Nat} {D_ : Nat} {rec_ : Nat → Nat → Nat → Int32 → Int32 → jM → jO Int32} (hrec_ : ∀ d2, D_ ≤ d2 → ∀ (u0 : Nat) (u1 : Nat) (u2 : Nat) (u3 : Int32) (u4 : Int32) (M : jM) b2, rec_ u0 u1 u2 u3 u4 M = some b2 → V G m_X0_ask d2 0 [(0, .ref u0), (1, .ref u1), (2, .ref u2), (3, .int u3), (4, .int u4)] [] M (jQb cI b2)) (hD_ : 2 ≤ D_) (hd_ : D_ + 1 ≤ d)  {k32 : Nat → Nat → Nat → Int32 → Int32 → Int32 → Int32 → jM → jO Int32} (hk32 : ∀ (w0 : Nat) (w1 : Nat) (w2 : Nat) (w4 : Int32) (w5 : Int32) (w6 : Int32) (w7 : Int32) (M : jM) (b : Int32 × jM), k32 w0 w1 w2 w4 w5 w6 w7 M = some b → V G m_X0_askParts d 32 [(0, .ref w0), (1, .ref w1), (2, .ref w2), (4, .int w4), (5, .int w5), (6, .int w6), (7, .int w7)] [] M (jQb cI b)) {v0 : Nat} {v1 : Nat} {v2 : Nat} {v4 : Int32} {v5 : Int32} {v6 : Int32} {v7 : Int32} {M : jM} {b : Int32 × jM} (h : b_X0_askParts_32 rec_ k32 v0 v1 v2 v4 v5 v6 v7 M = some b) : V G m_X0_askParts d 32 [(0, .ref v0), (1, .ref v1), (2, .ref v2), (4, .int v4), (5, .int v5), (6, .int v6), (7, .int v7)] [] M (jQb cI b) := by
  unfold b_X0_askParts_32 at h
  refine v_iload dX0_askParts_32 6 rfl ?_
  refine v_iload dX0_askParts_34 5 rfl ?_
  refine x_ic_ge (tgt := 81) dX0_askParts_36 (by decide) h (fun h => ?_) (fun h => ?_)
  · exact V.pick [4] rfl (t_X0_askParts_81 hrec_ hD_ hd_ h)
  · refine v_aload_n dX0_askParts_39 rfl 0 rfl ?_
    refine x_inv (cv := cI) (As := []) (rest := []) (ls2 := [(0, .ref v0)]) (ci := 0) (by omega) dX0_askParts_40 ke_X0_isSpent kv_X0_26 rfl rfl (by decide) (Nat.le_of_ble_eq_true rfl) rfl rfl rfl rfl h (fun _ hq => s_X0_isSpent (by omega) hq) (fun x2 M1 h => ?_)
    refine x_if_ne (tgt := 81) dX0_askParts_43 (by decide) h (fun h => ?_) (fun h => ?_)
    · refine v_aload_n dX0_askParts_46 rfl 0 rfl ?_
      refine v_aload_n dX0_askParts_47 rfl 1 rfl ?_
      refine v_aload_n dX0_askParts_48 rfl 2 rfl ?_
      refine v_iload dX0_askParts_49 6 rfl ?_
      refine v_iload dX0_askParts_51 3 rfl ?_
      refine v_iconst dX0_askParts_53 ic_1 ?_
      refine v_iadd dX0_askParts_54 ?_
      refine x_inv (cv := cI) (As := [.ref v1, .ref v2, .int v7, .int (v4 + (nI 1))]) (rest := []) (ls2 := [(0, .ref v0), (1, .ref v1), (2, .ref v2), (3, .int v7), (4, .int (v4 + (nI 1)))]) (ci := 0) (by omega) dX0_askParts_55 ke_X0_ask kv_X0_22 rfl rfl (by decide) (Nat.le_of_ble_eq_true rfl) rfl rfl rfl rfl h (fun _ hq => hrec_ _ (by omega) _ _ _ _ _ _ _ hq) (fun x4 M3 h => ?_)
      refine v_iload dX0_askParts_58 4 rfl ?_
      refine x_ic_ne (tgt := 66) dX0_askParts_60 (by decide) h (fun h => ?_) (fun h => ?_)
      · refine v_iload dX0_askParts_63 4 rfl ?_
        exact x_zret dX0_askParts_65 rfl h
      · refine v_iload dX0_askParts_66 6 rfl ?_
        refine v_aload_n dX0_askParts_68 rfl 1 rfl ?_
        refine v_iload dX0_askParts_69 6 rfl ?_
        refine x_ldI dX0_askParts_71 h (fun x5 h => ?_)
        refine x_invs (cv := cI) (As := [.int x5]) (rest := [.int v7]) (ls2 := [(0, .int x5)]) (by omega) dX0_askParts_72 ke_X4_spanOf ks_X0_66 (Nat.le_of_ble_eq_true rfl) rfl rfl rfl rfl h (fun _ hq => s_X4_spanOf (by omega) hq) (fun x7 M6 h => ?_)
        refine v_iadd dX0_askParts_75 ?_
        refine x_jvI h (fun y8 h => ?_)
        refine v_istore (ls2 := [(7, .int y8), (0, .ref v0), (1, .ref v1), (2, .ref v2), (4, .int v4), (5, .int v5), (6, .int v6)]) dX0_askParts_76 (by decide) rfl ?_
        refine v_goto (tgt := 32) dX0_askParts_78 (by decide) ?_
        exact V.pick [1, 2, 3, 4, 5, 6, 0] rfl (hk32 _ _ _ _ _ _ _ _ _ h)
    · exact V.pick [4] rfl (t_X0_askParts_81 hrec_ hD_ hd_ h)
theorem t_X0_askParts_32 {G : jG} {d : Nat} {D_ : Nat} {rec_ : Nat → Nat → Nat → Int32 → Int32 → jM → jO Int32} (hrec_ : ∀ d2, D_ ≤ d2 → ∀ (u0 : Nat) (u1 : Nat) (u2 : Nat) (u3 : Int32) (u4 : Int32) (M : jM) b2, rec_ u0 u1 u2 u3 u4 M = some b2 → V G m_X0_ask d2 0 [(0, .ref u0), (1, .ref u1), (2, .ref u2), (3, .int u3), (4, .int u4)] [] M (jQb cI b2)) (hD_ : 2 ≤ D_) (hd_ : D_ + 1 ≤ d)  : ∀ (n : Nat) (v0 : Nat) (v1 : Nat) (v2 : Nat) (v4 : Int32) (v5 : Int32) (v6 : Int32) (v7 : Int32) (M : jM) (b : Int32 × jM), l_X0_askParts_32 rec_ n v0 v1 v2 v4 v5 v6 v7 M = some b → V G m_X0_askParts d 32 [(0, .ref v0), (1, .ref v1), (2, .ref v2), (4, .int v4), (5, .int v5), (6, .int v6), (7, .int v7)] [] M (jQb cI b) := by
  intro n
  induction n with
  | zero => intro v0 v1 v2 v4 v5 v6 v7 M b h; exact nomatch (show (none : jO Int32) = some b from h)
  | succ n ih => intro v0 v1 v2 v4 v5 v6 v7 M b h; exact tb_X0_askParts_32 hrec_ hD_ hd_  ih h
def f_X0_askParts (rec_ : Nat → Nat → Nat → Int32 → Int32 → jM → jO Int32) (v0 : Nat) (v1 : Nat) (v2 : Nat) (v3 : Int32) (v4 : Int32) (v5 : Int32) (M : jM) : jO Int32 :=
  if v3 < 0 then
    rZ (nI 0) M
  else
    (ln M v1).bind fun x1 =>
    if v3 < x1 then
      (ln M v1).bind fun x2 =>
      (ldI M v1 v3).bind fun x3 =>
      jb2 (f_X4_spanOf x3 M) fun x5 M4 =>
      (jv (jmn x2 (v3 + x5))).bind fun y6 =>
      (jv (v3 + (nI 1))).bind fun y7 =>
      l_X0_askParts_32 rec_ jF0 v0 v1 v2 v4 v5 y6 y7 M4
    else
      rZ (nI 0) M
theorem s_X0_askParts {G : jG} {d : Nat} {D_ : Nat} {rec_ : Nat → Nat → Nat → Int32 → Int32 → jM → jO Int32} (hrec_ : ∀ d2, D_ ≤ d2 → ∀ (u0 : Nat) (u1 : Nat) (u2 : Nat) (u3 : Int32) (u4 : Int32) (M : jM) b2, rec_ u0 u1 u2 u3 u4 M = some b2 → V G m_X0_ask d2 0 [(0, .ref u0), (1, .ref u1), (2, .ref u2), (3, .int u3), (4, .int u4)] [] M (jQb cI b2)) (hD_ : 2 ≤ D_) (hd_ : D_ + 1 ≤ d) {v0 : Nat} {v1 : Nat} {v2 : Nat} {v3 : Int32} {v4 : Int32} {v5 : Int32} {M : jM} {b : Int32 × jM} (h : f_X0_askParts rec_ v0 v1 v2 v3 v4 v5 M = some b) : V G m_X0_askParts d 0 [(0, .ref v0), (1, .ref v1), (2, .ref v2), (3, .int v3), (4, .int v4), (5, .int v5)] [] M (jQb cI b) := by
  unfold f_X0_askParts at h
  refine v_iload_n dX0_askParts_0 rfl 3 rfl ?_
  refine x_if_lt (tgt := 10) dX0_askParts_1 (by decide) h (fun h => ?_) (fun h => ?_)
  · refine v_iconst dX0_askParts_10 ic_0 ?_
    exact x_zret dX0_askParts_11 rfl h
  · refine v_iload_n dX0_askParts_4 rfl 3 rfl ?_
    refine v_aload_n dX0_askParts_5 rfl 1 rfl ?_
    refine x_ln dX0_askParts_6 h (fun x1 h => ?_)
    refine x_ic_lt (tgt := 12) dX0_askParts_7 (by decide) h (fun h => ?_) (fun h => ?_)
    · refine v_aload_n dX0_askParts_12 rfl 1 rfl ?_
      refine x_ln dX0_askParts_13 h (fun x2 h => ?_)
      refine v_iload_n dX0_askParts_14 rfl 3 rfl ?_
      refine v_aload_n dX0_askParts_15 rfl 1 rfl ?_
      refine v_iload_n dX0_askParts_16 rfl 3 rfl ?_
      refine x_ldI dX0_askParts_17 h (fun x3 h => ?_)
      refine x_invs (cv := cI) (As := [.int x3]) (rest := [.int v3, .int x2]) (ls2 := [(0, .int x3)]) (by omega) dX0_askParts_18 ke_X4_spanOf ks_X0_66 (Nat.le_of_ble_eq_true rfl) rfl rfl rfl rfl h (fun _ hq => s_X4_spanOf (by omega) hq) (fun x5 M4 h => ?_)
      refine v_iadd dX0_askParts_21 ?_
      refine v_mmin (by omega) dX0_askParts_22 kh_X0_69 rfl ?_
      refine x_jvI h (fun y6 h => ?_)
      refine v_istore (ls2 := [(6, .int y6), (0, .ref v0), (1, .ref v1), (2, .ref v2), (3, .int v3), (4, .int v4), (5, .int v5)]) dX0_askParts_25 (by decide) rfl ?_
      refine v_iload_n dX0_askParts_27 rfl 4 rfl ?_
      refine v_iconst dX0_askParts_28 ic_1 ?_
      refine v_iadd dX0_askParts_29 ?_
      refine x_jvI h (fun y7 h => ?_)
      refine v_istore (ls2 := [(7, .int y7), (6, .int y6), (0, .ref v0), (1, .ref v1), (2, .ref v2), (3, .int v3), (4, .int v4), (5, .int v5)]) dX0_askParts_30 (by decide) rfl ?_
      exact V.pick [2, 3, 4, 6, 7, 1, 0] rfl (t_X0_askParts_32 hrec_ hD_ hd_ _ _ _ _ _ _ _ _ _ _ h)
    · refine v_iconst dX0_askParts_10 ic_0 ?_
      exact x_zret dX0_askParts_11 rfl h
def f_X4_firstOf (v0 : Int32) (M : jM) : jO Int32 :=
  rt ((v0 >>> ((nI 8) &&& 31)) &&& (nI 15)) M
theorem s_X4_firstOf {G : jG} {d : Nat} (hd_ : 0 ≤ d) {v0 : Int32} {M : jM} {b : Int32 × jM} (h : f_X4_firstOf  v0 M = some b) : V G m_X4_firstOf d 0 [(0, .int v0)] [] M (jQb cI b) := by
  unfold f_X4_firstOf at h
  refine v_iload_n dX4_firstOf_0 rfl 0 rfl ?_
  refine v_bipush dX4_firstOf_1 bp_8 ?_
  refine v_ishr dX4_firstOf_3 ?_
  refine v_bipush dX4_firstOf_4 bp_15 ?_
  refine v_iand dX4_firstOf_6 ?_
  exact x_iret dX4_firstOf_7 rfl h
def j_X0_askThings_89 (rec_ : Nat → Nat → Nat → Int32 → Int32 → jM → jO Int32)  (v5 : Int32) (M : jM) : jO Int32 :=
  if v5 = 0 then
    rZ (nI 1) M
  else
    rZ (nI 0) M
theorem t_X0_askThings_89 {G : jG} {d : Nat} {D_ : Nat} {rec_ : Nat → Nat → Nat → Int32 → Int32 → jM → jO Int32} (hrec_ : ∀ d2, D_ ≤ d2 → ∀ (u0 : Nat) (u1 : Nat) (u2 : Nat) (u3 : Int32) (u4 : Int32) (M : jM) b2, rec_ u0 u1 u2 u3 u4 M = some b2 → V G m_X0_ask d2 0 [(0, .ref u0), (1, .ref u1), (2, .ref u2), (3, .int u3), (4, .int u4)] [] M (jQb cI b2)) (hD_ : 1 ≤ D_) (hd_ : D_ + 1 ≤ d)  {v5 : Int32} {M : jM} {b : Int32 × jM} (h : j_X0_askThings_89 rec_ v5 M = some b) : V G m_X0_askThings d 89 [(5, .int v5)] [] M (jQb cI b) := by
  unfold j_X0_askThings_89 at h
  refine v_iload dX0_askThings_89 0 rfl ?_
  refine x_if_ne (tgt := 98) dX0_askThings_91 (by decide) h (fun h => ?_) (fun h => ?_)
  · refine v_iconst dX0_askThings_94 ic_1 ?_
    refine v_goto (tgt := 99) dX0_askThings_95 (by decide) ?_
    exact x_zret dX0_askThings_99 rfl h
  · refine v_iconst dX0_askThings_98 ic_0 ?_
    exact x_zret dX0_askThings_99 rfl h
def b_X0_askThings_37 (rec_ : Nat → Nat → Nat → Int32 → Int32 → jM → jO Int32)  (k37 : Nat → Nat → Nat → Int32 → Int32 → Int32 → Int32 → Int32 → jM → jO Int32) (v0 : Nat) (v1 : Nat) (v2 : Nat) (v3 : Int32) (v4 : Int32) (v5 : Int32) (v6 : Int32) (v7 : Int32) (M : jM) : jO Int32 :=
  jb2 (jiv 8 M v2 (f_X9_size v2 M)) fun x2 M1 =>
  if x2 ≤ v7 then
    j_X0_askThings_89 rec_ v5 M1
  else
    jb2 (jiv 0 M1 v0 (f_X0_isSpent v0 M1)) fun x4 M3 =>
    if x4 = 0 then
      (gR 0 M3 v0 0).bind fun r5 =>
      (stI M3 r5 v6 v7).bind fun M6 =>
      jb2 (jiv 0 M6 v0 (rec_ v0 v1 v2 (v3 + (nI 1)) (v4 + (nI 1)) M6)) fun x8 M7 =>
      if x8 = v5 then
        rZ v5 M7
      else
        k37 v0 v1 v2 v3 v4 v5 v6 (v7 + (nI 1)) M7
    else
      j_X0_askThings_89 rec_ v5 M3
def l_X0_askThings_37 (rec_ : Nat → Nat → Nat → Int32 → Int32 → jM → jO Int32)  : Nat → Nat → Nat → Nat → Int32 → Int32 → Int32 → Int32 → Int32 → jM → jO Int32
  | 0 => fun _ _ _ _ _ _ _ _ _ => none
  | n + 1 => b_X0_askThings_37 rec_ (l_X0_askThings_37 rec_ n)
theorem tb_X0_askThings_37 {G : jG} {d : Nat} {D_ : Nat} {rec_ : Nat → Nat → Nat → Int32 → Int32 → jM → jO Int32} (hrec_ : ∀ d2, D_ ≤ d2 → ∀ (u0 : Nat) (u1 : Nat) (u2 : Nat) (u3 : Int32) (u4 : Int32) (M : jM) b2, rec_ u0 u1 u2 u3 u4 M = some b2 → V G m_X0_ask d2 0 [(0, .ref u0), (1, .ref u1), (2, .ref u2), (3, .int u3), (4, .int u4)] [] M (jQb cI b2)) (hD_ : 1 ≤ D_) (hd_ : D_ + 1 ≤ d)  {k37 : Nat → Nat → Nat → Int32 → Int32 → Int32 → Int32 → Int32 → jM → jO Int32} (hk37 : ∀ (w0 : Nat) (w1 : Nat) (w2 : Nat) (w3 : Int32) (w4 : Int32) (w5 : Int32) (w6 : Int32) (w7 : Int32) (M : jM) (b : Int32 × jM), k37 w0 w1 w2 w3 w4 w5 w6 w7 M = some b → V G m_X0_askThings d 37 [(0, .ref w0), (1, .ref w1), (2, .ref w2), (3, .int w3), (4, .int w4), (5, .int w5), (6, .int w6), (7, .int w7)] [] M (jQb cI b)) {v0 : Nat} {v1 : Nat} {v2 : Nat} {v3 : Int32} {v4 : Int32} {v5 : Int32} {v6 : Int32} {v7 : Int32} {M : jM} {b : Int32 × jM} (h : b_X0_askThings_37 rec_ k37 v0 v1 v2 v3 v4 v5 v6 v7 M = some b) : V G m_X0_askThings d 37 [(0, .ref v0), (1, .ref v1), (2, .ref v2), (3, .int v3), (4, .int v4), (5, .int v5), (6, .int v6), (7, .int v7)] [] M (jQb cI b) := by
  unfold b_X0_askThings_37 at h
  refine v_iload dX0_askThings_37 7 rfl ?_
  refine v_aload_n dX0_askThings_39 rfl 2 rfl ?_
  refine x_inv (cv := cI) (As := []) (rest := [.int v7]) (ls2 := [(0, .ref v2)]) (ci := 8) (by omega) dX0_askThings_40 ke_X9_size kv_X0_75 rfl rfl (by decide) (Nat.le_of_ble_eq_true rfl) rfl rfl rfl rfl h (fun _ hq => s_X9_size (by omega) hq) (fun x2 M1 h => ?_)
  refine x_ic_ge (tgt := 89) dX0_askThings_43 (by decide) h (fun h => ?_) (fun h => ?_)
  · exact V.pick [5] rfl (t_X0_askThings_89 hrec_ hD_ hd_ h)
  · refine v_aload_n dX0_askThings_46 rfl 0 rfl ?_
    refine x_inv (cv := cI) (As := []) (rest := []) (ls2 := [(0, .ref v0)]) (ci := 0) (by omega) dX0_askThings_47 ke_X0_isSpent kv_X0_26 rfl rfl (by decide) (Nat.le_of_ble_eq_true rfl) rfl rfl rfl rfl h (fun _ hq => s_X0_isSpent (by omega) hq) (fun x4 M3 h => ?_)
    refine x_if_ne (tgt := 89) dX0_askThings_50 (by decide) h (fun h => ?_) (fun h => ?_)
    · refine v_aload_n dX0_askThings_53 rfl 0 rfl ?_
      refine x_gR dX0_askThings_54 kf_X0_9 rfl h (fun r5 h => ?_)
      refine v_iload dX0_askThings_57 6 rfl ?_
      refine v_iload dX0_askThings_59 7 rfl ?_
      refine x_stI dX0_askThings_61 h (fun M6 h => ?_)
      refine v_aload_n dX0_askThings_62 rfl 0 rfl ?_
      refine v_aload_n dX0_askThings_63 rfl 1 rfl ?_
      refine v_aload_n dX0_askThings_64 rfl 2 rfl ?_
      refine v_iload_n dX0_askThings_65 rfl 3 rfl ?_
      refine v_iconst dX0_askThings_66 ic_1 ?_
      refine v_iadd dX0_askThings_67 ?_
      refine v_iload dX0_askThings_68 4 rfl ?_
      refine v_iconst dX0_askThings_70 ic_1 ?_
      refine v_iadd dX0_askThings_71 ?_
      refine x_inv (cv := cI) (As := [.ref v1, .ref v2, .int (v3 + (nI 1)), .int (v4 + (nI 1))]) (rest := []) (ls2 := [(0, .ref v0), (1, .ref v1), (2, .ref v2), (3, .int (v3 + (nI 1))), (4, .int (v4 + (nI 1)))]) (ci := 0) (by omega) dX0_askThings_72 ke_X0_ask kv_X0_22 rfl rfl (by decide) (Nat.le_of_ble_eq_true rfl) rfl rfl rfl rfl h (fun _ hq => hrec_ _ (by omega) _ _ _ _ _ _ _ hq) (fun x8 M7 h => ?_)
      refine v_iload dX0_askThings_75 5 rfl ?_
      refine x_ic_ne (tgt := 83) dX0_askThings_77 (by decide) h (fun h => ?_) (fun h => ?_)
      · refine v_iload dX0_askThings_80 5 rfl ?_
        exact x_zret dX0_askThings_82 rfl h
      · refine v_iincC (ls2 := [(7, .int (v7 + (nI 1))), (0, .ref v0), (1, .ref v1), (2, .ref v2), (3, .int v3), (4, .int v4), (5, .int v5), (6, .int v6)]) dX0_askThings_83 ic_1 7 rfl (by decide) rfl ?_
        refine v_goto (tgt := 37) dX0_askThings_86 (by decide) ?_
        exact V.pick [1, 2, 3, 4, 5, 6, 7, 0] rfl (hk37 _ _ _ _ _ _ _ _ _ _ h)
    · exact V.pick [5] rfl (t_X0_askThings_89 hrec_ hD_ hd_ h)
theorem t_X0_askThings_37 {G : jG} {d : Nat} {D_ : Nat} {rec_ : Nat → Nat → Nat → Int32 → Int32 → jM → jO Int32} (hrec_ : ∀ d2, D_ ≤ d2 → ∀ (u0 : Nat) (u1 : Nat) (u2 : Nat) (u3 : Int32) (u4 : Int32) (M : jM) b2, rec_ u0 u1 u2 u3 u4 M = some b2 → V G m_X0_ask d2 0 [(0, .ref u0), (1, .ref u1), (2, .ref u2), (3, .int u3), (4, .int u4)] [] M (jQb cI b2)) (hD_ : 1 ≤ D_) (hd_ : D_ + 1 ≤ d)  : ∀ (n : Nat) (v0 : Nat) (v1 : Nat) (v2 : Nat) (v3 : Int32) (v4 : Int32) (v5 : Int32) (v6 : Int32) (v7 : Int32) (M : jM) (b : Int32 × jM), l_X0_askThings_37 rec_ n v0 v1 v2 v3 v4 v5 v6 v7 M = some b → V G m_X0_askThings d 37 [(0, .ref v0), (1, .ref v1), (2, .ref v2), (3, .int v3), (4, .int v4), (5, .int v5), (6, .int v6), (7, .int v7)] [] M (jQb cI b) := by
  intro n
  induction n with
  | zero => intro v0 v1 v2 v3 v4 v5 v6 v7 M b h; exact nomatch (show (none : jO Int32) = some b from h)
  | succ n ih => intro v0 v1 v2 v3 v4 v5 v6 v7 M b h; exact tb_X0_askThings_37 hrec_ hD_ hd_  ih h
def j_X0_askThings_20 (rec_ : Nat → Nat → Nat → Int32 → Int32 → jM → jO Int32)  (v0 : Nat) (v1 : Nat) (v2 : Nat) (v3 : Int32) (v4 : Int32) (v5 : Int32) (s0 : Int32) (M : jM) : jO Int32 :=
  (gR 0 M v0 0).bind fun r1 =>
  (ln M r1).bind fun x2 =>
  if s0 < x2 then
    l_X0_askThings_37 rec_ jF0 v0 v1 v2 v3 v4 v5 s0 (nI 0) M
  else
    rZ (nI 0) M
theorem t_X0_askThings_20 {G : jG} {d : Nat} {D_ : Nat} {rec_ : Nat → Nat → Nat → Int32 → Int32 → jM → jO Int32} (hrec_ : ∀ d2, D_ ≤ d2 → ∀ (u0 : Nat) (u1 : Nat) (u2 : Nat) (u3 : Int32) (u4 : Int32) (M : jM) b2, rec_ u0 u1 u2 u3 u4 M = some b2 → V G m_X0_ask d2 0 [(0, .ref u0), (1, .ref u1), (2, .ref u2), (3, .int u3), (4, .int u4)] [] M (jQb cI b2)) (hD_ : 1 ≤ D_) (hd_ : D_ + 1 ≤ d)  {v0 : Nat} {v1 : Nat} {v2 : Nat} {v3 : Int32} {v4 : Int32} {v5 : Int32} {s0 : Int32} {M : jM} {b : Int32 × jM} (h : j_X0_askThings_20 rec_ v0 v1 v2 v3 v4 v5 s0 M = some b) : V G m_X0_askThings d 20 [(0, .ref v0), (1, .ref v1), (2, .ref v2), (3, .int v3), (4, .int v4), (5, .int v5)] [.int s0] M (jQb cI b) := by
  unfold j_X0_askThings_20 at h
  refine v_istore (ls2 := [(6, .int s0), (0, .ref v0), (1, .ref v1), (2, .ref v2), (3, .int v3), (4, .int v4), (5, .int v5)]) dX0_askThings_20 (by decide) rfl ?_
  refine v_iload dX0_askThings_22 0 rfl ?_
  refine v_aload_n dX0_askThings_24 rfl 1 rfl ?_
  refine x_gR dX0_askThings_25 kf_X0_9 rfl h (fun r1 h => ?_)
  refine x_ln dX0_askThings_28 h (fun x2 h => ?_)
  refine x_ic_lt (tgt := 34) dX0_askThings_29 (by decide) h (fun h => ?_) (fun h => ?_)
  · refine v_iconst dX0_askThings_34 ic_0 ?_
    refine v_istore (ls2 := [(7, .int (nI 0)), (6, .int s0), (0, .ref v0), (1, .ref v1), (2, .ref v2), (3, .int v3), (4, .int v4), (5, .int v5)]) dX0_askThings_35 (by decide) rfl ?_
    exact V.pick [2, 3, 4, 5, 6, 7, 1, 0] rfl (t_X0_askThings_37 hrec_ hD_ hd_ _ _ _ _ _ _ _ _ _ _ _ h)
  · refine v_iconst dX0_askThings_32 ic_0 ?_
    exact x_zret dX0_askThings_33 rfl h
def j_X0_askThings_19 (rec_ : Nat → Nat → Nat → Int32 → Int32 → jM → jO Int32)  (v0 : Nat) (v1 : Nat) (v2 : Nat) (v3 : Int32) (v4 : Int32) (v5 : Int32) (M : jM) : jO Int32 :=
  j_X0_askThings_20 rec_ v0 v1 v2 v3 v4 v5 (nI 0) M
theorem t_X0_askThings_19 {G : jG} {d : Nat} {D_ : Nat} {rec_ : Nat → Nat → Nat → Int32 → Int32 → jM → jO Int32} (hrec_ : ∀ d2, D_ ≤ d2 → ∀ (u0 : Nat) (u1 : Nat) (u2 : Nat) (u3 : Int32) (u4 : Int32) (M : jM) b2, rec_ u0 u1 u2 u3 u4 M = some b2 → V G m_X0_ask d2 0 [(0, .ref u0), (1, .ref u1), (2, .ref u2), (3, .int u3), (4, .int u4)] [] M (jQb cI b2)) (hD_ : 1 ≤ D_) (hd_ : D_ + 1 ≤ d)  {v0 : Nat} {v1 : Nat} {v2 : Nat} {v3 : Int32} {v4 : Int32} {v5 : Int32} {M : jM} {b : Int32 × jM} (h : j_X0_askThings_19 rec_ v0 v1 v2 v3 v4 v5 M = some b) : V G m_X0_askThings d 19 [(0, .ref v0), (1, .ref v1), (2, .ref v2), (3, .int v3), (4, .int v4), (5, .int v5)] [] M (jQb cI b) := by
  unfold j_X0_askThings_19 at h
  refine v_iconst dX0_askThings_19 ic_0 ?_
  exact t_X0_askThings_20 hrec_ hD_ hd_ h
def f_X0_askThings (rec_ : Nat → Nat → Nat → Int32 → Int32 → jM → jO Int32) (v0 : Nat) (v1 : Nat) (v2 : Nat) (v3 : Int32) (v4 : Int32) (v5 : Int32) (M : jM) : jO Int32 :=
  if v3 < 0 then
    j_X0_askThings_19 rec_ v0 v1 v2 v3 v4 v5 M
  else
    (ln M v1).bind fun x1 =>
    if x1 ≤ v3 then
      j_X0_askThings_19 rec_ v0 v1 v2 v3 v4 v5 M
    else
      (ldI M v1 v3).bind fun x2 =>
      jb2 (f_X4_firstOf x2 M) fun x4 M3 =>
      j_X0_askThings_20 rec_ v0 v1 v2 v3 v4 v5 x4 M3
theorem s_X0_askThings {G : jG} {d : Nat} {D_ : Nat} {rec_ : Nat → Nat → Nat → Int32 → Int32 → jM → jO Int32} (hrec_ : ∀ d2, D_ ≤ d2 → ∀ (u0 : Nat) (u1 : Nat) (u2 : Nat) (u3 : Int32) (u4 : Int32) (M : jM) b2, rec_ u0 u1 u2 u3 u4 M = some b2 → V G m_X0_ask d2 0 [(0, .ref u0), (1, .ref u1), (2, .ref u2), (3, .int u3), (4, .int u4)] [] M (jQb cI b2)) (hD_ : 1 ≤ D_) (hd_ : D_ + 1 ≤ d) {v0 : Nat} {v1 : Nat} {v2 : Nat} {v3 : Int32} {v4 : Int32} {v5 : Int32} {M : jM} {b : Int32 × jM} (h : f_X0_askThings rec_ v0 v1 v2 v3 v4 v5 M = some b) : V G m_X0_askThings d 0 [(0, .ref v0), (1, .ref v1), (2, .ref v2), (3, .int v3), (4, .int v4), (5, .int v5)] [] M (jQb cI b) := by
  unfold f_X0_askThings at h
  refine v_iload_n dX0_askThings_0 rfl 3 rfl ?_
  refine x_if_lt (tgt := 19) dX0_askThings_1 (by decide) h (fun h => ?_) (fun h => ?_)
  · exact t_X0_askThings_19 hrec_ hD_ hd_ h
  · refine v_iload_n dX0_askThings_4 rfl 3 rfl ?_
    refine v_aload_n dX0_askThings_5 rfl 1 rfl ?_
    refine x_ln dX0_askThings_6 h (fun x1 h => ?_)
    refine x_ic_ge (tgt := 19) dX0_askThings_7 (by decide) h (fun h => ?_) (fun h => ?_)
    · exact t_X0_askThings_19 hrec_ hD_ hd_ h
    · refine v_aload_n dX0_askThings_10 rfl 1 rfl ?_
      refine v_iload_n dX0_askThings_11 rfl 3 rfl ?_
      refine x_ldI dX0_askThings_12 h (fun x2 h => ?_)
      refine x_invs (cv := cI) (As := [.int x2]) (rest := []) (ls2 := [(0, .int x2)]) (by omega) dX0_askThings_13 ke_X4_firstOf ks_X0_51 (Nat.le_of_ble_eq_true rfl) rfl rfl rfl rfl h (fun _ hq => s_X4_firstOf (by omega) hq) (fun x4 M3 h => ?_)
      refine v_goto (tgt := 20) dX0_askThings_16 (by decide) ?_
      exact t_X0_askThings_20 hrec_ hD_ hd_ h
def f_X0_thingOf (v0 : Nat) (v1 : Int32) (M : jM) : jO Int32 :=
  if v1 < 0 then
    rt (nI 0) M
  else
    (gR 0 M v0 0).bind fun r1 =>
    (ln M r1).bind fun x2 =>
    if x2 ≤ v1 then
      rt (nI 0) M
    else
      (gR 0 M v0 0).bind fun r3 =>
      (ldI M r3 v1).bind fun x4 =>
      rt x4 M
theorem s_X0_thingOf {G : jG} {d : Nat} (hd_ : 0 ≤ d) {v0 : Nat} {v1 : Int32} {M : jM} {b : Int32 × jM} (h : f_X0_thingOf  v0 v1 M = some b) : V G m_X0_thingOf d 0 [(0, .ref v0), (1, .int v1)] [] M (jQb cI b) := by
  unfold f_X0_thingOf at h
  refine v_iload_n dX0_thingOf_0 rfl 1 rfl ?_
  refine x_if_lt (tgt := 22) dX0_thingOf_1 (by decide) h (fun h => ?_) (fun h => ?_)
  · refine v_iconst dX0_thingOf_22 ic_0 ?_
    exact x_iret dX0_thingOf_23 rfl h
  · refine v_iload_n dX0_thingOf_4 rfl 1 rfl ?_
    refine v_aload_n dX0_thingOf_5 rfl 0 rfl ?_
    refine x_gR dX0_thingOf_6 kf_X0_9 rfl h (fun r1 h => ?_)
    refine x_ln dX0_thingOf_9 h (fun x2 h => ?_)
    refine x_ic_ge (tgt := 22) dX0_thingOf_10 (by decide) h (fun h => ?_) (fun h => ?_)
    · refine v_iconst dX0_thingOf_22 ic_0 ?_
      exact x_iret dX0_thingOf_23 rfl h
    · refine v_aload_n dX0_thingOf_13 rfl 0 rfl ?_
      refine x_gR dX0_thingOf_14 kf_X0_9 rfl h (fun r3 h => ?_)
      refine v_iload_n dX0_thingOf_17 rfl 1 rfl ?_
      refine x_ldI dX0_thingOf_18 h (fun x4 h => ?_)
      refine v_goto (tgt := 23) dX0_thingOf_19 (by decide) ?_
      exact x_iret dX0_thingOf_23 rfl h
def j_X4_isList_12   (M : jM) : jO Int32 :=
  rZ (nI 1) M
theorem t_X4_isList_12 {G : jG} {d : Nat} (hd_ : 0 ≤ d)   {M : jM} {b : Int32 × jM} (h : j_X4_isList_12   M = some b) : V G m_X4_isList d 12 [] [] M (jQb cI b) := by
  unfold j_X4_isList_12 at h
  refine v_iconst dX4_isList_12 ic_1 ?_
  refine v_goto (tgt := 17) dX4_isList_13 (by decide) ?_
  exact x_zret dX4_isList_17 rfl h
def f_X4_isList (v0 : Int32) (M : jM) : jO Int32 :=
  if v0 = (nI 38) then
    j_X4_isList_12 M
  else
    if v0 = (nI 124) then
      j_X4_isList_12 M
    else
      rZ (nI 0) M
theorem s_X4_isList {G : jG} {d : Nat} (hd_ : 0 ≤ d) {v0 : Int32} {M : jM} {b : Int32 × jM} (h : f_X4_isList  v0 M = some b) : V G m_X4_isList d 0 [(0, .int v0)] [] M (jQb cI b) := by
  unfold f_X4_isList at h
  refine v_iload_n dX4_isList_0 rfl 0 rfl ?_
  refine v_bipush dX4_isList_1 bp_38 ?_
  refine x_ic_eq (tgt := 12) dX4_isList_3 (by decide) h (fun h => ?_) (fun h => ?_)
  · exact V.pick [] rfl (t_X4_isList_12 hd_ h)
  · refine v_iload_n dX4_isList_6 rfl 0 rfl ?_
    refine v_bipush dX4_isList_7 bp_124 ?_
    refine x_ic_ne (tgt := 16) dX4_isList_9 (by decide) h (fun h => ?_) (fun h => ?_)
    · exact V.pick [] rfl (t_X4_isList_12 hd_ h)
    · refine v_iconst dX4_isList_16 ic_0 ?_
      exact x_zret dX4_isList_17 rfl h
def j_X4_isQuantifier_12   (M : jM) : jO Int32 :=
  rZ (nI 1) M
theorem t_X4_isQuantifier_12 {G : jG} {d : Nat} (hd_ : 0 ≤ d)   {M : jM} {b : Int32 × jM} (h : j_X4_isQuantifier_12   M = some b) : V G m_X4_isQuantifier d 12 [] [] M (jQb cI b) := by
  unfold j_X4_isQuantifier_12 at h
  refine v_iconst dX4_isQuantifier_12 ic_1 ?_
  refine v_goto (tgt := 17) dX4_isQuantifier_13 (by decide) ?_
  exact x_zret dX4_isQuantifier_17 rfl h
def f_X4_isQuantifier (v0 : Int32) (M : jM) : jO Int32 :=
  if v0 = (nI 64) then
    j_X4_isQuantifier_12 M
  else
    if v0 = (nI 63) then
      j_X4_isQuantifier_12 M
    else
      rZ (nI 0) M
theorem s_X4_isQuantifier {G : jG} {d : Nat} (hd_ : 0 ≤ d) {v0 : Int32} {M : jM} {b : Int32 × jM} (h : f_X4_isQuantifier  v0 M = some b) : V G m_X4_isQuantifier d 0 [(0, .int v0)] [] M (jQb cI b) := by
  unfold f_X4_isQuantifier at h
  refine v_iload_n dX4_isQuantifier_0 rfl 0 rfl ?_
  refine v_bipush dX4_isQuantifier_1 bp_64 ?_
  refine x_ic_eq (tgt := 12) dX4_isQuantifier_3 (by decide) h (fun h => ?_) (fun h => ?_)
  · exact V.pick [] rfl (t_X4_isQuantifier_12 hd_ h)
  · refine v_iload_n dX4_isQuantifier_6 rfl 0 rfl ?_
    refine v_bipush dX4_isQuantifier_7 bp_63 ?_
    refine x_ic_ne (tgt := 16) dX4_isQuantifier_9 (by decide) h (fun h => ?_) (fun h => ?_)
    · exact V.pick [] rfl (t_X4_isQuantifier_12 hd_ h)
    · refine v_iconst dX4_isQuantifier_16 ic_0 ?_
      exact x_zret dX4_isQuantifier_17 rfl h
def f_X4_secondOf (v0 : Int32) (M : jM) : jO Int32 :=
  rt ((v0 >>> ((nI 12) &&& 31)) &&& (nI 15)) M
theorem s_X4_secondOf {G : jG} {d : Nat} (hd_ : 0 ≤ d) {v0 : Int32} {M : jM} {b : Int32 × jM} (h : f_X4_secondOf  v0 M = some b) : V G m_X4_secondOf d 0 [(0, .int v0)] [] M (jQb cI b) := by
  unfold f_X4_secondOf at h
  refine v_iload_n dX4_secondOf_0 rfl 0 rfl ?_
  refine v_bipush dX4_secondOf_1 bp_12 ?_
  refine v_ishr dX4_secondOf_3 ?_
  refine v_bipush dX4_secondOf_4 bp_15 ?_
  refine v_iand dX4_secondOf_6 ?_
  exact x_iret dX4_secondOf_7 rfl h
def f_X4_signOf (v0 : Int32) (M : jM) : jO Int32 :=
  rt (v0 &&& (nI 255)) M
theorem s_X4_signOf {G : jG} {d : Nat} (hd_ : 0 ≤ d) {v0 : Int32} {M : jM} {b : Int32 × jM} (h : f_X4_signOf  v0 M = some b) : V G m_X4_signOf d 0 [(0, .int v0)] [] M (jQb cI b) := by
  unfold f_X4_signOf at h
  refine v_iload_n dX4_signOf_0 rfl 0 rfl ?_
  refine v_sipush dX4_signOf_1 sp_255 ?_
  refine v_iand dX4_signOf_4 ?_
  exact x_iret dX4_signOf_5 rfl h
def j_X9_holdsAtom_102  (v1 : Int32) (M : jM) : jO Int32 :=
  if v1 = (nI 84) then
    rZ (nI 1) M
  else
    rZ (nI 0) M
theorem t_X9_holdsAtom_102 {G : jG} {d : Nat} (hd_ : 2 ≤ d)  {v1 : Int32} {M : jM} {b : Int32 × jM} (h : j_X9_holdsAtom_102  v1 M = some b) : V G m_X9_holdsAtom d 102 [(1, .int v1)] [] M (jQb cI b) := by
  unfold j_X9_holdsAtom_102 at h
  refine v_iload_n dX9_holdsAtom_102 rfl 0 rfl ?_
  refine v_bipush dX9_holdsAtom_103 bp_84 ?_
  refine x_ic_ne (tgt := 112) dX9_holdsAtom_105 (by decide) h (fun h => ?_) (fun h => ?_)
  · refine v_iconst dX9_holdsAtom_108 ic_1 ?_
    refine v_goto (tgt := 113) dX9_holdsAtom_109 (by decide) ?_
    exact x_zret dX9_holdsAtom_113 rfl h
  · refine v_iconst dX9_holdsAtom_112 ic_0 ?_
    exact x_zret dX9_holdsAtom_113 rfl h
def f_X9_holdsAtom (v0 : Nat) (v1 : Int32) (v2 : Int32) (v3 : Int32) (M : jM) : jO Int32 :=
  if v1 = (nI 61) then
    if v2 = v3 then
      rZ (nI 1) M
    else
      rZ (nI 0) M
  else
  if v1 = (nI 65) then
    jb2 (jiv 8 M v0 (f_X9_marksOf v0 v2 M)) fun x2 M1 =>
    if (x2 &&& (nI 1)) = 0 then
      rZ (nI 0) M1
    else
      rZ (nI 1) M1
  else
  if v1 = (nI 66) then
    jb2 (jiv 8 M v0 (f_X9_marksOf v0 v2 M)) fun x4 M3 =>
    if (x4 &&& (nI 2)) = 0 then
      rZ (nI 0) M3
    else
      rZ (nI 1) M3
  else
  if v1 = (nI 69) then
    jb2 (jiv 8 M v0 (f_X9_isTied v0 v2 v3 M)) fun x6 M5 =>
    rZ x6 M5
  else
    j_X9_holdsAtom_102 v1 M
theorem s_X9_holdsAtom {G : jG} {d : Nat} (hd_ : 2 ≤ d) {v0 : Nat} {v1 : Int32} {v2 : Int32} {v3 : Int32} {M : jM} {b : Int32 × jM} (h : f_X9_holdsAtom  v0 v1 v2 v3 M = some b) : V G m_X9_holdsAtom d 0 [(0, .ref v0), (1, .int v1), (2, .int v2), (3, .int v3)] [] M (jQb cI b) := by
  unfold f_X9_holdsAtom at h
  refine v_iload_n dX9_holdsAtom_0 rfl 1 rfl ?_
  rcases x_br h with ⟨hc, h⟩ | ⟨hc61, h⟩
  · refine v_table (off := 90) (tgt := 91) dX9_holdsAtom_1 (by decide) (by rw [hc]; decide +kernel) (by decide) ?_
    refine v_iload_n dX9_holdsAtom_91 rfl 2 rfl ?_
    refine v_iload_n dX9_holdsAtom_92 rfl 3 rfl ?_
    refine x_ic_ne (tgt := 100) dX9_holdsAtom_93 (by decide) h (fun h => ?_) (fun h => ?_)
    · refine v_iconst dX9_holdsAtom_96 ic_1 ?_
      refine v_goto (tgt := 101) dX9_holdsAtom_97 (by decide) ?_
      exact x_zret dX9_holdsAtom_101 rfl h
    · refine v_iconst dX9_holdsAtom_100 ic_0 ?_
      exact x_zret dX9_holdsAtom_101 rfl h
  rcases x_br h with ⟨hc, h⟩ | ⟨hc65, h⟩
  · refine v_table (off := 51) (tgt := 52) dX9_holdsAtom_1 (by decide) (by rw [hc]; decide +kernel) (by decide) ?_
    refine v_aload_n dX9_holdsAtom_52 rfl 0 rfl ?_
    refine v_iload_n dX9_holdsAtom_53 rfl 2 rfl ?_
    refine x_inv (cv := cI) (As := [.int v2]) (rest := []) (ls2 := [(0, .ref v0), (1, .int v2)]) (ci := 8) (by omega) dX9_holdsAtom_54 ke_X9_marksOf kv_X9_41 rfl rfl (by decide) (Nat.le_of_ble_eq_true rfl) rfl rfl rfl rfl h (fun _ hq => s_X9_marksOf (by omega) hq) (fun x2 M1 h => ?_)
    refine v_iconst dX9_holdsAtom_57 ic_1 ?_
    refine v_iand dX9_holdsAtom_58 ?_
    refine x_if_eq (tgt := 66) dX9_holdsAtom_59 (by decide) h (fun h => ?_) (fun h => ?_)
    · refine v_iconst dX9_holdsAtom_66 ic_0 ?_
      exact x_zret dX9_holdsAtom_67 rfl h
    · refine v_iconst dX9_holdsAtom_62 ic_1 ?_
      refine v_goto (tgt := 67) dX9_holdsAtom_63 (by decide) ?_
      exact x_zret dX9_holdsAtom_67 rfl h
  rcases x_br h with ⟨hc, h⟩ | ⟨hc66, h⟩
  · refine v_table (off := 67) (tgt := 68) dX9_holdsAtom_1 (by decide) (by rw [hc]; decide +kernel) (by decide) ?_
    refine v_aload_n dX9_holdsAtom_68 rfl 0 rfl ?_
    refine v_iload_n dX9_holdsAtom_69 rfl 2 rfl ?_
    refine x_inv (cv := cI) (As := [.int v2]) (rest := []) (ls2 := [(0, .ref v0), (1, .int v2)]) (ci := 8) (by omega) dX9_holdsAtom_70 ke_X9_marksOf kv_X9_41 rfl rfl (by decide) (Nat.le_of_ble_eq_true rfl) rfl rfl rfl rfl h (fun _ hq => s_X9_marksOf (by omega) hq) (fun x4 M3 h => ?_)
    refine v_iconst dX9_holdsAtom_73 ic_2 ?_
    refine v_iand dX9_holdsAtom_74 ?_
    refine x_if_eq (tgt := 82) dX9_holdsAtom_75 (by decide) h (fun h => ?_) (fun h => ?_)
    · refine v_iconst dX9_holdsAtom_82 ic_0 ?_
      exact x_zret dX9_holdsAtom_83 rfl h
    · refine v_iconst dX9_holdsAtom_78 ic_1 ?_
      refine v_goto (tgt := 83) dX9_holdsAtom_79 (by decide) ?_
      exact x_zret dX9_holdsAtom_83 rfl h
  rcases x_br h with ⟨hc, h⟩ | ⟨hc69, h⟩
  · refine v_table (off := 83) (tgt := 84) dX9_holdsAtom_1 (by decide) (by rw [hc]; decide +kernel) (by decide) ?_
    refine v_aload_n dX9_holdsAtom_84 rfl 0 rfl ?_
    refine v_iload_n dX9_holdsAtom_85 rfl 2 rfl ?_
    refine v_iload_n dX9_holdsAtom_86 rfl 3 rfl ?_
    refine x_inv (cv := cI) (As := [.int v2, .int v3]) (rest := []) (ls2 := [(0, .ref v0), (1, .int v2), (2, .int v3)]) (ci := 8) (by omega) dX9_holdsAtom_87 ke_X9_isTied kv_X9_57 rfl rfl (by decide) (Nat.le_of_ble_eq_true rfl) rfl rfl rfl rfl h (fun _ hq => s_X9_isTied (by omega) hq) (fun x6 M5 h => ?_)
    exact x_zret dX9_holdsAtom_90 rfl h
  have he61 := x_ne hc61 (z := 61) (by decide +kernel)
  have he65 := x_ne hc65 (z := 65) (by decide +kernel)
  have he66 := x_ne hc66 (z := 66) (by decide +kernel)
  have he69 := x_ne hc69 (z := 69) (by decide +kernel)
  have hj_ : jtab (101) (61) (69) #[90, 101, 101, 101, 51, 67, 101, 101, 83] (v1).toInt = 101 := by
    unfold jtab
    split
    · rfl
    · rcases (show (v1).toInt = 62 ∨ (v1).toInt = 63 ∨ (v1).toInt = 64 ∨ (v1).toInt = 67 ∨ (v1).toInt = 68 by omega) with q_ | q_ | q_ | q_ | q_ <;> (rw [q_]; decide +kernel)
  refine v_table (off := 101) (tgt := 102) dX9_holdsAtom_1 (by decide) hj_ (by decide) ?_
  exact V.pick [1] rfl (t_X9_holdsAtom_102 hd_ h)
def j_X0_ask_103 (rec_ : Nat → Nat → Nat → Int32 → Int32 → jM → jO Int32)  (s0 : Nat) (s1 : Nat) (s2 : Nat) (s3 : Int32) (s4 : Int32) (s5 : Int32) (M : jM) : jO Int32 :=
  jb2 (jiv 0 M s0 (f_X0_askParts rec_ s0 s1 s2 s3 s4 s5 M)) fun x2 M1 =>
  rZ x2 M1
theorem t_X0_ask_103 {G : jG} {d : Nat} {D_ : Nat} {rec_ : Nat → Nat → Nat → Int32 → Int32 → jM → jO Int32} (hrec_ : ∀ d2, D_ ≤ d2 → ∀ (u0 : Nat) (u1 : Nat) (u2 : Nat) (u3 : Int32) (u4 : Int32) (M : jM) b2, rec_ u0 u1 u2 u3 u4 M = some b2 → V G m_X0_ask d2 0 [(0, .ref u0), (1, .ref u1), (2, .ref u2), (3, .int u3), (4, .int u4)] [] M (jQb cI b2)) (hD_ : 3 ≤ D_) (hd_ : D_ + 2 ≤ d)  {s0 : Nat} {s1 : Nat} {s2 : Nat} {s3 : Int32} {s4 : Int32} {s5 : Int32} {M : jM} {b : Int32 × jM} (h : j_X0_ask_103 rec_ s0 s1 s2 s3 s4 s5 M = some b) : V G m_X0_ask d 103 [] [.int s5, .int s4, .int s3, .ref s2, .ref s1, .ref s0] M (jQb cI b) := by
  unfold j_X0_ask_103 at h
  refine x_inv (cv := cI) (As := [.ref s1, .ref s2, .int s3, .int s4, .int s5]) (rest := []) (ls2 := [(0, .ref s0), (1, .ref s1), (2, .ref s2), (3, .int s3), (4, .int s4), (5, .int s5)]) (ci := 0) (by omega) dX0_ask_103 ke_X0_askParts kv_X0_41 rfl rfl (by decide) (Nat.le_of_ble_eq_true rfl) rfl rfl rfl rfl h (fun _ hq => s_X0_askParts hrec_ (by omega) (by omega) hq) (fun x2 M1 h => ?_)
  exact x_zret dX0_ask_106 rfl h
def j_X0_ask_133 (rec_ : Nat → Nat → Nat → Int32 → Int32 → jM → jO Int32)  (s0 : Nat) (s1 : Nat) (s2 : Nat) (s3 : Int32) (s4 : Int32) (s5 : Int32) (M : jM) : jO Int32 :=
  jb2 (jiv 0 M s0 (f_X0_askThings rec_ s0 s1 s2 s3 s4 s5 M)) fun x2 M1 =>
  rZ x2 M1
theorem t_X0_ask_133 {G : jG} {d : Nat} {D_ : Nat} {rec_ : Nat → Nat → Nat → Int32 → Int32 → jM → jO Int32} (hrec_ : ∀ d2, D_ ≤ d2 → ∀ (u0 : Nat) (u1 : Nat) (u2 : Nat) (u3 : Int32) (u4 : Int32) (M : jM) b2, rec_ u0 u1 u2 u3 u4 M = some b2 → V G m_X0_ask d2 0 [(0, .ref u0), (1, .ref u1), (2, .ref u2), (3, .int u3), (4, .int u4)] [] M (jQb cI b2)) (hD_ : 3 ≤ D_) (hd_ : D_ + 2 ≤ d)  {s0 : Nat} {s1 : Nat} {s2 : Nat} {s3 : Int32} {s4 : Int32} {s5 : Int32} {M : jM} {b : Int32 × jM} (h : j_X0_ask_133 rec_ s0 s1 s2 s3 s4 s5 M = some b) : V G m_X0_ask d 133 [] [.int s5, .int s4, .int s3, .ref s2, .ref s1, .ref s0] M (jQb cI b) := by
  unfold j_X0_ask_133 at h
  refine x_inv (cv := cI) (As := [.ref s1, .ref s2, .int s3, .int s4, .int s5]) (rest := []) (ls2 := [(0, .ref s0), (1, .ref s1), (2, .ref s2), (3, .int s3), (4, .int s4), (5, .int s5)]) (ci := 0) (by omega) dX0_ask_133 ke_X0_askThings kv_X0_48 rfl rfl (by decide) (Nat.le_of_ble_eq_true rfl) rfl rfl rfl rfl h (fun _ hq => s_X0_askThings hrec_ (by omega) (by omega) hq) (fun x2 M1 h => ?_)
  exact x_zret dX0_ask_136 rfl h
def g_X0_ask (rec_ : Nat → Nat → Nat → Int32 → Int32 → jM → jO Int32) (v0 : Nat) (v1 : Nat) (v2 : Nat) (v3 : Int32) (v4 : Int32) (M : jM) : jO Int32 :=
  (gI 0 M v0 1).bind fun x1 =>
  (pI 0 M v0 1 (x1 + (nI 1))).bind fun M2 =>
  jb2 (jiv 0 M2 v0 (f_X0_isSpent v0 M2)) fun x4 M3 =>
  if x4 = 0 then
    if v3 < 0 then
      rZ (nI 0) M3
    else
      (ln M3 v1).bind fun x5 =>
      if x5 ≤ v3 then
        rZ (nI 0) M3
      else
        if v4 ≤ (nI 30) then
          (ldI M3 v1 v3).bind fun x6 =>
          jb2 (f_X4_signOf x6 M3) fun x8 M7 =>
          if x8 = (nI 45) then
            jb2 (jiv 0 M7 v0 (rec_ v0 v1 v2 (v3 + (nI 1)) (v4 + (nI 1)) M7)) fun x10 M9 =>
            if x10 = 0 then
              rZ (nI 1) M9
            else
              rZ (nI 0) M9
          else
            jb2 (f_X4_isList x8 M7) fun x12 M11 =>
            if x12 = 0 then
              jb2 (f_X4_isQuantifier x8 M11) fun x14 M13 =>
              if x14 = 0 then
                jb2 (f_X4_firstOf x6 M13) fun x16 M15 =>
                jb2 (jiv 0 M15 v0 (f_X0_thingOf v0 x16 M15)) fun x18 M17 =>
                jb2 (f_X4_secondOf x6 M17) fun x20 M19 =>
                jb2 (jiv 0 M19 v0 (f_X0_thingOf v0 x20 M19)) fun x22 M21 =>
                jb2 (jiv 8 M21 v2 (f_X9_holdsAtom v2 x8 x18 x22 M21)) fun x24 M23 =>
                rZ x24 M23
              else
                if x8 = (nI 63) then
                  j_X0_ask_133 rec_ v0 v1 v2 v3 v4 (nI 1) M13
                else
                  j_X0_ask_133 rec_ v0 v1 v2 v3 v4 (nI 0) M13
            else
              if x8 = (nI 124) then
                j_X0_ask_103 rec_ v0 v1 v2 v3 v4 (nI 1) M11
              else
                j_X0_ask_103 rec_ v0 v1 v2 v3 v4 (nI 0) M11
        else
          rZ (nI 0) M3
  else
    rZ (nI 0) M3
theorem sg_X0_ask {G : jG} {d : Nat} {D_ : Nat} {rec_ : Nat → Nat → Nat → Int32 → Int32 → jM → jO Int32} (hrec_ : ∀ d2, D_ ≤ d2 → ∀ (u0 : Nat) (u1 : Nat) (u2 : Nat) (u3 : Int32) (u4 : Int32) (M : jM) b2, rec_ u0 u1 u2 u3 u4 M = some b2 → V G m_X0_ask d2 0 [(0, .ref u0), (1, .ref u1), (2, .ref u2), (3, .int u3), (4, .int u4)] [] M (jQb cI b2)) (hD_ : 3 ≤ D_) (hd_ : D_ + 2 ≤ d) {v0 : Nat} {v1 : Nat} {v2 : Nat} {v3 : Int32} {v4 : Int32} {M : jM} {b : Int32 × jM} (h : g_X0_ask rec_ v0 v1 v2 v3 v4 M = some b) : V G m_X0_ask d 0 [(0, .ref v0), (1, .ref v1), (2, .ref v2), (3, .int v3), (4, .int v4)] [] M (jQb cI b) := by
  unfold g_X0_ask at h
  refine v_aload_n dX0_ask_0 rfl 0 rfl ?_
  refine v_dup dX0_ask_1 rfl ?_
  refine x_gI dX0_ask_2 kf_X0_15 rfl h (fun x1 h => ?_)
  refine v_iconst dX0_ask_5 ic_1 ?_
  refine v_iadd dX0_ask_6 ?_
  refine x_pI dX0_ask_7 kf_X0_15 rfl (fun q => Bool.noConfusion q) h (fun M2 h => ?_)
  refine v_aload_n dX0_ask_10 rfl 0 rfl ?_
  refine x_inv (cv := cI) (As := []) (rest := []) (ls2 := [(0, .ref v0)]) (ci := 0) (by omega) dX0_ask_11 ke_X0_isSpent kv_X0_26 rfl rfl (by decide) (Nat.le_of_ble_eq_true rfl) rfl rfl rfl rfl h (fun _ hq => s_X0_isSpent (by omega) hq) (fun x4 M3 h => ?_)
  refine x_if_ne (tgt := 34) dX0_ask_14 (by decide) h (fun h => ?_) (fun h => ?_)
  · refine v_iload_n dX0_ask_17 rfl 3 rfl ?_
    refine x_if_lt (tgt := 34) dX0_ask_18 (by decide) h (fun h => ?_) (fun h => ?_)
    · refine v_iconst dX0_ask_34 ic_0 ?_
      exact x_zret dX0_ask_35 rfl h
    · refine v_iload_n dX0_ask_21 rfl 3 rfl ?_
      refine v_aload_n dX0_ask_22 rfl 1 rfl ?_
      refine x_ln dX0_ask_23 h (fun x5 h => ?_)
      refine x_ic_ge (tgt := 34) dX0_ask_24 (by decide) h (fun h => ?_) (fun h => ?_)
      · refine v_iconst dX0_ask_34 ic_0 ?_
        exact x_zret dX0_ask_35 rfl h
      · refine v_iload dX0_ask_27 4 rfl ?_
        refine v_bipush dX0_ask_29 bp_30 ?_
        refine x_ic_le (tgt := 36) dX0_ask_31 (by decide) h (fun h => ?_) (fun h => ?_)
        · refine v_aload_n dX0_ask_36 rfl 1 rfl ?_
          refine v_iload_n dX0_ask_37 rfl 3 rfl ?_
          refine x_ldI dX0_ask_38 h (fun x6 h => ?_)
          refine v_istore (ls2 := [(5, .int x6), (0, .ref v0), (1, .ref v1), (2, .ref v2), (3, .int v3), (4, .int v4)]) dX0_ask_39 (by decide) rfl ?_
          refine v_iload dX0_ask_41 0 rfl ?_
          refine x_invs (cv := cI) (As := [.int x6]) (rest := []) (ls2 := [(0, .int x6)]) (by omega) dX0_ask_43 ke_X4_signOf ks_X0_31 (Nat.le_of_ble_eq_true rfl) rfl rfl rfl rfl h (fun _ hq => s_X4_signOf (by omega) hq) (fun x8 M7 h => ?_)
          refine v_istore (ls2 := [(6, .int x8), (5, .int x6), (0, .ref v0), (1, .ref v1), (2, .ref v2), (3, .int v3), (4, .int v4)]) dX0_ask_46 (by decide) rfl ?_
          refine v_iload dX0_ask_48 0 rfl ?_
          refine v_bipush dX0_ask_50 bp_45 ?_
          refine x_ic_ne (tgt := 77) dX0_ask_52 (by decide) h (fun h => ?_) (fun h => ?_)
          · refine v_aload_n dX0_ask_55 rfl 2 rfl ?_
            refine v_aload_n dX0_ask_56 rfl 3 rfl ?_
            refine v_aload_n dX0_ask_57 rfl 4 rfl ?_
            refine v_iload_n dX0_ask_58 rfl 5 rfl ?_
            refine v_iconst dX0_ask_59 ic_1 ?_
            refine v_iadd dX0_ask_60 ?_
            refine v_iload dX0_ask_61 6 rfl ?_
            refine v_iconst dX0_ask_63 ic_1 ?_
            refine v_iadd dX0_ask_64 ?_
            refine x_inv (cv := cI) (As := [.ref v1, .ref v2, .int (v3 + (nI 1)), .int (v4 + (nI 1))]) (rest := []) (ls2 := [(0, .ref v0), (1, .ref v1), (2, .ref v2), (3, .int (v3 + (nI 1))), (4, .int (v4 + (nI 1)))]) (ci := 0) (by omega) dX0_ask_65 ke_X0_ask kv_X0_22 rfl rfl (by decide) (Nat.le_of_ble_eq_true rfl) rfl rfl rfl rfl h (fun _ hq => hrec_ _ (by omega) _ _ _ _ _ _ _ hq) (fun x10 M9 h => ?_)
            refine x_if_ne (tgt := 75) dX0_ask_68 (by decide) h (fun h => ?_) (fun h => ?_)
            · refine v_iconst dX0_ask_71 ic_1 ?_
              refine v_goto (tgt := 76) dX0_ask_72 (by decide) ?_
              exact x_zret dX0_ask_76 rfl h
            · refine v_iconst dX0_ask_75 ic_0 ?_
              exact x_zret dX0_ask_76 rfl h
          · refine v_iload dX0_ask_77 0 rfl ?_
            refine x_invs (cv := cI) (As := [.int x8]) (rest := []) (ls2 := [(0, .int x8)]) (by omega) dX0_ask_79 ke_X4_isList ks_X0_37 (Nat.le_of_ble_eq_true rfl) rfl rfl rfl rfl h (fun _ hq => s_X4_isList (by omega) hq) (fun x12 M11 h => ?_)
            refine x_if_eq (tgt := 107) dX0_ask_82 (by decide) h (fun h => ?_) (fun h => ?_)
            · refine v_iload dX0_ask_107 0 rfl ?_
              refine x_invs (cv := cI) (As := [.int x8]) (rest := []) (ls2 := [(0, .int x8)]) (by omega) dX0_ask_109 ke_X4_isQuantifier ks_X0_45 (Nat.le_of_ble_eq_true rfl) rfl rfl rfl rfl h (fun _ hq => s_X4_isQuantifier (by omega) hq) (fun x14 M13 h => ?_)
              refine x_if_eq (tgt := 137) dX0_ask_112 (by decide) h (fun h => ?_) (fun h => ?_)
              · refine v_aload_n dX0_ask_137 rfl 4 rfl ?_
                refine v_iload dX0_ask_138 0 rfl ?_
                refine v_aload_n dX0_ask_140 rfl 2 rfl ?_
                refine v_iload dX0_ask_141 1 rfl ?_
                refine x_invs (cv := cI) (As := [.int x6]) (rest := [.ref v0, .int x8, .ref v2]) (ls2 := [(0, .int x6)]) (by omega) dX0_ask_143 ke_X4_firstOf ks_X0_51 (Nat.le_of_ble_eq_true rfl) rfl rfl rfl rfl h (fun _ hq => s_X4_firstOf (by omega) hq) (fun x16 M15 h => ?_)
                refine x_inv (cv := cI) (As := [.int x16]) (rest := [.int x8, .ref v2]) (ls2 := [(0, .ref v0), (1, .int x16)]) (ci := 0) (by omega) dX0_ask_146 ke_X0_thingOf kv_X0_54 rfl rfl (by decide) (Nat.le_of_ble_eq_true rfl) rfl rfl rfl rfl h (fun _ hq => s_X0_thingOf (by omega) hq) (fun x18 M17 h => ?_)
                refine v_aload_n dX0_ask_149 rfl 2 rfl ?_
                refine v_iload dX0_ask_150 1 rfl ?_
                refine x_invs (cv := cI) (As := [.int x6]) (rest := [.ref v0, .int x18, .int x8, .ref v2]) (ls2 := [(0, .int x6)]) (by omega) dX0_ask_152 ke_X4_secondOf ks_X0_57 (Nat.le_of_ble_eq_true rfl) rfl rfl rfl rfl h (fun _ hq => s_X4_secondOf (by omega) hq) (fun x20 M19 h => ?_)
                refine x_inv (cv := cI) (As := [.int x20]) (rest := [.int x18, .int x8, .ref v2]) (ls2 := [(0, .ref v0), (1, .int x20)]) (ci := 0) (by omega) dX0_ask_155 ke_X0_thingOf kv_X0_54 rfl rfl (by decide) (Nat.le_of_ble_eq_true rfl) rfl rfl rfl rfl h (fun _ hq => s_X0_thingOf (by omega) hq) (fun x22 M21 h => ?_)
                refine x_inv (cv := cI) (As := [.int x8, .int x18, .int x22]) (rest := []) (ls2 := [(0, .ref v2), (1, .int x8), (2, .int x18), (3, .int x22)]) (ci := 8) (by omega) dX0_ask_158 ke_X9_holdsAtom kv_X0_60 rfl rfl (by decide) (Nat.le_of_ble_eq_true rfl) rfl rfl rfl rfl h (fun _ hq => s_X9_holdsAtom (by omega) hq) (fun x24 M23 h => ?_)
                exact x_zret dX0_ask_161 rfl h
              · refine v_aload_n dX0_ask_115 rfl 2 rfl ?_
                refine v_aload_n dX0_ask_116 rfl 3 rfl ?_
                refine v_aload_n dX0_ask_117 rfl 4 rfl ?_
                refine v_iload_n dX0_ask_118 rfl 5 rfl ?_
                refine v_iload dX0_ask_119 6 rfl ?_
                refine v_iload dX0_ask_121 0 rfl ?_
                refine v_bipush dX0_ask_123 bp_63 ?_
                refine x_ic_ne (tgt := 132) dX0_ask_125 (by decide) h (fun h => ?_) (fun h => ?_)
                · refine v_iconst dX0_ask_128 ic_1 ?_
                  refine v_goto (tgt := 133) dX0_ask_129 (by decide) ?_
                  exact V.pick [] rfl (t_X0_ask_133 hrec_ hD_ hd_ h)
                · refine v_iconst dX0_ask_132 ic_0 ?_
                  exact V.pick [] rfl (t_X0_ask_133 hrec_ hD_ hd_ h)
            · refine v_aload_n dX0_ask_85 rfl 2 rfl ?_
              refine v_aload_n dX0_ask_86 rfl 3 rfl ?_
              refine v_aload_n dX0_ask_87 rfl 4 rfl ?_
              refine v_iload_n dX0_ask_88 rfl 5 rfl ?_
              refine v_iload dX0_ask_89 6 rfl ?_
              refine v_iload dX0_ask_91 0 rfl ?_
              refine v_bipush dX0_ask_93 bp_124 ?_
              refine x_ic_ne (tgt := 102) dX0_ask_95 (by decide) h (fun h => ?_) (fun h => ?_)
              · refine v_iconst dX0_ask_98 ic_1 ?_
                refine v_goto (tgt := 103) dX0_ask_99 (by decide) ?_
                exact V.pick [] rfl (t_X0_ask_103 hrec_ hD_ hd_ h)
              · refine v_iconst dX0_ask_102 ic_0 ?_
                exact V.pick [] rfl (t_X0_ask_103 hrec_ hD_ hd_ h)
        · refine v_iconst dX0_ask_34 ic_0 ?_
          exact x_zret dX0_ask_35 rfl h
  · refine v_iconst dX0_ask_34 ic_0 ?_
    exact x_zret dX0_ask_35 rfl h
def f_X0_ask : Nat → Nat → Nat → Nat → Int32 → Int32 → jM → jO Int32
  | 0 => fun _ _ _ _ _ _ => none
  | n + 1 => g_X0_ask (f_X0_ask n)
theorem s_X0_ask {G : jG} : ∀ (n d : Nat), 3 + 2 * n ≤ d → ∀ (v0 : Nat) (v1 : Nat) (v2 : Nat) (v3 : Int32) (v4 : Int32) (M : jM) (b : Int32 × jM), f_X0_ask n v0 v1 v2 v3 v4 M = some b → V G m_X0_ask d 0 [(0, .ref v0), (1, .ref v1), (2, .ref v2), (3, .int v3), (4, .int v4)] [] M (jQb cI b) := by
  intro n
  induction n with
  | zero => intro d hd v0 v1 v2 v3 v4 M b h; exact nomatch (show (none : jO Int32) = some b from h)
  | succ n ih => intro d hd v0 v1 v2 v3 v4 M b h; exact sg_X0_ask (D_ := 3 + 2 * n) (fun d2 hd2 => ih d2 hd2) (by omega) (by omega) h
def f_X0_test (v0 : Nat) (v1 : Nat) (v2 : Nat) (M : jM) : jO Int32 :=
  (pI 0 M v0 1 (nI 0)).bind fun M1 =>
  jb2 (jiv 0 M1 v0 (f_X0_ask jR0 v0 v1 v2 (nI 0) (nI 0) M1)) fun x3 M2 =>
  jb2 (jiv 0 M2 v0 (f_X0_isSpent v0 M2)) fun x5 M4 =>
  if x5 = 0 then
    (gI 0 M4 v0 1).bind fun x6 =>
    (pI 0 M4 v0 2 x6).bind fun M7 =>
    if x3 = 0 then
      rt (nI 0) M7
    else
      rt (nI 1) M7
  else
    rt (-6 : Int32) M4
theorem s_X0_test {G : jG} {d : Nat} (hd_ : 84 ≤ d) {v0 : Nat} {v1 : Nat} {v2 : Nat} {M : jM} {b : Int32 × jM} (h : f_X0_test  v0 v1 v2 M = some b) : V G m_X0_test d 0 [(0, .ref v0), (1, .ref v1), (2, .ref v2)] [] M (jQb cI b) := by
  unfold f_X0_test at h
  refine v_aload_n dX0_test_0 rfl 0 rfl ?_
  refine v_iconst dX0_test_1 ic_0 ?_
  refine x_pI dX0_test_2 kf_X0_15 rfl (fun q => Bool.noConfusion q) h (fun M1 h => ?_)
  refine v_aload_n dX0_test_5 rfl 0 rfl ?_
  refine v_aload_n dX0_test_6 rfl 1 rfl ?_
  refine v_aload_n dX0_test_7 rfl 2 rfl ?_
  refine v_iconst dX0_test_8 ic_0 ?_
  refine v_iconst dX0_test_9 ic_0 ?_
  refine x_inv (cv := cI) (As := [.ref v1, .ref v2, .int (nI 0), .int (nI 0)]) (rest := []) (ls2 := [(0, .ref v0), (1, .ref v1), (2, .ref v2), (3, .int (nI 0)), (4, .int (nI 0))]) (ci := 0) (by omega) dX0_test_10 ke_X0_ask kv_X0_22 rfl rfl (by decide) (Nat.le_of_ble_eq_true rfl) rfl rfl rfl rfl h (fun _ hq => s_X0_ask _ _ (by have := jR0_eq; omega) _ _ _ _ _ _ _ hq) (fun x3 M2 h => ?_)
  refine v_istore_n (ls2 := [(3, .int x3), (0, .ref v0), (1, .ref v1), (2, .ref v2)]) dX0_test_13 rfl (by decide) rfl ?_
  refine v_aload_n dX0_test_14 rfl 1 rfl ?_
  refine x_inv (cv := cI) (As := []) (rest := []) (ls2 := [(0, .ref v0)]) (ci := 0) (by omega) dX0_test_15 ke_X0_isSpent kv_X0_26 rfl rfl (by decide) (Nat.le_of_ble_eq_true rfl) rfl rfl rfl rfl h (fun _ hq => s_X0_isSpent (by omega) hq) (fun x5 M4 h => ?_)
  refine x_if_eq (tgt := 24) dX0_test_18 (by decide) h (fun h => ?_) (fun h => ?_)
  · refine v_aload_n dX0_test_24 rfl 1 rfl ?_
    refine v_aload_n dX0_test_25 rfl 1 rfl ?_
    refine x_gI dX0_test_26 kf_X0_15 rfl h (fun x6 h => ?_)
    refine x_pI dX0_test_29 kf_X0_19 rfl (fun q => Bool.noConfusion q) h (fun M7 h => ?_)
    refine v_iload_n dX0_test_32 rfl 0 rfl ?_
    refine x_if_eq (tgt := 40) dX0_test_33 (by decide) h (fun h => ?_) (fun h => ?_)
    · refine v_iconst dX0_test_40 ic_0 ?_
      exact x_iret dX0_test_41 rfl h
    · refine v_iconst dX0_test_36 ic_1 ?_
      refine v_goto (tgt := 41) dX0_test_37 (by decide) ?_
      exact x_iret dX0_test_41 rfl h
  · refine v_bipush dX0_test_21 bp_m6 ?_
    exact x_iret dX0_test_23 rfl h
def f_X11_sentenceOf (v0 : Nat) (v1 : Int32) (M : jM) : jO (Option Nat) :=
  if v1 < 0 then
    rt none M
  else
    (gI 10 M v0 9).bind fun x1 =>
    if x1 ≤ v1 then
      rt none M
    else
      (gR 10 M v0 8).bind fun r2 =>
      (ln M r2).bind fun x3 =>
      if x3 ≤ v1 then
        rt none M
      else
        (gR 10 M v0 8).bind fun r4 =>
        (ldA 104 M r4 v1).bind fun r5 =>
        rt (some r5) M
theorem s_X11_sentenceOf {G : jG} {d : Nat} (hd_ : 0 ≤ d) {v0 : Nat} {v1 : Int32} {M : jM} {b : (Option Nat) × jM} (h : f_X11_sentenceOf  v0 v1 M = some b) : V G m_X11_sentenceOf d 0 [(0, .ref v0), (1, .int v1)] [] M (jQb cN b) := by
  unfold f_X11_sentenceOf at h
  refine v_iload_n dX11_sentenceOf_0 rfl 1 rfl ?_
  refine x_if_lt (tgt := 30) dX11_sentenceOf_1 (by decide) h (fun h => ?_) (fun h => ?_)
  · refine v_null dX11_sentenceOf_30 ?_
    exact x_aretQ (a := none) dX11_sentenceOf_31 rfl (Or.inl ⟨_, rfl⟩) h
  · refine v_iload_n dX11_sentenceOf_4 rfl 1 rfl ?_
    refine v_aload_n dX11_sentenceOf_5 rfl 0 rfl ?_
    refine x_gI dX11_sentenceOf_6 kf_X11_68 rfl h (fun x1 h => ?_)
    refine x_ic_ge (tgt := 30) dX11_sentenceOf_9 (by decide) h (fun h => ?_) (fun h => ?_)
    · refine v_null dX11_sentenceOf_30 ?_
      exact x_aretQ (a := none) dX11_sentenceOf_31 rfl (Or.inl ⟨_, rfl⟩) h
    · refine v_iload_n dX11_sentenceOf_12 rfl 1 rfl ?_
      refine v_aload_n dX11_sentenceOf_13 rfl 0 rfl ?_
      refine x_gR dX11_sentenceOf_14 kf_X11_64 rfl h (fun r2 h => ?_)
      refine x_ln dX11_sentenceOf_17 h (fun x3 h => ?_)
      refine x_ic_ge (tgt := 30) dX11_sentenceOf_18 (by decide) h (fun h => ?_) (fun h => ?_)
      · refine v_null dX11_sentenceOf_30 ?_
        exact x_aretQ (a := none) dX11_sentenceOf_31 rfl (Or.inl ⟨_, rfl⟩) h
      · refine v_aload_n dX11_sentenceOf_21 rfl 0 rfl ?_
        refine x_gR dX11_sentenceOf_22 kf_X11_64 rfl h (fun r4 h => ?_)
        refine v_iload_n dX11_sentenceOf_25 rfl 1 rfl ?_
        refine x_ldA dX11_sentenceOf_26 (by decide) h (fun r5 h => ?_)
        refine v_goto (tgt := 31) dX11_sentenceOf_27 (by decide) ?_
        exact x_aretQ (a := (some r5)) dX11_sentenceOf_31 rfl (Or.inl ⟨_, rfl⟩) h
def f_X7_nodes (v0 : Nat) (M : jM) : jO Nat :=
  (gR 6 M v0 0).bind fun r1 =>
  rt r1 M
theorem s_X7_nodes {G : jG} {d : Nat} (hd_ : 0 ≤ d) {v0 : Nat} {M : jM} {b : Nat × jM} (h : f_X7_nodes  v0 M = some b) : V G m_X7_nodes d 0 [(0, .ref v0)] [] M (jQb cR b) := by
  unfold f_X7_nodes at h
  refine v_aload_n dX7_nodes_0 rfl 0 rfl ?_
  refine x_gR dX7_nodes_1 kf_X7_7 rfl h (fun r1 h => ?_)
  exact x_aret dX7_nodes_4 rfl (Or.inr ⟨_, rfl⟩) h
def f_X11_holds (v0 : Nat) (v1 : Int32) (v2 : Int32) (M : jM) : jO Int32 :=
  jb2 (jiv 10 M v0 (f_X11_sentenceOf v0 v1 M)) fun o2 M1 =>
  jb2 (jiv 10 M1 v0 (f_X11_worldOf v0 v2 M1)) fun o4 M3 =>
  jnl o2 (
    rt (-1 : Int32) M3
    ) fun a5 =>
    jnl o4 (
      rt (-1 : Int32) M3
      ) fun a6 =>
      (gR 10 M3 v0 7).bind fun r7 =>
      jb2 (jiv 6 M3 a5 (f_X7_nodes a5 M3)) fun r9 M8 =>
      jb2 (jiv 0 M8 r7 (f_X0_test r7 r9 a6 M8)) fun x11 M10 =>
      rt x11 M10
theorem s_X11_holds {G : jG} {d : Nat} (hd_ : 85 ≤ d) {v0 : Nat} {v1 : Int32} {v2 : Int32} {M : jM} {b : Int32 × jM} (h : f_X11_holds  v0 v1 v2 M = some b) : V G m_X11_holds d 0 [(0, .ref v0), (1, .int v1), (2, .int v2)] [] M (jQb cI b) := by
  unfold f_X11_holds at h
  refine v_aload_n dX11_holds_0 rfl 0 rfl ?_
  refine v_iload_n dX11_holds_1 rfl 1 rfl ?_
  refine x_inv (cv := cN) (As := [.int v1]) (rest := []) (ls2 := [(0, .ref v0), (1, .int v1)]) (ci := 10) (by omega) dX11_holds_2 ke_X11_sentenceOf kv_X11_188 rfl rfl (by decide) (Nat.le_of_ble_eq_true rfl) rfl rfl rfl rfl h (fun _ hq => s_X11_sentenceOf (by omega) hq) (fun o2 M1 h => ?_)
  refine v_astore_nQ (ls2 := [(3, va_rf o2), (0, .ref v0), (1, .int v1), (2, .int v2)]) dX11_holds_5 rfl (by decide) rfl ?_
  refine v_aload_n dX11_holds_6 rfl 1 rfl ?_
  refine v_iload_n dX11_holds_7 rfl 3 rfl ?_
  refine x_inv (cv := cN) (As := [.int v2]) (rest := []) (ls2 := [(0, .ref v0), (1, .int v2)]) (ci := 10) (by omega) dX11_holds_8 ke_X11_worldOf kv_X11_94 rfl rfl (by decide) (Nat.le_of_ble_eq_true rfl) rfl rfl rfl rfl h (fun _ hq => s_X11_worldOf (by omega) hq) (fun o4 M3 h => ?_)
  refine v_astoreQ (ls2 := [(4, va_rf o4), (3, va_rf o2), (0, .ref v0), (1, .int v1), (2, .int v2)]) dX11_holds_11 (by decide) (by simp [jst, jcatQ]) ?_
  refine v_aload_nQ dX11_holds_13 rfl 1 rfl ?_
  cases o2 with
  | none =>
    replace h := x_nN h
    refine v_ifnullN (tgt := 22) dX11_holds_14 (by decide) ?_
    refine v_iconst dX11_holds_22 ic_m1 ?_
    exact x_iret dX11_holds_23 rfl h
  | some a5 =>
    replace h := x_nS h
    refine v_ifnull dX11_holds_14 ?_
    refine v_aloadQ dX11_holds_17 0 rfl ?_
    cases o4 with
    | none =>
      replace h := x_nN h
      refine v_ifnonnullN dX11_holds_19 ?_
      refine v_iconst dX11_holds_22 ic_m1 ?_
      exact x_iret dX11_holds_23 rfl h
    | some a6 =>
      replace h := x_nS h
      refine v_ifnonnull (tgt := 24) dX11_holds_19 (by decide) ?_
      refine v_aload_n dX11_holds_24 rfl 2 rfl ?_
      refine x_gR dX11_holds_25 kf_X11_58 rfl h (fun r7 h => ?_)
      refine v_aload_n dX11_holds_28 rfl 1 rfl ?_
      refine x_inv (cv := cR) (As := []) (rest := [.ref r7]) (ls2 := [(0, .ref a5)]) (ci := 6) (by omega) dX11_holds_29 ke_X7_nodes kv_X11_195 rfl rfl (by decide) (Nat.le_of_ble_eq_true rfl) rfl rfl rfl rfl h (fun _ hq => s_X7_nodes (by omega) hq) (fun r9 M8 h => ?_)
      refine v_aload dX11_holds_32 0 rfl ?_
      refine x_inv (cv := cI) (As := [.ref r9, .ref a6]) (rest := []) (ls2 := [(0, .ref r7), (1, .ref r9), (2, .ref a6)]) (ci := 0) (by omega) dX11_holds_34 ke_X0_test kv_X11_202 rfl rfl (by decide) (Nat.le_of_ble_eq_true rfl) rfl rfl rfl rfl h (fun _ hq => s_X0_test (by omega) hq) (fun x11 M10 h => ?_)
      exact x_iret dX11_holds_37 rfl h
def f_X0_init (v0 : Nat) (M : jM) : jO Unit :=
  jb2 (nA 100 M (nI 9)) fun a1 M2 =>
  (pR 0 M2 v0 0 a1).bind fun M3 =>
  (pI 0 M3 v0 1 (nI 0)).bind fun M4 =>
  (pI 0 M4 v0 2 (nI 0)).bind fun M5 =>
  rt () M5
theorem s_X0_init {G : jG} {d : Nat} (hd_ : 1 ≤ d) {v0 : Nat} {M : jM} {b : Unit × jM} (h : f_X0_init  v0 M = some b) : V G m_X0_init d 0 [(0, .ref v0)] [] M (jQb cU b) := by
  unfold f_X0_init at h
  refine v_aload_n dX0_init_0 rfl 0 rfl ?_
  refine x_objInit (by omega) dX0_init_1 ko_X0 rfl ?_
  refine v_aload_n dX0_init_4 rfl 0 rfl ?_
  refine v_bipush dX0_init_5 bp_9 ?_
  refine x_nI dX0_init_7 ka_int h (fun a1 M2 h => ?_)
  refine x_pR dX0_init_9 kf_X0_9 rfl (fun _ => ⟨rfl, fun r hr => by cases hr; rfl⟩) (fun _ => rfl) (fun _ => rfl) h (fun M3 h => ?_)
  refine v_aload_n dX0_init_12 rfl 0 rfl ?_
  refine v_iconst dX0_init_13 ic_0 ?_
  refine x_pI dX0_init_14 kf_X0_15 rfl (fun q => Bool.noConfusion q) h (fun M4 h => ?_)
  refine v_aload_n dX0_init_17 rfl 0 rfl ?_
  refine v_iconst dX0_init_18 ic_0 ?_
  refine x_pI dX0_init_19 kf_X0_19 rfl (fun q => Bool.noConfusion q) h (fun M5 h => ?_)
  exact x_vret dX0_init_22 rfl h
def f_X10_init (v0 : Nat) (M : jM) : jO Unit :=
  jb2 (nA 101 M (nI 1300)) fun a1 M2 =>
  (pR 9 M2 v0 0 a1).bind fun M3 =>
  (pI 9 M3 v0 1 (nI 0)).bind fun M4 =>
  rt () M4
theorem s_X10_init {G : jG} {d : Nat} (hd_ : 1 ≤ d) {v0 : Nat} {M : jM} {b : Unit × jM} (h : f_X10_init  v0 M = some b) : V G m_X10_init d 0 [(0, .ref v0)] [] M (jQb cU b) := by
  unfold f_X10_init at h
  refine v_aload_n dX10_init_0 rfl 0 rfl ?_
  refine x_objInit (by omega) dX10_init_1 ko_X10 rfl ?_
  refine v_aload_n dX10_init_4 rfl 0 rfl ?_
  refine v_sipush dX10_init_5 sp_1300 ?_
  refine x_nB dX10_init_8 ka_byte h (fun a1 M2 h => ?_)
  refine x_pR dX10_init_10 kf_X10_9 rfl (fun _ => ⟨rfl, fun r hr => by cases hr; rfl⟩) (fun _ => rfl) (fun _ => rfl) h (fun M3 h => ?_)
  refine v_aload_n dX10_init_13 rfl 0 rfl ?_
  refine v_iconst dX10_init_14 ic_0 ?_
  refine x_pI dX10_init_15 kf_X10_15 rfl (fun q => Bool.noConfusion q) h (fun M4 h => ?_)
  exact x_vret dX10_init_18 rfl h
def f_X1_init (v0 : Nat) (M : jM) : jO Unit :=
  jb2 (nA 100 M (nI 72)) fun a1 M2 =>
  (pR 1 M2 v0 0 a1).bind fun M3 =>
  jb2 (nA 100 M3 (nI 72)) fun a4 M5 =>
  (pR 1 M5 v0 1 a4).bind fun M6 =>
  jb2 (nA 102 M6 (nI 288)) fun a7 M8 =>
  (pR 1 M8 v0 2 a7).bind fun M9 =>
  jb2 (nA 100 M9 (nI 72)) fun a10 M11 =>
  (pR 1 M11 v0 3 a10).bind fun M12 =>
  (pI 1 M12 v0 4 (nI 0)).bind fun M13 =>
  (pI 1 M13 v0 5 (nI 0)).bind fun M14 =>
  (pI 1 M14 v0 6 (nI 0)).bind fun M15 =>
  (pI 1 M15 v0 7 (nI 0)).bind fun M16 =>
  rt () M16
theorem s_X1_init {G : jG} {d : Nat} (hd_ : 1 ≤ d) {v0 : Nat} {M : jM} {b : Unit × jM} (h : f_X1_init  v0 M = some b) : V G m_X1_init d 0 [(0, .ref v0)] [] M (jQb cU b) := by
  unfold f_X1_init at h
  refine v_aload_n dX1_init_0 rfl 0 rfl ?_
  refine x_objInit (by omega) dX1_init_1 ko_X1 rfl ?_
  refine v_aload_n dX1_init_4 rfl 0 rfl ?_
  refine v_bipush dX1_init_5 bp_72 ?_
  refine x_nI dX1_init_7 ka_int h (fun a1 M2 h => ?_)
  refine x_pR dX1_init_9 kf_X1_9 rfl (fun _ => ⟨rfl, fun r hr => by cases hr; rfl⟩) (fun _ => rfl) (fun _ => rfl) h (fun M3 h => ?_)
  refine v_aload_n dX1_init_12 rfl 0 rfl ?_
  refine v_bipush dX1_init_13 bp_72 ?_
  refine x_nI dX1_init_15 ka_int h (fun a4 M5 h => ?_)
  refine x_pR dX1_init_17 kf_X1_15 rfl (fun _ => ⟨rfl, fun r hr => by cases hr; rfl⟩) (fun _ => rfl) (fun _ => rfl) h (fun M6 h => ?_)
  refine v_aload_n dX1_init_20 rfl 0 rfl ?_
  refine v_sipush dX1_init_21 sp_288 ?_
  refine x_nJ dX1_init_24 ka_long h (fun a7 M8 h => ?_)
  refine x_pR dX1_init_26 kf_X1_18 rfl (fun _ => ⟨rfl, fun r hr => by cases hr; rfl⟩) (fun _ => rfl) (fun _ => rfl) h (fun M9 h => ?_)
  refine v_aload_n dX1_init_29 rfl 0 rfl ?_
  refine v_bipush dX1_init_30 bp_72 ?_
  refine x_nI dX1_init_32 ka_int h (fun a10 M11 h => ?_)
  refine x_pR dX1_init_34 kf_X1_22 rfl (fun _ => ⟨rfl, fun r hr => by cases hr; rfl⟩) (fun _ => rfl) (fun _ => rfl) h (fun M12 h => ?_)
  refine v_aload_n dX1_init_37 rfl 0 rfl ?_
  refine v_iconst dX1_init_38 ic_0 ?_
  refine x_pI dX1_init_39 kf_X1_25 rfl (fun q => Bool.noConfusion q) h (fun M13 h => ?_)
  refine v_aload_n dX1_init_42 rfl 0 rfl ?_
  refine v_iconst dX1_init_43 ic_0 ?_
  refine x_pI dX1_init_44 kf_X1_29 rfl (fun q => Bool.noConfusion q) h (fun M14 h => ?_)
  refine v_aload_n dX1_init_47 rfl 0 rfl ?_
  refine v_iconst dX1_init_48 ic_0 ?_
  refine x_pI dX1_init_49 kf_X1_32 rfl (fun q => Bool.noConfusion q) h (fun M15 h => ?_)
  refine v_aload_n dX1_init_52 rfl 0 rfl ?_
  refine v_iconst dX1_init_53 ic_0 ?_
  refine x_pI dX1_init_54 kf_X1_35 rfl (fun q => Bool.noConfusion q) h (fun M16 h => ?_)
  exact x_vret dX1_init_57 rfl h
def f_X2_init (v0 : Nat) (M : jM) : jO Unit :=
  jb2 (nA 100 M (nI 12)) fun a1 M2 =>
  (pR 2 M2 v0 0 a1).bind fun M3 =>
  jb2 (nA 100 M3 (nI 12)) fun a4 M5 =>
  (pR 2 M5 v0 1 a4).bind fun M6 =>
  (pI 2 M6 v0 2 (nI 0)).bind fun M7 =>
  rt () M7
theorem s_X2_init {G : jG} {d : Nat} (hd_ : 1 ≤ d) {v0 : Nat} {M : jM} {b : Unit × jM} (h : f_X2_init  v0 M = some b) : V G m_X2_init d 0 [(0, .ref v0)] [] M (jQb cU b) := by
  unfold f_X2_init at h
  refine v_aload_n dX2_init_0 rfl 0 rfl ?_
  refine x_objInit (by omega) dX2_init_1 ko_X2 rfl ?_
  refine v_aload_n dX2_init_4 rfl 0 rfl ?_
  refine v_bipush dX2_init_5 bp_12 ?_
  refine x_nI dX2_init_7 ka_int h (fun a1 M2 h => ?_)
  refine x_pR dX2_init_9 kf_X2_9 rfl (fun _ => ⟨rfl, fun r hr => by cases hr; rfl⟩) (fun _ => rfl) (fun _ => rfl) h (fun M3 h => ?_)
  refine v_aload_n dX2_init_12 rfl 0 rfl ?_
  refine v_bipush dX2_init_13 bp_12 ?_
  refine x_nI dX2_init_15 ka_int h (fun a4 M5 h => ?_)
  refine x_pR dX2_init_17 kf_X2_15 rfl (fun _ => ⟨rfl, fun r hr => by cases hr; rfl⟩) (fun _ => rfl) (fun _ => rfl) h (fun M6 h => ?_)
  refine v_aload_n dX2_init_20 rfl 0 rfl ?_
  refine v_iconst dX2_init_21 ic_0 ?_
  refine x_pI dX2_init_22 kf_X2_18 rfl (fun q => Bool.noConfusion q) h (fun M7 h => ?_)
  exact x_vret dX2_init_25 rfl h
def f_X9_init (v0 : Nat) (M : jM) : jO Unit :=
  (pI 8 M v0 0 (nI 0)).bind fun M1 =>
  jb2 (nA 100 M1 (nI 6)) fun a2 M3 =>
  (pR 8 M3 v0 1 a2).bind fun M4 =>
  jb2 (nA 100 M4 (nI 6)) fun a5 M6 =>
  (pR 8 M6 v0 2 a5).bind fun M7 =>
  rt () M7
theorem s_X9_init {G : jG} {d : Nat} (hd_ : 1 ≤ d) {v0 : Nat} {M : jM} {b : Unit × jM} (h : f_X9_init  v0 M = some b) : V G m_X9_init d 0 [(0, .ref v0)] [] M (jQb cU b) := by
  unfold f_X9_init at h
  refine v_aload_n dX9_init_0 rfl 0 rfl ?_
  refine x_objInit (by omega) dX9_init_1 ko_X9 rfl ?_
  refine v_aload_n dX9_init_4 rfl 0 rfl ?_
  refine v_iconst dX9_init_5 ic_0 ?_
  refine x_pI dX9_init_6 kf_X9_9 rfl (fun q => Bool.noConfusion q) h (fun M1 h => ?_)
  refine v_aload_n dX9_init_9 rfl 0 rfl ?_
  refine v_bipush dX9_init_10 bp_6 ?_
  refine x_nI dX9_init_12 ka_int h (fun a2 M3 h => ?_)
  refine x_pR dX9_init_14 kf_X9_15 rfl (fun _ => ⟨rfl, fun r hr => by cases hr; rfl⟩) (fun _ => rfl) (fun _ => rfl) h (fun M4 h => ?_)
  refine v_aload_n dX9_init_17 rfl 0 rfl ?_
  refine v_bipush dX9_init_18 bp_6 ?_
  refine x_nI dX9_init_20 ka_int h (fun a5 M6 h => ?_)
  refine x_pR dX9_init_22 kf_X9_19 rfl (fun _ => ⟨rfl, fun r hr => by cases hr; rfl⟩) (fun _ => rfl) (fun _ => rfl) h (fun M7 h => ?_)
  exact x_vret dX9_init_25 rfl h
def f_X3_init (v0 : Nat) (M : jM) : jO Unit :=
  jb2 (nO 8 M) fun a1 M2 =>
  jb2 (f_X9_init a1 M2) fun _ M3 =>
  (pR 3 M3 v0 0 a1).bind fun M4 =>
  jb2 (nO 8 M4) fun a5 M6 =>
  jb2 (f_X9_init a5 M6) fun _ M7 =>
  (pR 3 M7 v0 1 a5).bind fun M8 =>
  jb2 (nA 100 M8 (nI 12)) fun a9 M10 =>
  (pR 3 M10 v0 2 a9).bind fun M11 =>
  jb2 (nA 100 M11 (nI 72)) fun a12 M13 =>
  (pR 3 M13 v0 3 a12).bind fun M14 =>
  jb2 (nA 100 M14 (nI 6)) fun a15 M16 =>
  (pR 3 M16 v0 4 a15).bind fun M17 =>
  (pI 3 M17 v0 5 (nI 0)).bind fun M18 =>
  jb2 (nA 100 M18 (nI 36)) fun a19 M20 =>
  (pR 3 M20 v0 6 a19).bind fun M21 =>
  rt () M21
theorem s_X3_init {G : jG} {d : Nat} (hd_ : 2 ≤ d) {v0 : Nat} {M : jM} {b : Unit × jM} (h : f_X3_init  v0 M = some b) : V G m_X3_init d 0 [(0, .ref v0)] [] M (jQb cU b) := by
  unfold f_X3_init at h
  refine v_aload_n dX3_init_0 rfl 0 rfl ?_
  refine x_objInit (by omega) dX3_init_1 ko_X3 rfl ?_
  refine v_aload_n dX3_init_4 rfl 0 rfl ?_
  refine x_nO dX3_init_5 kc_X3_9 h (fun a1 M2 h => ?_)
  refine v_dup dX3_init_8 rfl ?_
  refine x_invI (cv := cU) (As := []) (rest := [.ref a1, .ref v0]) (ls2 := [(0, .ref a1)]) (by omega) dX3_init_9 ke_X9_init rfl rfl ki_X3_11.1 ki_X3_11.2 (Nat.le_of_ble_eq_true rfl) rfl rfl rfl rfl h (fun _ hq => s_X9_init (by omega) hq) (fun _ M3 h => ?_)
  refine x_pR dX3_init_12 kf_X3_12 rfl (fun _ => ⟨rfl, fun r hr => by cases hr; rfl⟩) (fun _ => rfl) (fun _ => rfl) h (fun M4 h => ?_)
  refine v_aload_n dX3_init_15 rfl 0 rfl ?_
  refine x_nO dX3_init_16 kc_X3_9 h (fun a5 M6 h => ?_)
  refine v_dup dX3_init_19 rfl ?_
  refine x_invI (cv := cU) (As := []) (rest := [.ref a5, .ref v0]) (ls2 := [(0, .ref a5)]) (by omega) dX3_init_20 ke_X9_init rfl rfl ki_X3_11.1 ki_X3_11.2 (Nat.le_of_ble_eq_true rfl) rfl rfl rfl rfl h (fun _ hq => s_X9_init (by omega) hq) (fun _ M7 h => ?_)
  refine x_pR dX3_init_23 kf_X3_18 rfl (fun _ => ⟨rfl, fun r hr => by cases hr; rfl⟩) (fun _ => rfl) (fun _ => rfl) h (fun M8 h => ?_)
  refine v_aload_n dX3_init_26 rfl 0 rfl ?_
  refine v_bipush dX3_init_27 bp_12 ?_
  refine x_nI dX3_init_29 ka_int h (fun a9 M10 h => ?_)
  refine x_pR dX3_init_31 kf_X3_21 rfl (fun _ => ⟨rfl, fun r hr => by cases hr; rfl⟩) (fun _ => rfl) (fun _ => rfl) h (fun M11 h => ?_)
  refine v_aload_n dX3_init_34 rfl 0 rfl ?_
  refine v_bipush dX3_init_35 bp_72 ?_
  refine x_nI dX3_init_37 ka_int h (fun a12 M13 h => ?_)
  refine x_pR dX3_init_39 kf_X3_25 rfl (fun _ => ⟨rfl, fun r hr => by cases hr; rfl⟩) (fun _ => rfl) (fun _ => rfl) h (fun M14 h => ?_)
  refine v_aload_n dX3_init_42 rfl 0 rfl ?_
  refine v_bipush dX3_init_43 bp_6 ?_
  refine x_nI dX3_init_45 ka_int h (fun a15 M16 h => ?_)
  refine x_pR dX3_init_47 kf_X3_28 rfl (fun _ => ⟨rfl, fun r hr => by cases hr; rfl⟩) (fun _ => rfl) (fun _ => rfl) h (fun M17 h => ?_)
  refine v_aload_n dX3_init_50 rfl 0 rfl ?_
  refine v_iconst dX3_init_51 ic_0 ?_
  refine x_pI dX3_init_52 kf_X3_31 rfl (fun q => Bool.noConfusion q) h (fun M18 h => ?_)
  refine v_aload_n dX3_init_55 rfl 0 rfl ?_
  refine v_bipush dX3_init_56 bp_36 ?_
  refine x_nI dX3_init_58 ka_int h (fun a19 M20 h => ?_)
  refine x_pR dX3_init_60 kf_X3_35 rfl (fun _ => ⟨rfl, fun r hr => by cases hr; rfl⟩) (fun _ => rfl) (fun _ => rfl) h (fun M21 h => ?_)
  exact x_vret dX3_init_63 rfl h
def f_X4_init (v0 : Nat) (M : jM) : jO Unit :=
  jb2 (nA 100 M (nI 800)) fun a1 M2 =>
  (pR 4 M2 v0 0 a1).bind fun M3 =>
  (pI 4 M3 v0 1 (nI 0)).bind fun M4 =>
  rt () M4
theorem s_X4_init {G : jG} {d : Nat} (hd_ : 1 ≤ d) {v0 : Nat} {M : jM} {b : Unit × jM} (h : f_X4_init  v0 M = some b) : V G m_X4_init d 0 [(0, .ref v0)] [] M (jQb cU b) := by
  unfold f_X4_init at h
  refine v_aload_n dX4_init_0 rfl 0 rfl ?_
  refine x_objInit (by omega) dX4_init_1 ko_X4 rfl ?_
  refine v_aload_n dX4_init_4 rfl 0 rfl ?_
  refine v_sipush dX4_init_5 sp_800 ?_
  refine x_nI dX4_init_8 ka_int h (fun a1 M2 h => ?_)
  refine x_pR dX4_init_10 kf_X4_9 rfl (fun _ => ⟨rfl, fun r hr => by cases hr; rfl⟩) (fun _ => rfl) (fun _ => rfl) h (fun M3 h => ?_)
  refine v_aload_n dX4_init_13 rfl 0 rfl ?_
  refine v_iconst dX4_init_14 ic_0 ?_
  refine x_pI dX4_init_15 kf_X4_15 rfl (fun q => Bool.noConfusion q) h (fun M4 h => ?_)
  exact x_vret dX4_init_18 rfl h
def f_X6_init (v0 : Nat) (M : jM) : jO Unit :=
  jb2 (nO 3 M) fun a1 M2 =>
  jb2 (f_X3_init a1 M2) fun _ M3 =>
  (pR 5 M3 v0 0 a1).bind fun M4 =>
  (pI 5 M4 v0 1 (nI 0)).bind fun M5 =>
  (pI 5 M5 v0 2 (nI 0)).bind fun M6 =>
  (pI 5 M6 v0 3 (nI 0)).bind fun M7 =>
  (pI 5 M7 v0 4 (nI 0)).bind fun M8 =>
  rt () M8
theorem s_X6_init {G : jG} {d : Nat} (hd_ : 3 ≤ d) {v0 : Nat} {M : jM} {b : Unit × jM} (h : f_X6_init  v0 M = some b) : V G m_X6_init d 0 [(0, .ref v0)] [] M (jQb cU b) := by
  unfold f_X6_init at h
  refine v_aload_n dX6_init_0 rfl 0 rfl ?_
  refine x_objInit (by omega) dX6_init_1 ko_X6 rfl ?_
  refine v_aload_n dX6_init_4 rfl 0 rfl ?_
  refine x_nO dX6_init_5 kc_X6_9 h (fun a1 M2 h => ?_)
  refine v_dup dX6_init_8 rfl ?_
  refine x_invI (cv := cU) (As := []) (rest := [.ref a1, .ref v0]) (ls2 := [(0, .ref a1)]) (by omega) dX6_init_9 ke_X3_init rfl rfl ki_X6_11.1 ki_X6_11.2 (Nat.le_of_ble_eq_true rfl) rfl rfl rfl rfl h (fun _ hq => s_X3_init (by omega) hq) (fun _ M3 h => ?_)
  refine x_pR dX6_init_12 kf_X6_12 rfl (fun _ => ⟨rfl, fun r hr => by cases hr; rfl⟩) (fun _ => rfl) (fun _ => rfl) h (fun M4 h => ?_)
  refine v_aload_n dX6_init_15 rfl 0 rfl ?_
  refine v_iconst dX6_init_16 ic_0 ?_
  refine x_pI dX6_init_17 kf_X6_18 rfl (fun q => Bool.noConfusion q) h (fun M5 h => ?_)
  refine v_aload_n dX6_init_20 rfl 0 rfl ?_
  refine v_iconst dX6_init_21 ic_0 ?_
  refine x_pI dX6_init_22 kf_X6_22 rfl (fun q => Bool.noConfusion q) h (fun M6 h => ?_)
  refine v_aload_n dX6_init_25 rfl 0 rfl ?_
  refine v_iconst dX6_init_26 ic_0 ?_
  refine x_pI dX6_init_27 kf_X6_25 rfl (fun q => Bool.noConfusion q) h (fun M7 h => ?_)
  refine v_aload_n dX6_init_30 rfl 0 rfl ?_
  refine v_iconst dX6_init_31 ic_0 ?_
  refine x_pI dX6_init_32 kf_X6_28 rfl (fun q => Bool.noConfusion q) h (fun M8 h => ?_)
  exact x_vret dX6_init_35 rfl h
def f_X8_init (v0 : Nat) (M : jM) : jO Unit :=
  jb2 (nA 101 M (nI 800)) fun a1 M2 =>
  (pR 7 M2 v0 0 a1).bind fun M3 =>
  (pI 7 M3 v0 1 (nI 0)).bind fun M4 =>
  (pI 7 M4 v0 2 (nI 0)).bind fun M5 =>
  (pI 7 M5 v0 3 (-1 : Int32)).bind fun M6 =>
  jb2 (nA 100 M6 (nI 8)) fun a7 M8 =>
  (pR 7 M8 v0 4 a7).bind fun M9 =>
  rt () M9
theorem s_X8_init {G : jG} {d : Nat} (hd_ : 1 ≤ d) {v0 : Nat} {M : jM} {b : Unit × jM} (h : f_X8_init  v0 M = some b) : V G m_X8_init d 0 [(0, .ref v0)] [] M (jQb cU b) := by
  unfold f_X8_init at h
  refine v_aload_n dX8_init_0 rfl 0 rfl ?_
  refine x_objInit (by omega) dX8_init_1 ko_X8 rfl ?_
  refine v_aload_n dX8_init_4 rfl 0 rfl ?_
  refine v_sipush dX8_init_5 sp_800 ?_
  refine x_nB dX8_init_8 ka_byte h (fun a1 M2 h => ?_)
  refine x_pR dX8_init_10 kf_X8_9 rfl (fun _ => ⟨rfl, fun r hr => by cases hr; rfl⟩) (fun _ => rfl) (fun _ => rfl) h (fun M3 h => ?_)
  refine v_aload_n dX8_init_13 rfl 0 rfl ?_
  refine v_iconst dX8_init_14 ic_0 ?_
  refine x_pI dX8_init_15 kf_X8_15 rfl (fun q => Bool.noConfusion q) h (fun M4 h => ?_)
  refine v_aload_n dX8_init_18 rfl 0 rfl ?_
  refine v_iconst dX8_init_19 ic_0 ?_
  refine x_pI dX8_init_20 kf_X8_19 rfl (fun q => Bool.noConfusion q) h (fun M5 h => ?_)
  refine v_aload_n dX8_init_23 rfl 0 rfl ?_
  refine v_iconst dX8_init_24 ic_m1 ?_
  refine x_pI dX8_init_25 kf_X8_22 rfl (fun q => Bool.noConfusion q) h (fun M6 h => ?_)
  refine v_aload_n dX8_init_28 rfl 0 rfl ?_
  refine v_bipush dX8_init_29 bp_8 ?_
  refine x_nI dX8_init_31 ka_int h (fun a7 M8 h => ?_)
  refine x_pR dX8_init_33 kf_X8_25 rfl (fun _ => ⟨rfl, fun r hr => by cases hr; rfl⟩) (fun _ => rfl) (fun _ => rfl) h (fun M9 h => ?_)
  exact x_vret dX8_init_36 rfl h
def b_X11_init_128  (k128 : Nat → Int32 → jM → jO Unit) (v0 : Nat) (v1 : Int32) (M : jM) : jO Unit :=
  if (nI 6) ≤ v1 then
    rt () M
  else
    (gR 10 M v0 0).bind fun r1 =>
    jb2 (nO 8 M) fun a2 M3 =>
    jb2 (f_X9_init a2 M3) fun _ M4 =>
    (stA 103 8 M4 r1 v1 a2).bind fun M5 =>
    k128 v0 (v1 + (nI 1)) M5
def l_X11_init_128  : Nat → Nat → Int32 → jM → jO Unit
  | 0 => fun _ _ _ => none
  | n + 1 => b_X11_init_128  (l_X11_init_128  n)
theorem tb_X11_init_128 {G : jG} {d : Nat} (hd_ : 4 ≤ d)  {k128 : Nat → Int32 → jM → jO Unit} (hk128 : ∀ (w0 : Nat) (w1 : Int32) (M : jM) (b : Unit × jM), k128 w0 w1 M = some b → V G m_X11_init d 128 [(0, .ref w0), (1, .int w1)] [] M (jQb cU b)) {v0 : Nat} {v1 : Int32} {M : jM} {b : Unit × jM} (h : b_X11_init_128  k128 v0 v1 M = some b) : V G m_X11_init d 128 [(0, .ref v0), (1, .int v1)] [] M (jQb cU b) := by
  unfold b_X11_init_128 at h
  refine v_iload_n dX11_init_128 rfl 1 rfl ?_
  refine v_bipush dX11_init_129 bp_6 ?_
  refine x_ic_ge (tgt := 153) dX11_init_131 (by decide) h (fun h => ?_) (fun h => ?_)
  · exact x_vret dX11_init_153 rfl h
  · refine v_aload_n dX11_init_134 rfl 0 rfl ?_
    refine x_gR dX11_init_135 kf_X11_11 rfl h (fun r1 h => ?_)
    refine v_iload_n dX11_init_138 rfl 1 rfl ?_
    refine x_nO dX11_init_139 kc_X11_9 h (fun a2 M3 h => ?_)
    refine v_dup dX11_init_142 rfl ?_
    refine x_invI (cv := cU) (As := []) (rest := [.ref a2, .int v1, .ref r1]) (ls2 := [(0, .ref a2)]) (by omega) dX11_init_143 ke_X9_init rfl rfl ki_X11_15.1 ki_X11_15.2 (Nat.le_of_ble_eq_true rfl) rfl rfl rfl rfl h (fun _ hq => s_X9_init (by omega) hq) (fun _ M4 h => ?_)
    refine x_stA dX11_init_146 (by decide) h (fun M5 h => ?_)
    refine v_iincC (ls2 := [(1, .int (v1 + (nI 1))), (0, .ref v0)]) dX11_init_147 ic_1 1 rfl (by decide) rfl ?_
    refine v_goto (tgt := 128) dX11_init_150 (by decide) ?_
    exact V.pick [1, 0] rfl (hk128 _ _ _ _ h)
theorem t_X11_init_128 {G : jG} {d : Nat} (hd_ : 4 ≤ d)  : ∀ (n : Nat) (v0 : Nat) (v1 : Int32) (M : jM) (b : Unit × jM), l_X11_init_128  n v0 v1 M = some b → V G m_X11_init d 128 [(0, .ref v0), (1, .int v1)] [] M (jQb cU b) := by
  intro n
  induction n with
  | zero => intro v0 v1 M b h; exact nomatch (show (none : jO Unit) = some b from h)
  | succ n ih => intro v0 v1 M b h; exact tb_X11_init_128 hd_  ih h
def f_X11_init (v0 : Nat) (M : jM) : jO Unit :=
  jb2 (nA 103 M (nI 6)) fun a1 M2 =>
  (pR 10 M2 v0 0 a1).bind fun M3 =>
  jb2 (nO 8 M3) fun a4 M5 =>
  jb2 (f_X9_init a4 M5) fun _ M6 =>
  (pR 10 M6 v0 1 a4).bind fun M7 =>
  jb2 (nO 3 M7) fun a8 M9 =>
  jb2 (f_X3_init a8 M9) fun _ M10 =>
  (pR 10 M10 v0 2 a8).bind fun M11 =>
  jb2 (nO 5 M11) fun a12 M13 =>
  jb2 (f_X6_init a12 M13) fun _ M14 =>
  (pR 10 M14 v0 3 a12).bind fun M15 =>
  jb2 (nO 7 M15) fun a16 M17 =>
  jb2 (f_X8_init a16 M17) fun _ M18 =>
  (pR 10 M18 v0 4 a16).bind fun M19 =>
  jb2 (nO 4 M19) fun a20 M21 =>
  jb2 (f_X4_init a20 M21) fun _ M22 =>
  (pR 10 M22 v0 5 a20).bind fun M23 =>
  jb2 (nO 9 M23) fun a24 M25 =>
  jb2 (f_X10_init a24 M25) fun _ M26 =>
  (pR 10 M26 v0 6 a24).bind fun M27 =>
  jb2 (nO 0 M27) fun a28 M29 =>
  jb2 (f_X0_init a28 M29) fun _ M30 =>
  (pR 10 M30 v0 7 a28).bind fun M31 =>
  jb2 (nA 104 M31 (nI 20)) fun a32 M33 =>
  (pR 10 M33 v0 8 a32).bind fun M34 =>
  (pI 10 M34 v0 9 (nI 0)).bind fun M35 =>
  jb2 (nO 2 M35) fun a36 M37 =>
  jb2 (f_X2_init a36 M37) fun _ M38 =>
  (pR 10 M38 v0 10 a36).bind fun M39 =>
  jb2 (nO 1 M39) fun a40 M41 =>
  jb2 (f_X1_init a40 M41) fun _ M42 =>
  (pR 10 M42 v0 11 a40).bind fun M43 =>
  l_X11_init_128 jF0 v0 (nI 0) M43
theorem s_X11_init {G : jG} {d : Nat} (hd_ : 4 ≤ d) {v0 : Nat} {M : jM} {b : Unit × jM} (h : f_X11_init  v0 M = some b) : V G m_X11_init d 0 [(0, .ref v0)] [] M (jQb cU b) := by
  unfold f_X11_init at h
  refine v_aload_n dX11_init_0 rfl 0 rfl ?_
  refine x_objInit (by omega) dX11_init_1 ko_X11 rfl ?_
  refine v_aload_n dX11_init_4 rfl 0 rfl ?_
  refine v_bipush dX11_init_5 bp_6 ?_
  refine x_nR (t := 103) (C := "TwoWorlds$World") dX11_init_7 (jw1 26 (by decide +kernel) (by decide +kernel)) (by decide) h (fun a1 M2 h => ?_)
  refine x_pR dX11_init_10 kf_X11_11 rfl (fun _ => ⟨rfl, fun r hr => by cases hr; rfl⟩) (fun _ => rfl) (fun _ => rfl) h (fun M3 h => ?_)
  refine v_aload_n dX11_init_13 rfl 0 rfl ?_
  refine x_nO dX11_init_14 kc_X11_9 h (fun a4 M5 h => ?_)
  refine v_dup dX11_init_17 rfl ?_
  refine x_invI (cv := cU) (As := []) (rest := [.ref a4, .ref v0]) (ls2 := [(0, .ref a4)]) (by omega) dX11_init_18 ke_X9_init rfl rfl ki_X11_15.1 ki_X11_15.2 (Nat.le_of_ble_eq_true rfl) rfl rfl rfl rfl h (fun _ hq => s_X9_init (by omega) hq) (fun _ M6 h => ?_)
  refine x_pR dX11_init_21 kf_X11_16 rfl (fun _ => ⟨rfl, fun r hr => by cases hr; rfl⟩) (fun _ => rfl) (fun _ => rfl) h (fun M7 h => ?_)
  refine v_aload_n dX11_init_24 rfl 0 rfl ?_
  refine x_nO dX11_init_25 kc_X11_20 h (fun a8 M9 h => ?_)
  refine v_dup dX11_init_28 rfl ?_
  refine x_invI (cv := cU) (As := []) (rest := [.ref a8, .ref v0]) (ls2 := [(0, .ref a8)]) (by omega) dX11_init_29 ke_X3_init rfl rfl ki_X11_22.1 ki_X11_22.2 (Nat.le_of_ble_eq_true rfl) rfl rfl rfl rfl h (fun _ hq => s_X3_init (by omega) hq) (fun _ M10 h => ?_)
  refine x_pR dX11_init_32 kf_X11_23 rfl (fun _ => ⟨rfl, fun r hr => by cases hr; rfl⟩) (fun _ => rfl) (fun _ => rfl) h (fun M11 h => ?_)
  refine v_aload_n dX11_init_35 rfl 0 rfl ?_
  refine x_nO dX11_init_36 kc_X11_27 h (fun a12 M13 h => ?_)
  refine v_dup dX11_init_39 rfl ?_
  refine x_invI (cv := cU) (As := []) (rest := [.ref a12, .ref v0]) (ls2 := [(0, .ref a12)]) (by omega) dX11_init_40 ke_X6_init rfl rfl ki_X11_29.1 ki_X11_29.2 (Nat.le_of_ble_eq_true rfl) rfl rfl rfl rfl h (fun _ hq => s_X6_init (by omega) hq) (fun _ M14 h => ?_)
  refine x_pR dX11_init_43 kf_X11_30 rfl (fun _ => ⟨rfl, fun r hr => by cases hr; rfl⟩) (fun _ => rfl) (fun _ => rfl) h (fun M15 h => ?_)
  refine v_aload_n dX11_init_46 rfl 0 rfl ?_
  refine x_nO dX11_init_47 kc_X11_34 h (fun a16 M17 h => ?_)
  refine v_dup dX11_init_50 rfl ?_
  refine x_invI (cv := cU) (As := []) (rest := [.ref a16, .ref v0]) (ls2 := [(0, .ref a16)]) (by omega) dX11_init_51 ke_X8_init rfl rfl ki_X11_36.1 ki_X11_36.2 (Nat.le_of_ble_eq_true rfl) rfl rfl rfl rfl h (fun _ hq => s_X8_init (by omega) hq) (fun _ M18 h => ?_)
  refine x_pR dX11_init_54 kf_X11_37 rfl (fun _ => ⟨rfl, fun r hr => by cases hr; rfl⟩) (fun _ => rfl) (fun _ => rfl) h (fun M19 h => ?_)
  refine v_aload_n dX11_init_57 rfl 0 rfl ?_
  refine x_nO dX11_init_58 kc_X11_41 h (fun a20 M21 h => ?_)
  refine v_dup dX11_init_61 rfl ?_
  refine x_invI (cv := cU) (As := []) (rest := [.ref a20, .ref v0]) (ls2 := [(0, .ref a20)]) (by omega) dX11_init_62 ke_X4_init rfl rfl ki_X11_43.1 ki_X11_43.2 (Nat.le_of_ble_eq_true rfl) rfl rfl rfl rfl h (fun _ hq => s_X4_init (by omega) hq) (fun _ M22 h => ?_)
  refine x_pR dX11_init_65 kf_X11_44 rfl (fun _ => ⟨rfl, fun r hr => by cases hr; rfl⟩) (fun _ => rfl) (fun _ => rfl) h (fun M23 h => ?_)
  refine v_aload_n dX11_init_68 rfl 0 rfl ?_
  refine x_nO dX11_init_69 kc_X11_48 h (fun a24 M25 h => ?_)
  refine v_dup dX11_init_72 rfl ?_
  refine x_invI (cv := cU) (As := []) (rest := [.ref a24, .ref v0]) (ls2 := [(0, .ref a24)]) (by omega) dX11_init_73 ke_X10_init rfl rfl ki_X11_50.1 ki_X11_50.2 (Nat.le_of_ble_eq_true rfl) rfl rfl rfl rfl h (fun _ hq => s_X10_init (by omega) hq) (fun _ M26 h => ?_)
  refine x_pR dX11_init_76 kf_X11_51 rfl (fun _ => ⟨rfl, fun r hr => by cases hr; rfl⟩) (fun _ => rfl) (fun _ => rfl) h (fun M27 h => ?_)
  refine v_aload_n dX11_init_79 rfl 0 rfl ?_
  refine x_nO dX11_init_80 kc_X11_55 h (fun a28 M29 h => ?_)
  refine v_dup dX11_init_83 rfl ?_
  refine x_invI (cv := cU) (As := []) (rest := [.ref a28, .ref v0]) (ls2 := [(0, .ref a28)]) (by omega) dX11_init_84 ke_X0_init rfl rfl ki_X11_57.1 ki_X11_57.2 (Nat.le_of_ble_eq_true rfl) rfl rfl rfl rfl h (fun _ hq => s_X0_init (by omega) hq) (fun _ M30 h => ?_)
  refine x_pR dX11_init_87 kf_X11_58 rfl (fun _ => ⟨rfl, fun r hr => by cases hr; rfl⟩) (fun _ => rfl) (fun _ => rfl) h (fun M31 h => ?_)
  refine v_aload_n dX11_init_90 rfl 0 rfl ?_
  refine v_bipush dX11_init_91 bp_20 ?_
  refine x_nR (t := 104) (C := "TwoWorlds$Sentence") dX11_init_93 (jw1 163 (by decide +kernel) (by decide +kernel)) (by decide) h (fun a32 M33 h => ?_)
  refine x_pR dX11_init_96 kf_X11_64 rfl (fun _ => ⟨rfl, fun r hr => by cases hr; rfl⟩) (fun _ => rfl) (fun _ => rfl) h (fun M34 h => ?_)
  refine v_aload_n dX11_init_99 rfl 0 rfl ?_
  refine v_iconst dX11_init_100 ic_0 ?_
  refine x_pI dX11_init_101 kf_X11_68 rfl (fun q => Bool.noConfusion q) h (fun M35 h => ?_)
  refine v_aload_n dX11_init_104 rfl 0 rfl ?_
  refine x_nO dX11_init_105 kc_X11_72 h (fun a36 M37 h => ?_)
  refine v_dup dX11_init_108 rfl ?_
  refine x_invI (cv := cU) (As := []) (rest := [.ref a36, .ref v0]) (ls2 := [(0, .ref a36)]) (by omega) dX11_init_109 ke_X2_init rfl rfl ki_X11_74.1 ki_X11_74.2 (Nat.le_of_ble_eq_true rfl) rfl rfl rfl rfl h (fun _ hq => s_X2_init (by omega) hq) (fun _ M38 h => ?_)
  refine x_pR dX11_init_112 kf_X11_75 rfl (fun _ => ⟨rfl, fun r hr => by cases hr; rfl⟩) (fun _ => rfl) (fun _ => rfl) h (fun M39 h => ?_)
  refine v_aload_n dX11_init_115 rfl 0 rfl ?_
  refine x_nO dX11_init_116 kc_X11_79 h (fun a40 M41 h => ?_)
  refine v_dup dX11_init_119 rfl ?_
  refine x_invI (cv := cU) (As := []) (rest := [.ref a40, .ref v0]) (ls2 := [(0, .ref a40)]) (by omega) dX11_init_120 ke_X1_init rfl rfl ki_X11_81.1 ki_X11_81.2 (Nat.le_of_ble_eq_true rfl) rfl rfl rfl rfl h (fun _ hq => s_X1_init (by omega) hq) (fun _ M42 h => ?_)
  refine x_pR dX11_init_123 kf_X11_82 rfl (fun _ => ⟨rfl, fun r hr => by cases hr; rfl⟩) (fun _ => rfl) (fun _ => rfl) h (fun M43 h => ?_)
  refine v_iconst dX11_init_126 ic_0 ?_
  refine v_istore_n (ls2 := [(1, .int (nI 0)), (0, .ref v0)]) dX11_init_127 rfl (by decide) rfl ?_
  exact V.pick [1, 0] rfl (t_X11_init_128 hd_ _ _ _ _ _ h)
def j_X9_append_64  (v0 : Nat) (v1 : Nat) (M : jM) : jO Unit :=
  (gI 8 M v0 0).bind fun x1 =>
  (gI 8 M v1 0).bind fun x2 =>
  (pI 8 M v0 0 (jmn (nI 6) (x1 + x2))).bind fun M3 =>
  rt () M3
theorem t_X9_append_64 {G : jG} {d : Nat} (hd_ : 2 ≤ d)  {v0 : Nat} {v1 : Nat} {M : jM} {b : Unit × jM} (h : j_X9_append_64  v0 v1 M = some b) : V G m_X9_append d 64 [(0, .ref v0), (1, .ref v1)] [] M (jQb cU b) := by
  unfold j_X9_append_64 at h
  refine v_aload_n dX9_append_64 rfl 0 rfl ?_
  refine v_bipush dX9_append_65 bp_6 ?_
  refine v_aload_n dX9_append_67 rfl 0 rfl ?_
  refine x_gI dX9_append_68 kf_X9_9 rfl h (fun x1 h => ?_)
  refine v_aload_n dX9_append_71 rfl 1 rfl ?_
  refine x_gI dX9_append_72 kf_X9_9 rfl h (fun x2 h => ?_)
  refine v_iadd dX9_append_75 ?_
  refine v_mmin (by omega) dX9_append_76 kh_X9_22 rfl ?_
  refine x_pI dX9_append_79 kf_X9_9 rfl (fun q => Bool.noConfusion q) h (fun M3 h => ?_)
  exact x_vret dX9_append_82 rfl h
def b_X9_append_2  (k2 : Nat → Nat → Int32 → jM → jO Unit) (v0 : Nat) (v1 : Nat) (v2 : Int32) (M : jM) : jO Unit :=
  (gI 8 M v1 0).bind fun x1 =>
  if x1 ≤ v2 then
    j_X9_append_64 v0 v1 M
  else
    (gI 8 M v0 0).bind fun x2 =>
    if (nI 6) ≤ (x2 + v2) then
      j_X9_append_64 v0 v1 M
    else
      (gR 8 M v0 1).bind fun r3 =>
      (gI 8 M v0 0).bind fun x4 =>
      jb2 (jiv 8 M v1 (f_X9_marksOf v1 v2 M)) fun x6 M5 =>
      (stI M5 r3 (x4 + v2) x6).bind fun M7 =>
      (gR 8 M7 v0 2).bind fun r8 =>
      (gI 8 M7 v0 0).bind fun x9 =>
      jb2 (jiv 8 M7 v1 (f_X9_tiesOf v1 v2 M7)) fun x11 M10 =>
      (gI 8 M10 v0 0).bind fun x12 =>
      (stI M10 r8 (x9 + v2) (x11 <<< (x12 &&& 31))).bind fun M13 =>
      k2 v0 v1 (v2 + (nI 1)) M13
def l_X9_append_2  : Nat → Nat → Nat → Int32 → jM → jO Unit
  | 0 => fun _ _ _ _ => none
  | n + 1 => b_X9_append_2  (l_X9_append_2  n)
theorem tb_X9_append_2 {G : jG} {d : Nat} (hd_ : 2 ≤ d)  {k2 : Nat → Nat → Int32 → jM → jO Unit} (hk2 : ∀ (w0 : Nat) (w1 : Nat) (w2 : Int32) (M : jM) (b : Unit × jM), k2 w0 w1 w2 M = some b → V G m_X9_append d 2 [(0, .ref w0), (1, .ref w1), (2, .int w2)] [] M (jQb cU b)) {v0 : Nat} {v1 : Nat} {v2 : Int32} {M : jM} {b : Unit × jM} (h : b_X9_append_2  k2 v0 v1 v2 M = some b) : V G m_X9_append d 2 [(0, .ref v0), (1, .ref v1), (2, .int v2)] [] M (jQb cU b) := by
  unfold b_X9_append_2 at h
  refine v_iload_n dX9_append_2 rfl 2 rfl ?_
  refine v_aload_n dX9_append_3 rfl 1 rfl ?_
  refine x_gI dX9_append_4 kf_X9_9 rfl h (fun x1 h => ?_)
  refine x_ic_ge (tgt := 64) dX9_append_7 (by decide) h (fun h => ?_) (fun h => ?_)
  · exact V.pick [0, 1] rfl (t_X9_append_64 hd_ h)
  · refine v_aload_n dX9_append_10 rfl 0 rfl ?_
    refine x_gI dX9_append_11 kf_X9_9 rfl h (fun x2 h => ?_)
    refine v_iload_n dX9_append_14 rfl 2 rfl ?_
    refine v_iadd dX9_append_15 ?_
    refine v_bipush dX9_append_16 bp_6 ?_
    refine x_ic_ge (tgt := 64) dX9_append_18 (by decide) h (fun h => ?_) (fun h => ?_)
    · exact V.pick [0, 1] rfl (t_X9_append_64 hd_ h)
    · refine v_aload_n dX9_append_21 rfl 0 rfl ?_
      refine x_gR dX9_append_22 kf_X9_15 rfl h (fun r3 h => ?_)
      refine v_aload_n dX9_append_25 rfl 0 rfl ?_
      refine x_gI dX9_append_26 kf_X9_9 rfl h (fun x4 h => ?_)
      refine v_iload_n dX9_append_29 rfl 2 rfl ?_
      refine v_iadd dX9_append_30 ?_
      refine v_aload_n dX9_append_31 rfl 1 rfl ?_
      refine v_iload_n dX9_append_32 rfl 2 rfl ?_
      refine x_inv (cv := cI) (As := [.int v2]) (rest := [.int (x4 + v2), .ref r3]) (ls2 := [(0, .ref v1), (1, .int v2)]) (ci := 8) (by omega) dX9_append_33 ke_X9_marksOf kv_X9_41 rfl rfl (by decide) (Nat.le_of_ble_eq_true rfl) rfl rfl rfl rfl h (fun _ hq => s_X9_marksOf (by omega) hq) (fun x6 M5 h => ?_)
      refine x_stI dX9_append_36 h (fun M7 h => ?_)
      refine v_aload_n dX9_append_37 rfl 0 rfl ?_
      refine x_gR dX9_append_38 kf_X9_19 rfl h (fun r8 h => ?_)
      refine v_aload_n dX9_append_41 rfl 0 rfl ?_
      refine x_gI dX9_append_42 kf_X9_9 rfl h (fun x9 h => ?_)
      refine v_iload_n dX9_append_45 rfl 2 rfl ?_
      refine v_iadd dX9_append_46 ?_
      refine v_aload_n dX9_append_47 rfl 1 rfl ?_
      refine v_iload_n dX9_append_48 rfl 2 rfl ?_
      refine x_inv (cv := cI) (As := [.int v2]) (rest := [.int (x9 + v2), .ref r8]) (ls2 := [(0, .ref v1), (1, .int v2)]) (ci := 8) (by omega) dX9_append_49 ke_X9_tiesOf kv_X9_45 rfl rfl (by decide) (Nat.le_of_ble_eq_true rfl) rfl rfl rfl rfl h (fun _ hq => s_X9_tiesOf (by omega) hq) (fun x11 M10 h => ?_)
      refine v_aload_n dX9_append_52 rfl 0 rfl ?_
      refine x_gI dX9_append_53 kf_X9_9 rfl h (fun x12 h => ?_)
      refine v_ishl dX9_append_56 ?_
      refine x_stI dX9_append_57 h (fun M13 h => ?_)
      refine v_iincC (ls2 := [(2, .int (v2 + (nI 1))), (0, .ref v0), (1, .ref v1)]) dX9_append_58 ic_1 2 rfl (by decide) rfl ?_
      refine v_goto (tgt := 2) dX9_append_61 (by decide) ?_
      exact V.pick [1, 2, 0] rfl (hk2 _ _ _ _ _ h)
theorem t_X9_append_2 {G : jG} {d : Nat} (hd_ : 2 ≤ d)  : ∀ (n : Nat) (v0 : Nat) (v1 : Nat) (v2 : Int32) (M : jM) (b : Unit × jM), l_X9_append_2  n v0 v1 v2 M = some b → V G m_X9_append d 2 [(0, .ref v0), (1, .ref v1), (2, .int v2)] [] M (jQb cU b) := by
  intro n
  induction n with
  | zero => intro v0 v1 v2 M b h; exact nomatch (show (none : jO Unit) = some b from h)
  | succ n ih => intro v0 v1 v2 M b h; exact tb_X9_append_2 hd_  ih h
def f_X9_append (v0 : Nat) (v1 : Nat) (M : jM) : jO Unit :=
  l_X9_append_2 jF0 v0 v1 (nI 0) M
theorem s_X9_append {G : jG} {d : Nat} (hd_ : 2 ≤ d) {v0 : Nat} {v1 : Nat} {M : jM} {b : Unit × jM} (h : f_X9_append  v0 v1 M = some b) : V G m_X9_append d 0 [(0, .ref v0), (1, .ref v1)] [] M (jQb cU b) := by
  unfold f_X9_append at h
  refine v_iconst dX9_append_0 ic_0 ?_
  refine v_istore_n (ls2 := [(2, .int (nI 0)), (0, .ref v0), (1, .ref v1)]) dX9_append_1 rfl (by decide) rfl ?_
  exact V.pick [1, 2, 0] rfl (t_X9_append_2 hd_ _ _ _ _ _ _ h)
def f_X11_join (v0 : Nat) (v1 : Int32) (v2 : Int32) (v3 : Int32) (M : jM) : jO Int32 :=
  jb2 (jiv 10 M v0 (f_X11_worldOf v0 v1 M)) fun o2 M1 =>
  jb2 (jiv 10 M1 v0 (f_X11_worldOf v0 v2 M1)) fun o4 M3 =>
  jb2 (jiv 10 M3 v0 (f_X11_placeOf v0 v3 M3)) fun o6 M5 =>
  jnl o2 (
    rt (-1 : Int32) M5
    ) fun a7 =>
    jnl o4 (
      rt (-1 : Int32) M5
      ) fun a8 =>
      jnl o6 (
        rt (-1 : Int32) M5
        ) fun a9 =>
        jb2 (jiv 8 M5 a7 (f_X9_size a7 M5)) fun x11 M10 =>
        jb2 (jiv 8 M10 a8 (f_X9_size a8 M10)) fun x13 M12 =>
        if (x11 + x13) ≤ (nI 6) then
          (gR 10 M12 v0 1).bind fun r14 =>
          jb2 (jiv 8 M12 r14 (f_X9_become r14 a7 M12)) fun _ M15 =>
          (gR 10 M15 v0 1).bind fun r16 =>
          jb2 (jiv 8 M15 r16 (f_X9_append r16 a8 M15)) fun _ M17 =>
          (gR 10 M17 v0 1).bind fun r18 =>
          jb2 (jiv 8 M17 a9 (f_X9_become a9 r18 M17)) fun _ M19 =>
          jb2 (jiv 8 M19 a9 (f_X9_size a9 M19)) fun x21 M20 =>
          rt x21 M20
        else
          rt (-2 : Int32) M12
theorem s_X11_join {G : jG} {d : Nat} (hd_ : 3 ≤ d) {v0 : Nat} {v1 : Int32} {v2 : Int32} {v3 : Int32} {M : jM} {b : Int32 × jM} (h : f_X11_join  v0 v1 v2 v3 M = some b) : V G m_X11_join d 0 [(0, .ref v0), (1, .int v1), (2, .int v2), (3, .int v3)] [] M (jQb cI b) := by
  unfold f_X11_join at h
  refine v_aload_n dX11_join_0 rfl 0 rfl ?_
  refine v_iload_n dX11_join_1 rfl 1 rfl ?_
  refine x_inv (cv := cN) (As := [.int v1]) (rest := []) (ls2 := [(0, .ref v0), (1, .int v1)]) (ci := 10) (by omega) dX11_join_2 ke_X11_worldOf kv_X11_94 rfl rfl (by decide) (Nat.le_of_ble_eq_true rfl) rfl rfl rfl rfl h (fun _ hq => s_X11_worldOf (by omega) hq) (fun o2 M1 h => ?_)
  refine v_astoreQ (ls2 := [(4, va_rf o2), (0, .ref v0), (1, .int v1), (2, .int v2), (3, .int v3)]) dX11_join_5 (by decide) rfl ?_
  refine v_aload_n dX11_join_7 rfl 1 rfl ?_
  refine v_iload_n dX11_join_8 rfl 3 rfl ?_
  refine x_inv (cv := cN) (As := [.int v2]) (rest := []) (ls2 := [(0, .ref v0), (1, .int v2)]) (ci := 10) (by omega) dX11_join_9 ke_X11_worldOf kv_X11_94 rfl rfl (by decide) (Nat.le_of_ble_eq_true rfl) rfl rfl rfl rfl h (fun _ hq => s_X11_worldOf (by omega) hq) (fun o4 M3 h => ?_)
  refine v_astoreQ (ls2 := [(5, va_rf o4), (4, va_rf o2), (0, .ref v0), (1, .int v1), (2, .int v2), (3, .int v3)]) dX11_join_12 (by decide) (by simp [jst, jcatQ]) ?_
  refine v_aload_n dX11_join_14 rfl 2 rfl ?_
  refine v_iload_n dX11_join_15 rfl 5 rfl ?_
  refine x_inv (cv := cN) (As := [.int v3]) (rest := []) (ls2 := [(0, .ref v0), (1, .int v3)]) (ci := 10) (by omega) dX11_join_16 ke_X11_placeOf kv_X11_86 rfl rfl (by decide) (Nat.le_of_ble_eq_true rfl) rfl rfl rfl rfl h (fun _ hq => s_X11_placeOf (by omega) hq) (fun o6 M5 h => ?_)
  refine v_astoreQ (ls2 := [(6, va_rf o6), (5, va_rf o4), (4, va_rf o2), (0, .ref v0), (1, .int v1), (2, .int v2), (3, .int v3)]) dX11_join_19 (by decide) (by simp [jst, jcatQ]) ?_
  refine v_aloadQ dX11_join_21 2 rfl ?_
  cases o2 with
  | none =>
    replace h := x_nN h
    refine v_ifnullN (tgt := 36) dX11_join_23 (by decide) ?_
    refine v_iconst dX11_join_36 ic_m1 ?_
    exact x_iret dX11_join_37 rfl h
  | some a7 =>
    replace h := x_nS h
    refine v_ifnull dX11_join_23 ?_
    refine v_aloadQ dX11_join_26 1 rfl ?_
    cases o4 with
    | none =>
      replace h := x_nN h
      refine v_ifnullN (tgt := 36) dX11_join_28 (by decide) ?_
      refine v_iconst dX11_join_36 ic_m1 ?_
      exact x_iret dX11_join_37 rfl h
    | some a8 =>
      replace h := x_nS h
      refine v_ifnull dX11_join_28 ?_
      refine v_aloadQ dX11_join_31 0 rfl ?_
      cases o6 with
      | none =>
        replace h := x_nN h
        refine v_ifnonnullN dX11_join_33 ?_
        refine v_iconst dX11_join_36 ic_m1 ?_
        exact x_iret dX11_join_37 rfl h
      | some a9 =>
        replace h := x_nS h
        refine v_ifnonnull (tgt := 38) dX11_join_33 (by decide) ?_
        refine v_aload dX11_join_38 2 rfl ?_
        refine x_inv (cv := cI) (As := []) (rest := []) (ls2 := [(0, .ref a7)]) (ci := 8) (by omega) dX11_join_40 ke_X9_size kv_X11_116 rfl rfl (by decide) (Nat.le_of_ble_eq_true rfl) rfl rfl rfl rfl h (fun _ hq => s_X9_size (by omega) hq) (fun x11 M10 h => ?_)
        refine v_aload dX11_join_43 1 rfl ?_
        refine x_inv (cv := cI) (As := []) (rest := [.int x11]) (ls2 := [(0, .ref a8)]) (ci := 8) (by omega) dX11_join_45 ke_X9_size kv_X11_116 rfl rfl (by decide) (Nat.le_of_ble_eq_true rfl) rfl rfl rfl rfl h (fun _ hq => s_X9_size (by omega) hq) (fun x13 M12 h => ?_)
        refine v_iadd dX11_join_48 ?_
        refine v_bipush dX11_join_49 bp_6 ?_
        refine x_ic_le (tgt := 57) dX11_join_51 (by decide) h (fun h => ?_) (fun h => ?_)
        · refine v_aload_n dX11_join_57 rfl 3 rfl ?_
          refine x_gR dX11_join_58 kf_X11_16 rfl h (fun r14 h => ?_)
          refine v_aload dX11_join_61 2 rfl ?_
          refine x_inv (cv := cU) (As := [.ref a7]) (rest := []) (ls2 := [(0, .ref r14), (1, .ref a7)]) (ci := 8) (by omega) dX11_join_63 ke_X9_become kv_X11_108 rfl rfl (by decide) (Nat.le_of_ble_eq_true rfl) rfl rfl rfl rfl h (fun _ hq => s_X9_become (by omega) hq) (fun _ M15 h => ?_)
          refine v_aload_n dX11_join_66 rfl 3 rfl ?_
          refine x_gR dX11_join_67 kf_X11_16 rfl h (fun r16 h => ?_)
          refine v_aload dX11_join_70 1 rfl ?_
          refine x_inv (cv := cU) (As := [.ref a8]) (rest := []) (ls2 := [(0, .ref r16), (1, .ref a8)]) (ci := 8) (by omega) dX11_join_72 ke_X9_append kv_X11_120 rfl rfl (by decide) (Nat.le_of_ble_eq_true rfl) rfl rfl rfl rfl h (fun _ hq => s_X9_append (by omega) hq) (fun _ M17 h => ?_)
          refine v_aload dX11_join_75 0 rfl ?_
          refine v_aload_n dX11_join_77 rfl 3 rfl ?_
          refine x_gR dX11_join_78 kf_X11_16 rfl h (fun r18 h => ?_)
          refine x_inv (cv := cU) (As := [.ref r18]) (rest := []) (ls2 := [(0, .ref a9), (1, .ref r18)]) (ci := 8) (by omega) dX11_join_81 ke_X9_become kv_X11_108 rfl rfl (by decide) (Nat.le_of_ble_eq_true rfl) rfl rfl rfl rfl h (fun _ hq => s_X9_become (by omega) hq) (fun _ M19 h => ?_)
          refine v_aload dX11_join_84 0 rfl ?_
          refine x_inv (cv := cI) (As := []) (rest := []) (ls2 := [(0, .ref a9)]) (ci := 8) (by omega) dX11_join_86 ke_X9_size kv_X11_116 rfl rfl (by decide) (Nat.le_of_ble_eq_true rfl) rfl rfl rfl rfl h (fun _ hq => s_X9_size (by omega) hq) (fun x21 M20 h => ?_)
          exact x_iret dX11_join_89 rfl h
        · refine v_bipush dX11_join_54 bp_m2 ?_
          exact x_iret dX11_join_56 rfl h
def f_X2_kindOf (v0 : Nat) (v1 : Int32) (M : jM) : jO Int32 :=
  if v1 < 0 then
    rt (-1 : Int32) M
  else
    (gI 2 M v0 2).bind fun x1 =>
    if x1 ≤ v1 then
      rt (-1 : Int32) M
    else
      (gR 2 M v0 0).bind fun r2 =>
      (ln M r2).bind fun x3 =>
      if x3 ≤ v1 then
        rt (-1 : Int32) M
      else
        (gR 2 M v0 0).bind fun r4 =>
        (ldI M r4 v1).bind fun x5 =>
        rt x5 M
theorem s_X2_kindOf {G : jG} {d : Nat} (hd_ : 0 ≤ d) {v0 : Nat} {v1 : Int32} {M : jM} {b : Int32 × jM} (h : f_X2_kindOf  v0 v1 M = some b) : V G m_X2_kindOf d 0 [(0, .ref v0), (1, .int v1)] [] M (jQb cI b) := by
  unfold f_X2_kindOf at h
  refine v_iload_n dX2_kindOf_0 rfl 1 rfl ?_
  refine x_if_lt (tgt := 30) dX2_kindOf_1 (by decide) h (fun h => ?_) (fun h => ?_)
  · refine v_iconst dX2_kindOf_30 ic_m1 ?_
    exact x_iret dX2_kindOf_31 rfl h
  · refine v_iload_n dX2_kindOf_4 rfl 1 rfl ?_
    refine v_aload_n dX2_kindOf_5 rfl 0 rfl ?_
    refine x_gI dX2_kindOf_6 kf_X2_18 rfl h (fun x1 h => ?_)
    refine x_ic_ge (tgt := 30) dX2_kindOf_9 (by decide) h (fun h => ?_) (fun h => ?_)
    · refine v_iconst dX2_kindOf_30 ic_m1 ?_
      exact x_iret dX2_kindOf_31 rfl h
    · refine v_iload_n dX2_kindOf_12 rfl 1 rfl ?_
      refine v_aload_n dX2_kindOf_13 rfl 0 rfl ?_
      refine x_gR dX2_kindOf_14 kf_X2_9 rfl h (fun r2 h => ?_)
      refine x_ln dX2_kindOf_17 h (fun x3 h => ?_)
      refine x_ic_ge (tgt := 30) dX2_kindOf_18 (by decide) h (fun h => ?_) (fun h => ?_)
      · refine v_iconst dX2_kindOf_30 ic_m1 ?_
        exact x_iret dX2_kindOf_31 rfl h
      · refine v_aload_n dX2_kindOf_21 rfl 0 rfl ?_
        refine x_gR dX2_kindOf_22 kf_X2_9 rfl h (fun r4 h => ?_)
        refine v_iload_n dX2_kindOf_25 rfl 1 rfl ?_
        refine x_ldI dX2_kindOf_26 h (fun x5 h => ?_)
        refine v_goto (tgt := 31) dX2_kindOf_27 (by decide) ?_
        exact x_iret dX2_kindOf_31 rfl h
def f_X11_kind (v0 : Nat) (v1 : Int32) (M : jM) : jO Int32 :=
  (gR 10 M v0 10).bind fun r1 =>
  jb2 (jiv 2 M r1 (f_X2_kindOf r1 v1 M)) fun x3 M2 =>
  rt x3 M2
theorem s_X11_kind {G : jG} {d : Nat} (hd_ : 1 ≤ d) {v0 : Nat} {v1 : Int32} {M : jM} {b : Int32 × jM} (h : f_X11_kind  v0 v1 M = some b) : V G m_X11_kind d 0 [(0, .ref v0), (1, .int v1)] [] M (jQb cI b) := by
  unfold f_X11_kind at h
  refine v_aload_n dX11_kind_0 rfl 0 rfl ?_
  refine x_gR dX11_kind_1 kf_X11_75 rfl h (fun r1 h => ?_)
  refine v_iload_n dX11_kind_4 rfl 1 rfl ?_
  refine x_inv (cv := cI) (As := [.int v1]) (rest := []) (ls2 := [(0, .ref r1), (1, .int v1)]) (ci := 2) (by omega) dX11_kind_5 ke_X2_kindOf kv_X11_223 rfl rfl (by decide) (Nat.le_of_ble_eq_true rfl) rfl rfl rfl rfl h (fun _ hq => s_X2_kindOf (by omega) hq) (fun x3 M2 h => ?_)
  exact x_iret dX11_kind_8 rfl h
def j_X2_isLikeExample_116  (v5 : Int32) (v6 : Nat) (v11 : Int32) (s0 : Int32) (M : jM) : jO Int32 :=
  jb2 (jiv 3 M v6 (f_X3_staysAlike v6 (nI 0) v11 s0 M)) fun x2 M1 =>
  if x2 = 0 then
    rZ (nI 0) M1
  else
    jb2 (jiv 3 M1 v6 (f_X3_lengthen v6 (nI 0) v11 s0 M1)) fun x4 M3 =>
    if x4 = 0 then
      rZ (nI 0) M3
    else
      jb2 (jiv 3 M3 v6 (f_X3_keeperWins jR0 v6 v5 M3)) fun x6 M5 =>
      if x6 = 0 then
        rZ (nI 0) M5
      else
        rZ (nI 1) M5
theorem t_X2_isLikeExample_116 {G : jG} {d : Nat} (hd_ : 123 ≤ d)  {v5 : Int32} {v6 : Nat} {v11 : Int32} {s0 : Int32} {M : jM} {b : Int32 × jM} (h : j_X2_isLikeExample_116  v5 v6 v11 s0 M = some b) : V G m_X2_isLikeExample d 116 [(5, .int v5), (6, .ref v6), (11, .int v11)] [.int s0] M (jQb cI b) := by
  unfold j_X2_isLikeExample_116 at h
  refine v_istore (ls2 := [(12, .int s0), (5, .int v5), (6, .ref v6), (11, .int v11)]) dX2_isLikeExample_116 (by decide) rfl ?_
  refine v_aload dX2_isLikeExample_118 2 rfl ?_
  refine v_iconst dX2_isLikeExample_120 ic_0 ?_
  refine v_iload dX2_isLikeExample_121 3 rfl ?_
  refine v_iload dX2_isLikeExample_123 0 rfl ?_
  refine x_inv (cv := cI) (As := [.int (nI 0), .int v11, .int s0]) (rest := []) (ls2 := [(0, .ref v6), (1, .int (nI 0)), (2, .int v11), (3, .int s0)]) (ci := 3) (by omega) dX2_isLikeExample_125 ke_X3_staysAlike kv_X2_44 rfl rfl (by decide) (Nat.le_of_ble_eq_true rfl) rfl rfl rfl rfl h (fun _ hq => s_X3_staysAlike (by omega) hq) (fun x2 M1 h => ?_)
  refine x_if_eq (tgt := 158) dX2_isLikeExample_128 (by decide) h (fun h => ?_) (fun h => ?_)
  · refine v_iconst dX2_isLikeExample_158 ic_0 ?_
    exact x_zret dX2_isLikeExample_159 rfl h
  · refine v_aload dX2_isLikeExample_131 2 rfl ?_
    refine v_iconst dX2_isLikeExample_133 ic_0 ?_
    refine v_iload dX2_isLikeExample_134 3 rfl ?_
    refine v_iload dX2_isLikeExample_136 0 rfl ?_
    refine x_inv (cv := cI) (As := [.int (nI 0), .int v11, .int s0]) (rest := []) (ls2 := [(0, .ref v6), (1, .int (nI 0)), (2, .int v11), (3, .int s0)]) (ci := 3) (by omega) dX2_isLikeExample_138 ke_X3_lengthen kv_X2_48 rfl rfl (by decide) (Nat.le_of_ble_eq_true rfl) rfl rfl rfl rfl h (fun _ hq => s_X3_lengthen (by omega) hq) (fun x4 M3 h => ?_)
    refine x_if_eq (tgt := 158) dX2_isLikeExample_141 (by decide) h (fun h => ?_) (fun h => ?_)
    · refine v_iconst dX2_isLikeExample_158 ic_0 ?_
      exact x_zret dX2_isLikeExample_159 rfl h
    · refine v_aload dX2_isLikeExample_144 2 rfl ?_
      refine v_iload dX2_isLikeExample_146 1 rfl ?_
      refine x_invN (cv := cI) (As := [.int v5]) (rest := []) (ls2 := [(0, .ref v6), (1, .int v5)]) (ci := 3) (by omega) dX2_isLikeExample_148 ke_X3_keeperWins kv_X2_51 rfl rfl (by decide) (Nat.le_of_ble_eq_true rfl) rfl rfl rfl rfl h (fun _ hq => s_X3_keeperWins _ _ (by have := jR0_eq; omega) _ _ _ _ hq) (fun x6 M5 h => ?_)
      refine x_if_eq (tgt := 158) dX2_isLikeExample_151 (by decide) h (fun h => ?_) (fun h => ?_)
      · refine v_iconst dX2_isLikeExample_158 ic_0 ?_
        exact x_zret dX2_isLikeExample_159 rfl h
      · refine v_iconst dX2_isLikeExample_154 ic_1 ?_
        refine v_goto (tgt := 159) dX2_isLikeExample_155 (by decide) ?_
        exact x_zret dX2_isLikeExample_159 rfl h
def j_X2_isLikeExample_99  (v4 : Int32) (v5 : Int32) (v6 : Nat) (v8 : Int32) (v10 : Int32) (s0 : Int32) (M : jM) : jO Int32 :=
  if v10 = 0 then
    j_X2_isLikeExample_116 v5 v6 s0 (v4 - v8) M
  else
    j_X2_isLikeExample_116 v5 v6 s0 v4 M
theorem t_X2_isLikeExample_99 {G : jG} {d : Nat} (hd_ : 123 ≤ d)  {v4 : Int32} {v5 : Int32} {v6 : Nat} {v8 : Int32} {v10 : Int32} {s0 : Int32} {M : jM} {b : Int32 × jM} (h : j_X2_isLikeExample_99  v4 v5 v6 v8 v10 s0 M = some b) : V G m_X2_isLikeExample d 99 [(4, .int v4), (5, .int v5), (6, .ref v6), (8, .int v8), (10, .int v10)] [.int s0] M (jQb cI b) := by
  unfold j_X2_isLikeExample_99 at h
  refine v_istore (ls2 := [(11, .int s0), (4, .int v4), (5, .int v5), (6, .ref v6), (8, .int v8), (10, .int v10)]) dX2_isLikeExample_99 (by decide) rfl ?_
  refine v_iload dX2_isLikeExample_101 5 rfl ?_
  refine x_if_eq (tgt := 111) dX2_isLikeExample_103 (by decide) h (fun h => ?_) (fun h => ?_)
  · refine v_iload dX2_isLikeExample_111 1 rfl ?_
    refine v_iload dX2_isLikeExample_113 4 rfl ?_
    refine v_isub dX2_isLikeExample_115 ?_
    exact V.pick [2, 3, 0] rfl (t_X2_isLikeExample_116 hd_ h)
  · refine v_iload dX2_isLikeExample_106 1 rfl ?_
    refine v_goto (tgt := 116) dX2_isLikeExample_108 (by decide) ?_
    exact V.pick [2, 3, 0] rfl (t_X2_isLikeExample_116 hd_ h)
def j_X2_isLikeExample_81  (v4 : Int32) (v5 : Int32) (v6 : Nat) (v7 : Int32) (v8 : Int32) (v9 : Int32) (v10 : Int32) (s0 : Nat) (s1 : Nat) (s2 : Nat) (M : jM) : jO Int32 :=
  jb2 (jiv 3 M s0 (f_X3_begin s0 s1 s2 M)) fun _ M1 =>
  if v9 = 0 then
    j_X2_isLikeExample_99 v4 v5 v6 v8 v10 (v7 - v8) M1
  else
    j_X2_isLikeExample_99 v4 v5 v6 v8 v10 v7 M1
theorem t_X2_isLikeExample_81 {G : jG} {d : Nat} (hd_ : 123 ≤ d)  {v4 : Int32} {v5 : Int32} {v6 : Nat} {v7 : Int32} {v8 : Int32} {v9 : Int32} {v10 : Int32} {s0 : Nat} {s1 : Nat} {s2 : Nat} {M : jM} {b : Int32 × jM} (h : j_X2_isLikeExample_81  v4 v5 v6 v7 v8 v9 v10 s0 s1 s2 M = some b) : V G m_X2_isLikeExample d 81 [(4, .int v4), (5, .int v5), (6, .ref v6), (7, .int v7), (8, .int v8), (9, .int v9), (10, .int v10)] [.ref s2, .ref s1, .ref s0] M (jQb cI b) := by
  unfold j_X2_isLikeExample_81 at h
  refine x_inv (cv := cU) (As := [.ref s1, .ref s2]) (rest := []) (ls2 := [(0, .ref s0), (1, .ref s1), (2, .ref s2)]) (ci := 3) (by omega) dX2_isLikeExample_81 ke_X3_begin kv_X2_38 rfl rfl (by decide) (Nat.le_of_ble_eq_true rfl) rfl rfl rfl rfl h (fun _ hq => s_X3_begin (by omega) hq) (fun _ M1 h => ?_)
  refine v_iload dX2_isLikeExample_84 5 rfl ?_
  refine x_if_eq (tgt := 94) dX2_isLikeExample_86 (by decide) h (fun h => ?_) (fun h => ?_)
  · refine v_iload dX2_isLikeExample_94 3 rfl ?_
    refine v_iload dX2_isLikeExample_96 4 rfl ?_
    refine v_isub dX2_isLikeExample_98 ?_
    exact V.pick [0, 1, 2, 4, 6] rfl (t_X2_isLikeExample_99 hd_ h)
  · refine v_iload dX2_isLikeExample_89 3 rfl ?_
    refine v_goto (tgt := 99) dX2_isLikeExample_91 (by decide) ?_
    exact V.pick [0, 1, 2, 4, 6] rfl (t_X2_isLikeExample_99 hd_ h)
def j_X2_isLikeExample_71  (v1 : Nat) (v2 : Nat) (v4 : Int32) (v5 : Int32) (v6 : Nat) (v7 : Int32) (v8 : Int32) (v9 : Int32) (v10 : Int32) (s0 : Nat) (s1 : Nat) (M : jM) : jO Int32 :=
  if v10 = 0 then
    j_X2_isLikeExample_81 v4 v5 v6 v7 v8 v9 v10 s0 s1 v2 M
  else
    j_X2_isLikeExample_81 v4 v5 v6 v7 v8 v9 v10 s0 s1 v1 M
theorem t_X2_isLikeExample_71 {G : jG} {d : Nat} (hd_ : 123 ≤ d)  {v1 : Nat} {v2 : Nat} {v4 : Int32} {v5 : Int32} {v6 : Nat} {v7 : Int32} {v8 : Int32} {v9 : Int32} {v10 : Int32} {s0 : Nat} {s1 : Nat} {M : jM} {b : Int32 × jM} (h : j_X2_isLikeExample_71  v1 v2 v4 v5 v6 v7 v8 v9 v10 s0 s1 M = some b) : V G m_X2_isLikeExample d 71 [(1, .ref v1), (2, .ref v2), (4, .int v4), (5, .int v5), (6, .ref v6), (7, .int v7), (8, .int v8), (9, .int v9), (10, .int v10)] [.ref s1, .ref s0] M (jQb cI b) := by
  unfold j_X2_isLikeExample_71 at h
  refine v_iload dX2_isLikeExample_71 8 rfl ?_
  refine x_if_eq (tgt := 80) dX2_isLikeExample_73 (by decide) h (fun h => ?_) (fun h => ?_)
  · refine v_aload_n dX2_isLikeExample_80 rfl 1 rfl ?_
    exact V.pick [2, 3, 4, 5, 6, 7, 8] rfl (t_X2_isLikeExample_81 hd_ h)
  · refine v_aload_n dX2_isLikeExample_76 rfl 0 rfl ?_
    refine v_goto (tgt := 81) dX2_isLikeExample_77 (by decide) ?_
    exact V.pick [2, 3, 4, 5, 6, 7, 8] rfl (t_X2_isLikeExample_81 hd_ h)
def j_X2_isLikeExample_57  (v1 : Nat) (v2 : Nat) (v4 : Int32) (v5 : Int32) (v6 : Nat) (v7 : Int32) (v8 : Int32) (v9 : Int32) (s0 : Int32) (M : jM) : jO Int32 :=
  if v9 = 0 then
    j_X2_isLikeExample_71 v1 v2 v4 v5 v6 v7 v8 v9 s0 v6 v2 M
  else
    j_X2_isLikeExample_71 v1 v2 v4 v5 v6 v7 v8 v9 s0 v6 v1 M
theorem t_X2_isLikeExample_57 {G : jG} {d : Nat} (hd_ : 123 ≤ d)  {v1 : Nat} {v2 : Nat} {v4 : Int32} {v5 : Int32} {v6 : Nat} {v7 : Int32} {v8 : Int32} {v9 : Int32} {s0 : Int32} {M : jM} {b : Int32 × jM} (h : j_X2_isLikeExample_57  v1 v2 v4 v5 v6 v7 v8 v9 s0 M = some b) : V G m_X2_isLikeExample d 57 [(1, .ref v1), (2, .ref v2), (4, .int v4), (5, .int v5), (6, .ref v6), (7, .int v7), (8, .int v8), (9, .int v9)] [.int s0] M (jQb cI b) := by
  unfold j_X2_isLikeExample_57 at h
  refine v_istore (ls2 := [(10, .int s0), (1, .ref v1), (2, .ref v2), (4, .int v4), (5, .int v5), (6, .ref v6), (7, .int v7), (8, .int v8), (9, .int v9)]) dX2_isLikeExample_57 (by decide) rfl ?_
  refine v_aload dX2_isLikeExample_59 5 rfl ?_
  refine v_iload dX2_isLikeExample_61 8 rfl ?_
  refine x_if_eq (tgt := 70) dX2_isLikeExample_63 (by decide) h (fun h => ?_) (fun h => ?_)
  · refine v_aload_n dX2_isLikeExample_70 rfl 2 rfl ?_
    exact V.pick [1, 2, 3, 4, 5, 6, 7, 8, 0] rfl (t_X2_isLikeExample_71 hd_ h)
  · refine v_aload_n dX2_isLikeExample_66 rfl 1 rfl ?_
    refine v_goto (tgt := 71) dX2_isLikeExample_67 (by decide) ?_
    exact V.pick [1, 2, 3, 4, 5, 6, 7, 8, 0] rfl (t_X2_isLikeExample_71 hd_ h)
def j_X2_isLikeExample_43  (v1 : Nat) (v2 : Nat) (v4 : Int32) (v5 : Int32) (v6 : Nat) (v7 : Int32) (v8 : Int32) (s0 : Int32) (M : jM) : jO Int32 :=
  if v8 ≤ v4 then
    j_X2_isLikeExample_57 v1 v2 v4 v5 v6 v7 v8 s0 (nI 0) M
  else
    j_X2_isLikeExample_57 v1 v2 v4 v5 v6 v7 v8 s0 (nI 1) M
theorem t_X2_isLikeExample_43 {G : jG} {d : Nat} (hd_ : 123 ≤ d)  {v1 : Nat} {v2 : Nat} {v4 : Int32} {v5 : Int32} {v6 : Nat} {v7 : Int32} {v8 : Int32} {s0 : Int32} {M : jM} {b : Int32 × jM} (h : j_X2_isLikeExample_43  v1 v2 v4 v5 v6 v7 v8 s0 M = some b) : V G m_X2_isLikeExample d 43 [(1, .ref v1), (2, .ref v2), (4, .int v4), (5, .int v5), (6, .ref v6), (7, .int v7), (8, .int v8)] [.int s0] M (jQb cI b) := by
  unfold j_X2_isLikeExample_43 at h
  refine v_istore (ls2 := [(9, .int s0), (1, .ref v1), (2, .ref v2), (4, .int v4), (5, .int v5), (6, .ref v6), (7, .int v7), (8, .int v8)]) dX2_isLikeExample_43 (by decide) rfl ?_
  refine v_iload dX2_isLikeExample_45 3 rfl ?_
  refine v_iload dX2_isLikeExample_47 7 rfl ?_
  refine x_ic_ge (tgt := 56) dX2_isLikeExample_49 (by decide) h (fun h => ?_) (fun h => ?_)
  · refine v_iconst dX2_isLikeExample_56 ic_0 ?_
    exact V.pick [1, 2, 3, 4, 5, 6, 7, 0] rfl (t_X2_isLikeExample_57 hd_ h)
  · refine v_iconst dX2_isLikeExample_52 ic_1 ?_
    refine v_goto (tgt := 57) dX2_isLikeExample_53 (by decide) ?_
    exact V.pick [1, 2, 3, 4, 5, 6, 7, 0] rfl (t_X2_isLikeExample_57 hd_ h)
def j_X2_isLikeExample_23  (v1 : Nat) (v2 : Nat) (v4 : Int32) (v5 : Int32) (v6 : Nat) (s0 : Int32) (M : jM) : jO Int32 :=
  jb2 (jiv 8 M v1 (f_X9_size v1 M)) fun x2 M1 =>
  if x2 ≤ s0 then
    j_X2_isLikeExample_43 v1 v2 v4 v5 v6 s0 x2 (nI 0) M1
  else
    j_X2_isLikeExample_43 v1 v2 v4 v5 v6 s0 x2 (nI 1) M1
theorem t_X2_isLikeExample_23 {G : jG} {d : Nat} (hd_ : 123 ≤ d)  {v1 : Nat} {v2 : Nat} {v4 : Int32} {v5 : Int32} {v6 : Nat} {s0 : Int32} {M : jM} {b : Int32 × jM} (h : j_X2_isLikeExample_23  v1 v2 v4 v5 v6 s0 M = some b) : V G m_X2_isLikeExample d 23 [(1, .ref v1), (2, .ref v2), (4, .int v4), (5, .int v5), (6, .ref v6)] [.int s0] M (jQb cI b) := by
  unfold j_X2_isLikeExample_23 at h
  refine v_istore (ls2 := [(7, .int s0), (1, .ref v1), (2, .ref v2), (4, .int v4), (5, .int v5), (6, .ref v6)]) dX2_isLikeExample_23 (by decide) rfl ?_
  refine v_aload_n dX2_isLikeExample_25 rfl 1 rfl ?_
  refine x_inv (cv := cI) (As := []) (rest := []) (ls2 := [(0, .ref v1)]) (ci := 8) (by omega) dX2_isLikeExample_26 ke_X9_size kv_X2_22 rfl rfl (by decide) (Nat.le_of_ble_eq_true rfl) rfl rfl rfl rfl h (fun _ hq => s_X9_size (by omega) hq) (fun x2 M1 h => ?_)
  refine v_istore (ls2 := [(8, .int x2), (7, .int s0), (1, .ref v1), (2, .ref v2), (4, .int v4), (5, .int v5), (6, .ref v6)]) dX2_isLikeExample_29 (by decide) rfl ?_
  refine v_iload dX2_isLikeExample_31 1 rfl ?_
  refine v_iload dX2_isLikeExample_33 0 rfl ?_
  refine x_ic_ge (tgt := 42) dX2_isLikeExample_35 (by decide) h (fun h => ?_) (fun h => ?_)
  · refine v_iconst dX2_isLikeExample_42 ic_0 ?_
    exact V.pick [2, 3, 4, 5, 6, 1, 0] rfl (t_X2_isLikeExample_43 hd_ h)
  · refine v_iconst dX2_isLikeExample_38 ic_1 ?_
    refine v_goto (tgt := 43) dX2_isLikeExample_39 (by decide) ?_
    exact V.pick [2, 3, 4, 5, 6, 1, 0] rfl (t_X2_isLikeExample_43 hd_ h)
def j_X2_isLikeExample_22  (v1 : Nat) (v2 : Nat) (v4 : Int32) (v5 : Int32) (v6 : Nat) (M : jM) : jO Int32 :=
  j_X2_isLikeExample_23 v1 v2 v4 v5 v6 (nI 0) M
theorem t_X2_isLikeExample_22 {G : jG} {d : Nat} (hd_ : 123 ≤ d)  {v1 : Nat} {v2 : Nat} {v4 : Int32} {v5 : Int32} {v6 : Nat} {M : jM} {b : Int32 × jM} (h : j_X2_isLikeExample_22  v1 v2 v4 v5 v6 M = some b) : V G m_X2_isLikeExample d 22 [(1, .ref v1), (2, .ref v2), (4, .int v4), (5, .int v5), (6, .ref v6)] [] M (jQb cI b) := by
  unfold j_X2_isLikeExample_22 at h
  refine v_iconst dX2_isLikeExample_22 ic_0 ?_
  exact t_X2_isLikeExample_23 hd_ h
def f_X2_isLikeExample (v0 : Nat) (v1 : Nat) (v2 : Nat) (v3 : Int32) (v4 : Int32) (v5 : Int32) (v6 : Nat) (M : jM) : jO Int32 :=
  if v3 < 0 then
    j_X2_isLikeExample_22 v1 v2 v4 v5 v6 M
  else
    (gR 2 M v0 1).bind fun r1 =>
    (ln M r1).bind fun x2 =>
    if x2 ≤ v3 then
      j_X2_isLikeExample_22 v1 v2 v4 v5 v6 M
    else
      (gR 2 M v0 1).bind fun r3 =>
      (ldI M r3 v3).bind fun x4 =>
      j_X2_isLikeExample_23 v1 v2 v4 v5 v6 x4 M
theorem s_X2_isLikeExample {G : jG} {d : Nat} (hd_ : 123 ≤ d) {v0 : Nat} {v1 : Nat} {v2 : Nat} {v3 : Int32} {v4 : Int32} {v5 : Int32} {v6 : Nat} {M : jM} {b : Int32 × jM} (h : f_X2_isLikeExample  v0 v1 v2 v3 v4 v5 v6 M = some b) : V G m_X2_isLikeExample d 0 [(0, .ref v0), (1, .ref v1), (2, .ref v2), (3, .int v3), (4, .int v4), (5, .int v5), (6, .ref v6)] [] M (jQb cI b) := by
  unfold f_X2_isLikeExample at h
  refine v_iload_n dX2_isLikeExample_0 rfl 3 rfl ?_
  refine x_if_lt (tgt := 22) dX2_isLikeExample_1 (by decide) h (fun h => ?_) (fun h => ?_)
  · exact V.pick [1, 2, 4, 5, 6] rfl (t_X2_isLikeExample_22 hd_ h)
  · refine v_iload_n dX2_isLikeExample_4 rfl 3 rfl ?_
    refine v_aload_n dX2_isLikeExample_5 rfl 0 rfl ?_
    refine x_gR dX2_isLikeExample_6 kf_X2_15 rfl h (fun r1 h => ?_)
    refine x_ln dX2_isLikeExample_9 h (fun x2 h => ?_)
    refine x_ic_ge (tgt := 22) dX2_isLikeExample_10 (by decide) h (fun h => ?_) (fun h => ?_)
    · exact V.pick [1, 2, 4, 5, 6] rfl (t_X2_isLikeExample_22 hd_ h)
    · refine v_aload_n dX2_isLikeExample_13 rfl 0 rfl ?_
      refine x_gR dX2_isLikeExample_14 kf_X2_15 rfl h (fun r3 h => ?_)
      refine v_iload_n dX2_isLikeExample_17 rfl 3 rfl ?_
      refine x_ldI dX2_isLikeExample_18 h (fun x4 h => ?_)
      refine v_goto (tgt := 23) dX2_isLikeExample_19 (by decide) ?_
      exact V.pick [1, 2, 4, 5, 6] rfl (t_X2_isLikeExample_23 hd_ h)
