def f_X11_best (v0 : Nat) (M : jM) : jO Int32 :=
  (gR 10 M v0 3).bind fun r1 =>
  jb2 (jiv 5 M r1 (f_X6_bestMove r1 M)) fun x3 M2 =>
  rt x3 M2
theorem s_X11_best {G : jG} {d : Nat} (hd_ : 127 ≤ d) {v0 : Nat} {M : jM} {b : Int32 × jM} (h : f_X11_best  v0 M = some b) : V G m_X11_best d 0 [(0, .ref v0)] [] M (jQb cI b) := by
  unfold f_X11_best at h
  refine v_aload_n dX11_best_0 rfl 0 rfl ?_
  refine x_gR dX11_best_1 kf_X11_30 rfl h (fun r1 h => ?_)
  refine x_inv (cv := cI) (As := []) (rest := []) (ls2 := [(0, .ref r1)]) (ci := 5) (by omega) dX11_best_4 ke_X6_bestMove kv_X11_157 rfl rfl (by decide) (Nat.le_of_ble_eq_true rfl) rfl rfl rfl rfl h (fun _ hq => s_X6_bestMove (by omega) hq) (fun x3 M2 h => ?_)
  exact x_iret dX11_best_7 rfl h
def f_X1_add (v0 : Nat) (v1 : Int32) (v2 : Int32) (v3 : Int64) (M : jM) : jO Unit :=
  (jv (((nI 4) * v1) + v2)).bind fun y1 =>
  if y1 < 0 then
    rt () M
  else
    (gR 1 M v0 2).bind fun r2 =>
    (ln M r2).bind fun x3 =>
    if x3 ≤ y1 then
      rt () M
    else
      (gR 1 M v0 2).bind fun r4 =>
      (ldJ M r4 y1).bind fun x5 =>
      (stJ M r4 y1 (x5 + v3)).bind fun M6 =>
      rt () M6
theorem s_X1_add {G : jG} {d : Nat} (hd_ : 0 ≤ d) {v0 : Nat} {v1 : Int32} {v2 : Int32} {v3 : Int64} {M : jM} {b : Unit × jM} (h : f_X1_add  v0 v1 v2 v3 M = some b) : V G m_X1_add d 0 [(0, .ref v0), (1, .int v1), (2, .int v2), (3, .long v3)] [] M (jQb cU b) := by
  unfold f_X1_add at h
  refine v_iconst dX1_add_0 ic_4 ?_
  refine v_iload_n dX1_add_1 rfl 1 rfl ?_
  refine v_imul dX1_add_2 ?_
  refine v_iload_n dX1_add_3 rfl 2 rfl ?_
  refine v_iadd dX1_add_4 ?_
  refine x_jvI h (fun y1 h => ?_)
  refine v_istore (ls2 := [(5, .int y1), (0, .ref v0), (1, .int v1), (2, .int v2), (3, .long v3)]) dX1_add_5 (by decide) rfl ?_
  refine v_iload dX1_add_7 0 rfl ?_
  refine x_if_lt (tgt := 33) dX1_add_9 (by decide) h (fun h => ?_) (fun h => ?_)
  · exact x_vret dX1_add_33 rfl h
  · refine v_iload dX1_add_12 0 rfl ?_
    refine v_aload_n dX1_add_14 rfl 1 rfl ?_
    refine x_gR dX1_add_15 kf_X1_18 rfl h (fun r2 h => ?_)
    refine x_ln dX1_add_18 h (fun x3 h => ?_)
    refine x_ic_ge (tgt := 33) dX1_add_19 (by decide) h (fun h => ?_) (fun h => ?_)
    · exact x_vret dX1_add_33 rfl h
    · refine v_aload_n dX1_add_22 rfl 1 rfl ?_
      refine x_gR dX1_add_23 kf_X1_18 rfl h (fun r4 h => ?_)
      refine v_iload dX1_add_26 0 rfl ?_
      refine v_dup2 dX1_add_28 rfl rfl ?_
      refine x_ldJ dX1_add_29 h (fun x5 h => ?_)
      refine v_lload_n dX1_add_30 rfl 4 rfl ?_
      refine v_ladd dX1_add_31 ?_
      refine x_stJ dX1_add_32 h (fun M6 h => ?_)
      exact x_vret dX1_add_33 rfl h
def j_X9_bond_28  (v0 : Nat) (v1 : Int32) (v2 : Int32) (s0 : Int32) (M : jM) : jO Int32 :=
  (gR 8 M v0 2).bind fun r1 =>
  (ldI M r1 v1).bind fun x2 =>
  (gR 8 M v0 2).bind fun r3 =>
  (ldI M r3 v2).bind fun x4 =>
  rt ((s0 ||| (((x2 >>> (v2 &&& 31)) &&& (nI 1)) <<< ((nI 1) &&& 31))) ||| (((x4 >>> (v1 &&& 31)) &&& (nI 1)) <<< ((nI 2) &&& 31))) M
theorem t_X9_bond_28 {G : jG} {d : Nat} (hd_ : 1 ≤ d)  {v0 : Nat} {v1 : Int32} {v2 : Int32} {s0 : Int32} {M : jM} {b : Int32 × jM} (h : j_X9_bond_28  v0 v1 v2 s0 M = some b) : V G m_X9_bond d 28 [(0, .ref v0), (1, .int v1), (2, .int v2)] [.int s0] M (jQb cI b) := by
  unfold j_X9_bond_28 at h
  refine v_aload_n dX9_bond_28 rfl 0 rfl ?_
  refine x_gR dX9_bond_29 kf_X9_19 rfl h (fun r1 h => ?_)
  refine v_iload_n dX9_bond_32 rfl 1 rfl ?_
  refine x_ldI dX9_bond_33 h (fun x2 h => ?_)
  refine v_iload_n dX9_bond_34 rfl 2 rfl ?_
  refine v_ishr dX9_bond_35 ?_
  refine v_iconst dX9_bond_36 ic_1 ?_
  refine v_iand dX9_bond_37 ?_
  refine v_iconst dX9_bond_38 ic_1 ?_
  refine v_ishl dX9_bond_39 ?_
  refine v_ior dX9_bond_40 ?_
  refine v_aload_n dX9_bond_41 rfl 0 rfl ?_
  refine x_gR dX9_bond_42 kf_X9_19 rfl h (fun r3 h => ?_)
  refine v_iload_n dX9_bond_45 rfl 2 rfl ?_
  refine x_ldI dX9_bond_46 h (fun x4 h => ?_)
  refine v_iload_n dX9_bond_47 rfl 1 rfl ?_
  refine v_ishr dX9_bond_48 ?_
  refine v_iconst dX9_bond_49 ic_1 ?_
  refine v_iand dX9_bond_50 ?_
  refine v_iconst dX9_bond_51 ic_2 ?_
  refine v_ishl dX9_bond_52 ?_
  refine v_ior dX9_bond_53 ?_
  exact x_iret dX9_bond_54 rfl h
def f_X9_bond (v0 : Nat) (v1 : Int32) (v2 : Int32) (M : jM) : jO Int32 :=
  jb2 (jiv 8 M v0 (f_X9_has v0 v1 M)) fun x2 M1 =>
  if x2 = 0 then
    rt (nI 0) M1
  else
    jb2 (jiv 8 M1 v0 (f_X9_has v0 v2 M1)) fun x4 M3 =>
    if x4 = 0 then
      rt (nI 0) M3
    else
      if v1 = v2 then
        j_X9_bond_28 v0 v1 v2 (nI 1) M3
      else
        j_X9_bond_28 v0 v1 v2 (nI 0) M3
theorem s_X9_bond {G : jG} {d : Nat} (hd_ : 1 ≤ d) {v0 : Nat} {v1 : Int32} {v2 : Int32} {M : jM} {b : Int32 × jM} (h : f_X9_bond  v0 v1 v2 M = some b) : V G m_X9_bond d 0 [(0, .ref v0), (1, .int v1), (2, .int v2)] [] M (jQb cI b) := by
  unfold f_X9_bond at h
  refine v_aload_n dX9_bond_0 rfl 0 rfl ?_
  refine v_iload_n dX9_bond_1 rfl 1 rfl ?_
  refine x_inv (cv := cI) (As := [.int v1]) (rest := []) (ls2 := [(0, .ref v0), (1, .int v1)]) (ci := 8) (by omega) dX9_bond_2 ke_X9_has kv_X9_37 rfl rfl (by decide) (Nat.le_of_ble_eq_true rfl) rfl rfl rfl rfl h (fun _ hq => s_X9_has (by omega) hq) (fun x2 M1 h => ?_)
  refine x_if_eq (tgt := 16) dX9_bond_5 (by decide) h (fun h => ?_) (fun h => ?_)
  · refine v_iconst dX9_bond_16 ic_0 ?_
    exact x_iret dX9_bond_17 rfl h
  · refine v_aload_n dX9_bond_8 rfl 0 rfl ?_
    refine v_iload_n dX9_bond_9 rfl 2 rfl ?_
    refine x_inv (cv := cI) (As := [.int v2]) (rest := []) (ls2 := [(0, .ref v0), (1, .int v2)]) (ci := 8) (by omega) dX9_bond_10 ke_X9_has kv_X9_37 rfl rfl (by decide) (Nat.le_of_ble_eq_true rfl) rfl rfl rfl rfl h (fun _ hq => s_X9_has (by omega) hq) (fun x4 M3 h => ?_)
    refine x_if_ne (tgt := 18) dX9_bond_13 (by decide) h (fun h => ?_) (fun h => ?_)
    · refine v_iconst dX9_bond_16 ic_0 ?_
      exact x_iret dX9_bond_17 rfl h
    · refine v_iload_n dX9_bond_18 rfl 1 rfl ?_
      refine v_iload_n dX9_bond_19 rfl 2 rfl ?_
      refine x_ic_ne (tgt := 27) dX9_bond_20 (by decide) h (fun h => ?_) (fun h => ?_)
      · refine v_iconst dX9_bond_23 ic_1 ?_
        refine v_goto (tgt := 28) dX9_bond_24 (by decide) ?_
        exact t_X9_bond_28 hd_ h
      · refine v_iconst dX9_bond_27 ic_0 ?_
        exact t_X9_bond_28 hd_ h
def f_X9_looks (v0 : Nat) (v1 : Int32) (M : jM) : jO Int32 :=
  jb2 (jiv 8 M v0 (f_X9_has v0 v1 M)) fun x2 M1 =>
  if x2 = 0 then
    rt (nI 0) M1
  else
    (gR 8 M1 v0 1).bind fun r3 =>
    (ldI M1 r3 v1).bind fun x4 =>
    (gR 8 M1 v0 2).bind fun r5 =>
    (ldI M1 r5 v1).bind fun x6 =>
    rt (x4 ||| (((x6 >>> (v1 &&& 31)) &&& (nI 1)) <<< ((nI 2) &&& 31))) M1
theorem s_X9_looks {G : jG} {d : Nat} (hd_ : 1 ≤ d) {v0 : Nat} {v1 : Int32} {M : jM} {b : Int32 × jM} (h : f_X9_looks  v0 v1 M = some b) : V G m_X9_looks d 0 [(0, .ref v0), (1, .int v1)] [] M (jQb cI b) := by
  unfold f_X9_looks at h
  refine v_aload_n dX9_looks_0 rfl 0 rfl ?_
  refine v_iload_n dX9_looks_1 rfl 1 rfl ?_
  refine x_inv (cv := cI) (As := [.int v1]) (rest := []) (ls2 := [(0, .ref v0), (1, .int v1)]) (ci := 8) (by omega) dX9_looks_2 ke_X9_has kv_X9_37 rfl rfl (by decide) (Nat.le_of_ble_eq_true rfl) rfl rfl rfl rfl h (fun _ hq => s_X9_has (by omega) hq) (fun x2 M1 h => ?_)
  refine x_if_eq (tgt := 30) dX9_looks_5 (by decide) h (fun h => ?_) (fun h => ?_)
  · refine v_iconst dX9_looks_30 ic_0 ?_
    exact x_iret dX9_looks_31 rfl h
  · refine v_aload_n dX9_looks_8 rfl 0 rfl ?_
    refine x_gR dX9_looks_9 kf_X9_15 rfl h (fun r3 h => ?_)
    refine v_iload_n dX9_looks_12 rfl 1 rfl ?_
    refine x_ldI dX9_looks_13 h (fun x4 h => ?_)
    refine v_aload_n dX9_looks_14 rfl 0 rfl ?_
    refine x_gR dX9_looks_15 kf_X9_19 rfl h (fun r5 h => ?_)
    refine v_iload_n dX9_looks_18 rfl 1 rfl ?_
    refine x_ldI dX9_looks_19 h (fun x6 h => ?_)
    refine v_iload_n dX9_looks_20 rfl 1 rfl ?_
    refine v_ishr dX9_looks_21 ?_
    refine v_iconst dX9_looks_22 ic_1 ?_
    refine v_iand dX9_looks_23 ?_
    refine v_iconst dX9_looks_24 ic_2 ?_
    refine v_ishl dX9_looks_25 ?_
    refine v_ior dX9_looks_26 ?_
    refine v_goto (tgt := 31) dX9_looks_27 (by decide) ?_
    exact x_iret dX9_looks_31 rfl h
def j_X1_lookAt_99 (k9 : Nat → Nat → Int32 → Int32 → Int32 → Int32 → jM → jO Unit) (v0 : Nat) (v1 : Nat) (v2 : Int32) (v3 : Int32) (v4 : Int32) (v5 : Int32) (M : jM) : jO Unit :=
  k9 v0 v1 v2 v3 v4 (v5 + (nI 1)) M
theorem t_X1_lookAt_99 {G : jG} {d : Nat} (hd_ : 2 ≤ d) {k9 : Nat → Nat → Int32 → Int32 → Int32 → Int32 → jM → jO Unit} (hk9 : ∀ (w0 : Nat) (w1 : Nat) (w2 : Int32) (w3 : Int32) (w4 : Int32) (w5 : Int32) (M : jM) (b : Unit × jM), k9 w0 w1 w2 w3 w4 w5 M = some b → V G m_X1_lookAt d 9 [(0, .ref w0), (1, .ref w1), (2, .int w2), (3, .int w3), (4, .int w4), (5, .int w5)] [] M (jQb cU b)) {v0 : Nat} {v1 : Nat} {v2 : Int32} {v3 : Int32} {v4 : Int32} {v5 : Int32} {M : jM} {b : Unit × jM} (h : j_X1_lookAt_99 k9 v0 v1 v2 v3 v4 v5 M = some b) : V G m_X1_lookAt d 99 [(0, .ref v0), (1, .ref v1), (2, .int v2), (3, .int v3), (4, .int v4), (5, .int v5)] [] M (jQb cU b) := by
  unfold j_X1_lookAt_99 at h
  refine v_iincC (ls2 := [(5, .int (v5 + (nI 1))), (0, .ref v0), (1, .ref v1), (2, .int v2), (3, .int v3), (4, .int v4)]) dX1_lookAt_99 ic_1 5 rfl (by decide) rfl ?_
  refine v_goto (tgt := 9) dX1_lookAt_102 (by decide) ?_
  exact V.pick [1, 2, 3, 4, 5, 0] rfl (hk9 _ _ _ _ _ _ _ _ h)
def b_X1_lookAt_39 (k9 : Nat → Nat → Int32 → Int32 → Int32 → Int32 → jM → jO Unit) (k39 : Nat → Nat → Int32 → Int32 → Int32 → Int32 → Int32 → jM → jO Unit) (v0 : Nat) (v1 : Nat) (v2 : Int32) (v3 : Int32) (v4 : Int32) (v5 : Int32) (v6 : Int32) (M : jM) : jO Unit :=
  if v3 = 0 then
    j_X1_lookAt_99 k9 v0 v1 v2 v3 v4 v5 M
  else
    if v4 ≤ v6 then
      j_X1_lookAt_99 k9 v0 v1 v2 v3 v4 v5 M
    else
      jb2 (jiv 8 M v1 (f_X9_looks v1 v5 M)) fun x2 M1 =>
      jb2 (jiv 8 M1 v1 (f_X9_looks v1 v6 M1)) fun x4 M3 =>
      jb2 (jiv 8 M3 v1 (f_X9_bond v1 v5 v6 M3)) fun x6 M5 =>
      jb2 (jiv 1 M5 v0 (f_X1_add v0 ((v2 + (v5 * v4)) + v6) (nI 0) (Int32.toInt64 ((x2 ||| (x4 <<< ((nI 3) &&& 31))) ||| (x6 <<< ((nI 6) &&& 31)))) M5)) fun _ M7 =>
      k39 v0 v1 v2 v3 v4 v5 (v6 + (nI 1)) M7
def l_X1_lookAt_39 (k9 : Nat → Nat → Int32 → Int32 → Int32 → Int32 → jM → jO Unit) : Nat → Nat → Nat → Int32 → Int32 → Int32 → Int32 → Int32 → jM → jO Unit
  | 0 => fun _ _ _ _ _ _ _ _ => none
  | n + 1 => b_X1_lookAt_39 k9 (l_X1_lookAt_39 k9 n)
theorem tb_X1_lookAt_39 {G : jG} {d : Nat} (hd_ : 2 ≤ d) {k9 : Nat → Nat → Int32 → Int32 → Int32 → Int32 → jM → jO Unit} (hk9 : ∀ (w0 : Nat) (w1 : Nat) (w2 : Int32) (w3 : Int32) (w4 : Int32) (w5 : Int32) (M : jM) (b : Unit × jM), k9 w0 w1 w2 w3 w4 w5 M = some b → V G m_X1_lookAt d 9 [(0, .ref w0), (1, .ref w1), (2, .int w2), (3, .int w3), (4, .int w4), (5, .int w5)] [] M (jQb cU b)) {k39 : Nat → Nat → Int32 → Int32 → Int32 → Int32 → Int32 → jM → jO Unit} (hk39 : ∀ (w0 : Nat) (w1 : Nat) (w2 : Int32) (w3 : Int32) (w4 : Int32) (w5 : Int32) (w6 : Int32) (M : jM) (b : Unit × jM), k39 w0 w1 w2 w3 w4 w5 w6 M = some b → V G m_X1_lookAt d 39 [(0, .ref w0), (1, .ref w1), (2, .int w2), (3, .int w3), (4, .int w4), (5, .int w5), (6, .int w6)] [] M (jQb cU b)) {v0 : Nat} {v1 : Nat} {v2 : Int32} {v3 : Int32} {v4 : Int32} {v5 : Int32} {v6 : Int32} {M : jM} {b : Unit × jM} (h : b_X1_lookAt_39 k9 k39 v0 v1 v2 v3 v4 v5 v6 M = some b) : V G m_X1_lookAt d 39 [(0, .ref v0), (1, .ref v1), (2, .int v2), (3, .int v3), (4, .int v4), (5, .int v5), (6, .int v6)] [] M (jQb cU b) := by
  unfold b_X1_lookAt_39 at h
  refine v_iload_n dX1_lookAt_39 rfl 3 rfl ?_
  refine x_if_eq (tgt := 99) dX1_lookAt_40 (by decide) h (fun h => ?_) (fun h => ?_)
  · exact V.pick [0, 1, 2, 3, 4, 5] rfl (t_X1_lookAt_99 hd_ hk9 h)
  · refine v_iload dX1_lookAt_43 6 rfl ?_
    refine v_iload dX1_lookAt_45 4 rfl ?_
    refine x_ic_ge (tgt := 99) dX1_lookAt_47 (by decide) h (fun h => ?_) (fun h => ?_)
    · exact V.pick [0, 1, 2, 3, 4, 5] rfl (t_X1_lookAt_99 hd_ hk9 h)
    · refine v_aload_n dX1_lookAt_50 rfl 0 rfl ?_
      refine v_iload_n dX1_lookAt_51 rfl 2 rfl ?_
      refine v_iload dX1_lookAt_52 5 rfl ?_
      refine v_iload dX1_lookAt_54 4 rfl ?_
      refine v_imul dX1_lookAt_56 ?_
      refine v_iadd dX1_lookAt_57 ?_
      refine v_iload dX1_lookAt_58 6 rfl ?_
      refine v_iadd dX1_lookAt_60 ?_
      refine v_iconst dX1_lookAt_61 ic_0 ?_
      refine v_aload_n dX1_lookAt_62 rfl 1 rfl ?_
      refine v_iload dX1_lookAt_63 5 rfl ?_
      refine x_inv (cv := cI) (As := [.int v5]) (rest := [.int (nI 0), .int ((v2 + (v5 * v4)) + v6), .ref v0]) (ls2 := [(0, .ref v1), (1, .int v5)]) (ci := 8) (by omega) dX1_lookAt_65 ke_X9_looks kv_X1_67 rfl rfl (by decide) (Nat.le_of_ble_eq_true rfl) rfl rfl rfl rfl h (fun _ hq => s_X9_looks (by omega) hq) (fun x2 M1 h => ?_)
      refine v_aload_n dX1_lookAt_68 rfl 1 rfl ?_
      refine v_iload dX1_lookAt_69 6 rfl ?_
      refine x_inv (cv := cI) (As := [.int v6]) (rest := [.int x2, .int (nI 0), .int ((v2 + (v5 * v4)) + v6), .ref v0]) (ls2 := [(0, .ref v1), (1, .int v6)]) (ci := 8) (by omega) dX1_lookAt_71 ke_X9_looks kv_X1_67 rfl rfl (by decide) (Nat.le_of_ble_eq_true rfl) rfl rfl rfl rfl h (fun _ hq => s_X9_looks (by omega) hq) (fun x4 M3 h => ?_)
      refine v_iconst dX1_lookAt_74 ic_3 ?_
      refine v_ishl dX1_lookAt_75 ?_
      refine v_ior dX1_lookAt_76 ?_
      refine v_aload_n dX1_lookAt_77 rfl 1 rfl ?_
      refine v_iload dX1_lookAt_78 5 rfl ?_
      refine v_iload dX1_lookAt_80 6 rfl ?_
      refine x_inv (cv := cI) (As := [.int v5, .int v6]) (rest := [.int (x2 ||| (x4 <<< ((nI 3) &&& 31))), .int (nI 0), .int ((v2 + (v5 * v4)) + v6), .ref v0]) (ls2 := [(0, .ref v1), (1, .int v5), (2, .int v6)]) (ci := 8) (by omega) dX1_lookAt_82 ke_X9_bond kv_X1_74 rfl rfl (by decide) (Nat.le_of_ble_eq_true rfl) rfl rfl rfl rfl h (fun _ hq => s_X9_bond (by omega) hq) (fun x6 M5 h => ?_)
      refine v_bipush dX1_lookAt_85 bp_6 ?_
      refine v_ishl dX1_lookAt_87 ?_
      refine v_ior dX1_lookAt_88 ?_
      refine v_i2l dX1_lookAt_89 ?_
      refine x_inv (cv := cU) (As := [.int ((v2 + (v5 * v4)) + v6), .int (nI 0), .long (Int32.toInt64 ((x2 ||| (x4 <<< ((nI 3) &&& 31))) ||| (x6 <<< ((nI 6) &&& 31))))]) (rest := []) (ls2 := [(0, .ref v0), (1, .int ((v2 + (v5 * v4)) + v6)), (2, .int (nI 0)), (3, .long (Int32.toInt64 ((x2 ||| (x4 <<< ((nI 3) &&& 31))) ||| (x6 <<< ((nI 6) &&& 31)))))]) (ci := 1) (by omega) dX1_lookAt_90 ke_X1_add kv_X1_70 rfl rfl (by decide) (Nat.le_of_ble_eq_true rfl) rfl rfl rfl rfl h (fun _ hq => s_X1_add (by omega) hq) (fun _ M7 h => ?_)
      refine v_iincC (ls2 := [(6, .int (v6 + (nI 1))), (0, .ref v0), (1, .ref v1), (2, .int v2), (3, .int v3), (4, .int v4), (5, .int v5)]) dX1_lookAt_93 ic_1 6 rfl (by decide) rfl ?_
      refine v_goto (tgt := 39) dX1_lookAt_96 (by decide) ?_
      exact V.pick [1, 2, 3, 4, 5, 6, 0] rfl (hk39 _ _ _ _ _ _ _ _ _ h)
theorem t_X1_lookAt_39 {G : jG} {d : Nat} (hd_ : 2 ≤ d) {k9 : Nat → Nat → Int32 → Int32 → Int32 → Int32 → jM → jO Unit} (hk9 : ∀ (w0 : Nat) (w1 : Nat) (w2 : Int32) (w3 : Int32) (w4 : Int32) (w5 : Int32) (M : jM) (b : Unit × jM), k9 w0 w1 w2 w3 w4 w5 M = some b → V G m_X1_lookAt d 9 [(0, .ref w0), (1, .ref w1), (2, .int w2), (3, .int w3), (4, .int w4), (5, .int w5)] [] M (jQb cU b)) : ∀ (n : Nat) (v0 : Nat) (v1 : Nat) (v2 : Int32) (v3 : Int32) (v4 : Int32) (v5 : Int32) (v6 : Int32) (M : jM) (b : Unit × jM), l_X1_lookAt_39 k9 n v0 v1 v2 v3 v4 v5 v6 M = some b → V G m_X1_lookAt d 39 [(0, .ref v0), (1, .ref v1), (2, .int v2), (3, .int v3), (4, .int v4), (5, .int v5), (6, .int v6)] [] M (jQb cU b) := by
  intro n
  induction n with
  | zero => intro v0 v1 v2 v3 v4 v5 v6 M b h; exact nomatch (show (none : jO Unit) = some b from h)
  | succ n ih => intro v0 v1 v2 v3 v4 v5 v6 M b h; exact tb_X1_lookAt_39 hd_ hk9 ih h
def j_X1_lookAt_36 (k9 : Nat → Nat → Int32 → Int32 → Int32 → Int32 → jM → jO Unit) (v0 : Nat) (v1 : Nat) (v2 : Int32) (v3 : Int32) (v4 : Int32) (v5 : Int32) (M : jM) : jO Unit :=
  l_X1_lookAt_39 k9 jF0 v0 v1 v2 v3 v4 v5 (nI 0) M
theorem t_X1_lookAt_36 {G : jG} {d : Nat} (hd_ : 2 ≤ d) {k9 : Nat → Nat → Int32 → Int32 → Int32 → Int32 → jM → jO Unit} (hk9 : ∀ (w0 : Nat) (w1 : Nat) (w2 : Int32) (w3 : Int32) (w4 : Int32) (w5 : Int32) (M : jM) (b : Unit × jM), k9 w0 w1 w2 w3 w4 w5 M = some b → V G m_X1_lookAt d 9 [(0, .ref w0), (1, .ref w1), (2, .int w2), (3, .int w3), (4, .int w4), (5, .int w5)] [] M (jQb cU b)) {v0 : Nat} {v1 : Nat} {v2 : Int32} {v3 : Int32} {v4 : Int32} {v5 : Int32} {M : jM} {b : Unit × jM} (h : j_X1_lookAt_36 k9 v0 v1 v2 v3 v4 v5 M = some b) : V G m_X1_lookAt d 36 [(0, .ref v0), (1, .ref v1), (2, .int v2), (3, .int v3), (4, .int v4), (5, .int v5)] [] M (jQb cU b) := by
  unfold j_X1_lookAt_36 at h
  refine v_iconst dX1_lookAt_36 ic_0 ?_
  refine v_istore (ls2 := [(6, .int (nI 0)), (0, .ref v0), (1, .ref v1), (2, .int v2), (3, .int v3), (4, .int v4), (5, .int v5)]) dX1_lookAt_37 (by decide) rfl ?_
  exact V.pick [1, 2, 3, 4, 5, 6, 0] rfl (t_X1_lookAt_39 hd_ hk9 _ _ _ _ _ _ _ _ _ _ h)
def b_X1_lookAt_9  (k9 : Nat → Nat → Int32 → Int32 → Int32 → Int32 → jM → jO Unit) (v0 : Nat) (v1 : Nat) (v2 : Int32) (v3 : Int32) (v4 : Int32) (v5 : Int32) (M : jM) : jO Unit :=
  if v4 ≤ v5 then
    rt () M
  else
    if v3 = 0 then
      jb2 (jiv 8 M v1 (f_X9_looks v1 v5 M)) fun x2 M1 =>
      jb2 (jiv 1 M1 v0 (f_X1_add v0 (v2 + v5) (nI 0) (Int32.toInt64 x2) M1)) fun _ M3 =>
      j_X1_lookAt_36 k9 v0 v1 v2 v3 v4 v5 M3
    else
      j_X1_lookAt_36 k9 v0 v1 v2 v3 v4 v5 M
def l_X1_lookAt_9  : Nat → Nat → Nat → Int32 → Int32 → Int32 → Int32 → jM → jO Unit
  | 0 => fun _ _ _ _ _ _ _ => none
  | n + 1 => b_X1_lookAt_9  (l_X1_lookAt_9  n)
theorem tb_X1_lookAt_9 {G : jG} {d : Nat} (hd_ : 2 ≤ d)  {k9 : Nat → Nat → Int32 → Int32 → Int32 → Int32 → jM → jO Unit} (hk9 : ∀ (w0 : Nat) (w1 : Nat) (w2 : Int32) (w3 : Int32) (w4 : Int32) (w5 : Int32) (M : jM) (b : Unit × jM), k9 w0 w1 w2 w3 w4 w5 M = some b → V G m_X1_lookAt d 9 [(0, .ref w0), (1, .ref w1), (2, .int w2), (3, .int w3), (4, .int w4), (5, .int w5)] [] M (jQb cU b)) {v0 : Nat} {v1 : Nat} {v2 : Int32} {v3 : Int32} {v4 : Int32} {v5 : Int32} {M : jM} {b : Unit × jM} (h : b_X1_lookAt_9  k9 v0 v1 v2 v3 v4 v5 M = some b) : V G m_X1_lookAt d 9 [(0, .ref v0), (1, .ref v1), (2, .int v2), (3, .int v3), (4, .int v4), (5, .int v5)] [] M (jQb cU b) := by
  unfold b_X1_lookAt_9 at h
  refine v_iload dX1_lookAt_9 5 rfl ?_
  refine v_iload dX1_lookAt_11 4 rfl ?_
  refine x_ic_ge (tgt := 105) dX1_lookAt_13 (by decide) h (fun h => ?_) (fun h => ?_)
  · exact x_vret dX1_lookAt_105 rfl h
  · refine v_iload_n dX1_lookAt_16 rfl 3 rfl ?_
    refine x_if_ne (tgt := 36) dX1_lookAt_17 (by decide) h (fun h => ?_) (fun h => ?_)
    · refine v_aload_n dX1_lookAt_20 rfl 0 rfl ?_
      refine v_iload_n dX1_lookAt_21 rfl 2 rfl ?_
      refine v_iload dX1_lookAt_22 5 rfl ?_
      refine v_iadd dX1_lookAt_24 ?_
      refine v_iconst dX1_lookAt_25 ic_0 ?_
      refine v_aload_n dX1_lookAt_26 rfl 1 rfl ?_
      refine v_iload dX1_lookAt_27 5 rfl ?_
      refine x_inv (cv := cI) (As := [.int v5]) (rest := [.int (nI 0), .int (v2 + v5), .ref v0]) (ls2 := [(0, .ref v1), (1, .int v5)]) (ci := 8) (by omega) dX1_lookAt_29 ke_X9_looks kv_X1_67 rfl rfl (by decide) (Nat.le_of_ble_eq_true rfl) rfl rfl rfl rfl h (fun _ hq => s_X9_looks (by omega) hq) (fun x2 M1 h => ?_)
      refine v_i2l dX1_lookAt_32 ?_
      refine x_inv (cv := cU) (As := [.int (v2 + v5), .int (nI 0), .long (Int32.toInt64 x2)]) (rest := []) (ls2 := [(0, .ref v0), (1, .int (v2 + v5)), (2, .int (nI 0)), (3, .long (Int32.toInt64 x2))]) (ci := 1) (by omega) dX1_lookAt_33 ke_X1_add kv_X1_70 rfl rfl (by decide) (Nat.le_of_ble_eq_true rfl) rfl rfl rfl rfl h (fun _ hq => s_X1_add (by omega) hq) (fun _ M3 h => ?_)
      exact t_X1_lookAt_36 hd_ hk9 h
    · exact t_X1_lookAt_36 hd_ hk9 h
theorem t_X1_lookAt_9 {G : jG} {d : Nat} (hd_ : 2 ≤ d)  : ∀ (n : Nat) (v0 : Nat) (v1 : Nat) (v2 : Int32) (v3 : Int32) (v4 : Int32) (v5 : Int32) (M : jM) (b : Unit × jM), l_X1_lookAt_9  n v0 v1 v2 v3 v4 v5 M = some b → V G m_X1_lookAt d 9 [(0, .ref v0), (1, .ref v1), (2, .int v2), (3, .int v3), (4, .int v4), (5, .int v5)] [] M (jQb cU b) := by
  intro n
  induction n with
  | zero => intro v0 v1 v2 v3 v4 v5 M b h; exact nomatch (show (none : jO Unit) = some b from h)
  | succ n ih => intro v0 v1 v2 v3 v4 v5 M b h; exact tb_X1_lookAt_9 hd_  ih h
def f_X1_lookAt (v0 : Nat) (v1 : Nat) (v2 : Int32) (v3 : Int32) (M : jM) : jO Unit :=
  jb2 (jiv 8 M v1 (f_X9_size v1 M)) fun x2 M1 =>
  l_X1_lookAt_9 jF0 v0 v1 v2 v3 x2 (nI 0) M1
theorem s_X1_lookAt {G : jG} {d : Nat} (hd_ : 2 ≤ d) {v0 : Nat} {v1 : Nat} {v2 : Int32} {v3 : Int32} {M : jM} {b : Unit × jM} (h : f_X1_lookAt  v0 v1 v2 v3 M = some b) : V G m_X1_lookAt d 0 [(0, .ref v0), (1, .ref v1), (2, .int v2), (3, .int v3)] [] M (jQb cU b) := by
  unfold f_X1_lookAt at h
  refine v_aload_n dX1_lookAt_0 rfl 1 rfl ?_
  refine x_inv (cv := cI) (As := []) (rest := []) (ls2 := [(0, .ref v1)]) (ci := 8) (by omega) dX1_lookAt_1 ke_X9_size kv_X1_42 rfl rfl (by decide) (Nat.le_of_ble_eq_true rfl) rfl rfl rfl rfl h (fun _ hq => s_X9_size (by omega) hq) (fun x2 M1 h => ?_)
  refine v_istore (ls2 := [(4, .int x2), (0, .ref v0), (1, .ref v1), (2, .int v2), (3, .int v3)]) dX1_lookAt_4 (by decide) rfl ?_
  refine v_iconst dX1_lookAt_6 ic_0 ?_
  refine v_istore (ls2 := [(5, .int (nI 0)), (4, .int x2), (0, .ref v0), (1, .ref v1), (2, .int v2), (3, .int v3)]) dX1_lookAt_7 (by decide) rfl ?_
  exact V.pick [2, 3, 4, 5, 1, 0] rfl (t_X1_lookAt_9 hd_ _ _ _ _ _ _ _ _ _ h)
def f_X1_colourAt (v0 : Nat) (v1 : Int32) (M : jM) : jO Int32 :=
  if v1 < 0 then
    rt (nI 0) M
  else
    (gR 1 M v0 0).bind fun r1 =>
    (ln M r1).bind fun x2 =>
    if x2 ≤ v1 then
      rt (nI 0) M
    else
      (gR 1 M v0 0).bind fun r3 =>
      (ldI M r3 v1).bind fun x4 =>
      rt x4 M
theorem s_X1_colourAt {G : jG} {d : Nat} (hd_ : 0 ≤ d) {v0 : Nat} {v1 : Int32} {M : jM} {b : Int32 × jM} (h : f_X1_colourAt  v0 v1 M = some b) : V G m_X1_colourAt d 0 [(0, .ref v0), (1, .int v1)] [] M (jQb cI b) := by
  unfold f_X1_colourAt at h
  refine v_iload_n dX1_colourAt_0 rfl 1 rfl ?_
  refine x_if_lt (tgt := 22) dX1_colourAt_1 (by decide) h (fun h => ?_) (fun h => ?_)
  · refine v_iconst dX1_colourAt_22 ic_0 ?_
    exact x_iret dX1_colourAt_23 rfl h
  · refine v_iload_n dX1_colourAt_4 rfl 1 rfl ?_
    refine v_aload_n dX1_colourAt_5 rfl 0 rfl ?_
    refine x_gR dX1_colourAt_6 kf_X1_9 rfl h (fun r1 h => ?_)
    refine x_ln dX1_colourAt_9 h (fun x2 h => ?_)
    refine x_ic_ge (tgt := 22) dX1_colourAt_10 (by decide) h (fun h => ?_) (fun h => ?_)
    · refine v_iconst dX1_colourAt_22 ic_0 ?_
      exact x_iret dX1_colourAt_23 rfl h
    · refine v_aload_n dX1_colourAt_13 rfl 0 rfl ?_
      refine x_gR dX1_colourAt_14 kf_X1_9 rfl h (fun r3 h => ?_)
      refine v_iload_n dX1_colourAt_17 rfl 1 rfl ?_
      refine x_ldI dX1_colourAt_18 h (fun x4 h => ?_)
      refine v_goto (tgt := 23) dX1_colourAt_19 (by decide) ?_
      exact x_iret dX1_colourAt_23 rfl h
def b_X1_haveSameSignature_39  (k39 : Nat → Int32 → Int32 → Int32 → jM → jO Int32) (v0 : Nat) (v3 : Int32) (v4 : Int32) (v5 : Int32) (M : jM) : jO Int32 :=
  if (nI 4) ≤ v5 then
    rZ (nI 1) M
  else
    (gR 1 M v0 2).bind fun r1 =>
    (ldJ M r1 (v3 + v5)).bind fun x2 =>
    (gR 1 M v0 2).bind fun r3 =>
    (ldJ M r3 (v4 + v5)).bind fun x4 =>
    if (lg_cmp x2 x4) = 0 then
      k39 v0 v3 v4 (v5 + (nI 1)) M
    else
      rZ (nI 0) M
def l_X1_haveSameSignature_39  : Nat → Nat → Int32 → Int32 → Int32 → jM → jO Int32
  | 0 => fun _ _ _ _ _ => none
  | n + 1 => b_X1_haveSameSignature_39  (l_X1_haveSameSignature_39  n)
theorem tb_X1_haveSameSignature_39 {G : jG} {d : Nat} (hd_ : 1 ≤ d)  {k39 : Nat → Int32 → Int32 → Int32 → jM → jO Int32} (hk39 : ∀ (w0 : Nat) (w3 : Int32) (w4 : Int32) (w5 : Int32) (M : jM) (b : Int32 × jM), k39 w0 w3 w4 w5 M = some b → V G m_X1_haveSameSignature d 39 [(0, .ref w0), (3, .int w3), (4, .int w4), (5, .int w5)] [] M (jQb cI b)) {v0 : Nat} {v3 : Int32} {v4 : Int32} {v5 : Int32} {M : jM} {b : Int32 × jM} (h : b_X1_haveSameSignature_39  k39 v0 v3 v4 v5 M = some b) : V G m_X1_haveSameSignature d 39 [(0, .ref v0), (3, .int v3), (4, .int v4), (5, .int v5)] [] M (jQb cI b) := by
  unfold b_X1_haveSameSignature_39 at h
  refine v_iload dX1_haveSameSignature_39 3 rfl ?_
  refine v_iconst dX1_haveSameSignature_41 ic_4 ?_
  refine x_ic_ge (tgt := 76) dX1_haveSameSignature_42 (by decide) h (fun h => ?_) (fun h => ?_)
  · refine v_iconst dX1_haveSameSignature_76 ic_1 ?_
    exact x_zret dX1_haveSameSignature_77 rfl h
  · refine v_aload_n dX1_haveSameSignature_45 rfl 0 rfl ?_
    refine x_gR dX1_haveSameSignature_46 kf_X1_18 rfl h (fun r1 h => ?_)
    refine v_iload_n dX1_haveSameSignature_49 rfl 1 rfl ?_
    refine v_iload dX1_haveSameSignature_50 3 rfl ?_
    refine v_iadd dX1_haveSameSignature_52 ?_
    refine x_ldJ dX1_haveSameSignature_53 h (fun x2 h => ?_)
    refine v_aload_n dX1_haveSameSignature_54 rfl 0 rfl ?_
    refine x_gR dX1_haveSameSignature_55 kf_X1_18 rfl h (fun r3 h => ?_)
    refine v_iload dX1_haveSameSignature_58 2 rfl ?_
    refine v_iload dX1_haveSameSignature_60 3 rfl ?_
    refine v_iadd dX1_haveSameSignature_62 ?_
    refine x_ldJ dX1_haveSameSignature_63 h (fun x4 h => ?_)
    refine v_lcmp dX1_haveSameSignature_64 ?_
    refine x_if_eq (tgt := 70) dX1_haveSameSignature_65 (by decide) h (fun h => ?_) (fun h => ?_)
    · refine v_iincC (ls2 := [(5, .int (v5 + (nI 1))), (0, .ref v0), (3, .int v3), (4, .int v4)]) dX1_haveSameSignature_70 ic_1 3 rfl (by decide) rfl ?_
      refine v_goto (tgt := 39) dX1_haveSameSignature_73 (by decide) ?_
      exact V.pick [1, 2, 3, 0] rfl (hk39 _ _ _ _ _ _ h)
    · refine v_iconst dX1_haveSameSignature_68 ic_0 ?_
      exact x_zret dX1_haveSameSignature_69 rfl h
theorem t_X1_haveSameSignature_39 {G : jG} {d : Nat} (hd_ : 1 ≤ d)  : ∀ (n : Nat) (v0 : Nat) (v3 : Int32) (v4 : Int32) (v5 : Int32) (M : jM) (b : Int32 × jM), l_X1_haveSameSignature_39  n v0 v3 v4 v5 M = some b → V G m_X1_haveSameSignature d 39 [(0, .ref v0), (3, .int v3), (4, .int v4), (5, .int v5)] [] M (jQb cI b) := by
  intro n
  induction n with
  | zero => intro v0 v3 v4 v5 M b h; exact nomatch (show (none : jO Int32) = some b from h)
  | succ n ih => intro v0 v3 v4 v5 M b h; exact tb_X1_haveSameSignature_39 hd_  ih h
def f_X1_haveSameSignature (v0 : Nat) (v1 : Int32) (v2 : Int32) (M : jM) : jO Int32 :=
  (jv ((nI 4) * v1)).bind fun y1 =>
  (jv ((nI 4) * v2)).bind fun y2 =>
  if y1 < 0 then
    rZ (nI 0) M
  else
    if y2 < 0 then
      rZ (nI 0) M
    else
      (gR 1 M v0 2).bind fun r3 =>
      (ln M r3).bind fun x4 =>
      if ((jmx y1 y2) + (nI 4)) ≤ x4 then
        l_X1_haveSameSignature_39 jF0 v0 y1 y2 (nI 0) M
      else
        rZ (nI 0) M
theorem s_X1_haveSameSignature {G : jG} {d : Nat} (hd_ : 1 ≤ d) {v0 : Nat} {v1 : Int32} {v2 : Int32} {M : jM} {b : Int32 × jM} (h : f_X1_haveSameSignature  v0 v1 v2 M = some b) : V G m_X1_haveSameSignature d 0 [(0, .ref v0), (1, .int v1), (2, .int v2)] [] M (jQb cI b) := by
  unfold f_X1_haveSameSignature at h
  refine v_iconst dX1_haveSameSignature_0 ic_4 ?_
  refine v_iload_n dX1_haveSameSignature_1 rfl 1 rfl ?_
  refine v_imul dX1_haveSameSignature_2 ?_
  refine x_jvI h (fun y1 h => ?_)
  refine v_istore_n (ls2 := [(3, .int y1), (0, .ref v0), (1, .int v1), (2, .int v2)]) dX1_haveSameSignature_3 rfl (by decide) rfl ?_
  refine v_iconst dX1_haveSameSignature_4 ic_4 ?_
  refine v_iload_n dX1_haveSameSignature_5 rfl 3 rfl ?_
  refine v_imul dX1_haveSameSignature_6 ?_
  refine x_jvI h (fun y2 h => ?_)
  refine v_istore (ls2 := [(4, .int y2), (3, .int y1), (0, .ref v0), (1, .int v1), (2, .int v2)]) dX1_haveSameSignature_7 (by decide) rfl ?_
  refine v_iload_n dX1_haveSameSignature_9 rfl 1 rfl ?_
  refine x_if_lt (tgt := 34) dX1_haveSameSignature_10 (by decide) h (fun h => ?_) (fun h => ?_)
  · refine v_iconst dX1_haveSameSignature_34 ic_0 ?_
    exact x_zret dX1_haveSameSignature_35 rfl h
  · refine v_iload dX1_haveSameSignature_13 0 rfl ?_
    refine x_if_lt (tgt := 34) dX1_haveSameSignature_15 (by decide) h (fun h => ?_) (fun h => ?_)
    · refine v_iconst dX1_haveSameSignature_34 ic_0 ?_
      exact x_zret dX1_haveSameSignature_35 rfl h
    · refine v_iload_n dX1_haveSameSignature_18 rfl 1 rfl ?_
      refine v_iload dX1_haveSameSignature_19 0 rfl ?_
      refine v_mmax (by omega) dX1_haveSameSignature_21 kh_X1_106 rfl ?_
      refine v_iconst dX1_haveSameSignature_24 ic_4 ?_
      refine v_iadd dX1_haveSameSignature_25 ?_
      refine v_aload_n dX1_haveSameSignature_26 rfl 2 rfl ?_
      refine x_gR dX1_haveSameSignature_27 kf_X1_18 rfl h (fun r3 h => ?_)
      refine x_ln dX1_haveSameSignature_30 h (fun x4 h => ?_)
      refine x_ic_le (tgt := 36) dX1_haveSameSignature_31 (by decide) h (fun h => ?_) (fun h => ?_)
      · refine v_iconst dX1_haveSameSignature_36 ic_0 ?_
        refine v_istore (ls2 := [(5, .int (nI 0)), (4, .int y2), (3, .int y1), (0, .ref v0), (1, .int v1), (2, .int v2)]) dX1_haveSameSignature_37 (by decide) rfl ?_
        exact V.pick [3, 2, 1, 0] rfl (t_X1_haveSameSignature_39 hd_ _ _ _ _ _ _ _ h)
      · refine v_iconst dX1_haveSameSignature_34 ic_0 ?_
        exact x_zret dX1_haveSameSignature_35 rfl h
def j_X1_firstLike_31 (k2 : Nat → Int32 → Int32 → jM → jO Int32) (v0 : Nat) (v1 : Int32) (v2 : Int32) (M : jM) : jO Int32 :=
  k2 v0 v1 (v2 + (nI 1)) M
theorem t_X1_firstLike_31 {G : jG} {d : Nat} (hd_ : 2 ≤ d) {k2 : Nat → Int32 → Int32 → jM → jO Int32} (hk2 : ∀ (w0 : Nat) (w1 : Int32) (w2 : Int32) (M : jM) (b : Int32 × jM), k2 w0 w1 w2 M = some b → V G m_X1_firstLike d 2 [(0, .ref w0), (1, .int w1), (2, .int w2)] [] M (jQb cI b)) {v0 : Nat} {v1 : Int32} {v2 : Int32} {M : jM} {b : Int32 × jM} (h : j_X1_firstLike_31 k2 v0 v1 v2 M = some b) : V G m_X1_firstLike d 31 [(0, .ref v0), (1, .int v1), (2, .int v2)] [] M (jQb cI b) := by
  unfold j_X1_firstLike_31 at h
  refine v_iincC (ls2 := [(2, .int (v2 + (nI 1))), (0, .ref v0), (1, .int v1)]) dX1_firstLike_31 ic_1 2 rfl (by decide) rfl ?_
  refine v_goto (tgt := 2) dX1_firstLike_34 (by decide) ?_
  exact V.pick [1, 2, 0] rfl (hk2 _ _ _ _ _ h)
def b_X1_firstLike_2  (k2 : Nat → Int32 → Int32 → jM → jO Int32) (v0 : Nat) (v1 : Int32) (v2 : Int32) (M : jM) : jO Int32 :=
  if v1 ≤ v2 then
    rt v1 M
  else
    jb2 (jiv 1 M v0 (f_X1_colourAt v0 v2 M)) fun x2 M1 =>
    jb2 (jiv 1 M1 v0 (f_X1_colourAt v0 v1 M1)) fun x4 M3 =>
    if x2 = x4 then
      jb2 (jiv 1 M3 v0 (f_X1_haveSameSignature v0 v2 v1 M3)) fun x6 M5 =>
      if x6 = 0 then
        j_X1_firstLike_31 k2 v0 v1 v2 M5
      else
        rt v2 M5
    else
      j_X1_firstLike_31 k2 v0 v1 v2 M3
def l_X1_firstLike_2  : Nat → Nat → Int32 → Int32 → jM → jO Int32
  | 0 => fun _ _ _ _ => none
  | n + 1 => b_X1_firstLike_2  (l_X1_firstLike_2  n)
theorem tb_X1_firstLike_2 {G : jG} {d : Nat} (hd_ : 2 ≤ d)  {k2 : Nat → Int32 → Int32 → jM → jO Int32} (hk2 : ∀ (w0 : Nat) (w1 : Int32) (w2 : Int32) (M : jM) (b : Int32 × jM), k2 w0 w1 w2 M = some b → V G m_X1_firstLike d 2 [(0, .ref w0), (1, .int w1), (2, .int w2)] [] M (jQb cI b)) {v0 : Nat} {v1 : Int32} {v2 : Int32} {M : jM} {b : Int32 × jM} (h : b_X1_firstLike_2  k2 v0 v1 v2 M = some b) : V G m_X1_firstLike d 2 [(0, .ref v0), (1, .int v1), (2, .int v2)] [] M (jQb cI b) := by
  unfold b_X1_firstLike_2 at h
  refine v_iload_n dX1_firstLike_2 rfl 2 rfl ?_
  refine v_iload_n dX1_firstLike_3 rfl 1 rfl ?_
  refine x_ic_ge (tgt := 37) dX1_firstLike_4 (by decide) h (fun h => ?_) (fun h => ?_)
  · refine v_iload_n dX1_firstLike_37 rfl 1 rfl ?_
    exact x_iret dX1_firstLike_38 rfl h
  · refine v_aload_n dX1_firstLike_7 rfl 0 rfl ?_
    refine v_iload_n dX1_firstLike_8 rfl 2 rfl ?_
    refine x_inv (cv := cI) (As := [.int v2]) (rest := []) (ls2 := [(0, .ref v0), (1, .int v2)]) (ci := 1) (by omega) dX1_firstLike_9 ke_X1_colourAt kv_X1_38 rfl rfl (by decide) (Nat.le_of_ble_eq_true rfl) rfl rfl rfl rfl h (fun _ hq => s_X1_colourAt (by omega) hq) (fun x2 M1 h => ?_)
    refine v_aload_n dX1_firstLike_12 rfl 0 rfl ?_
    refine v_iload_n dX1_firstLike_13 rfl 1 rfl ?_
    refine x_inv (cv := cI) (As := [.int v1]) (rest := [.int x2]) (ls2 := [(0, .ref v0), (1, .int v1)]) (ci := 1) (by omega) dX1_firstLike_14 ke_X1_colourAt kv_X1_38 rfl rfl (by decide) (Nat.le_of_ble_eq_true rfl) rfl rfl rfl rfl h (fun _ hq => s_X1_colourAt (by omega) hq) (fun x4 M3 h => ?_)
    refine x_ic_ne (tgt := 31) dX1_firstLike_17 (by decide) h (fun h => ?_) (fun h => ?_)
    · refine v_aload_n dX1_firstLike_20 rfl 0 rfl ?_
      refine v_iload_n dX1_firstLike_21 rfl 2 rfl ?_
      refine v_iload_n dX1_firstLike_22 rfl 1 rfl ?_
      refine x_inv (cv := cI) (As := [.int v2, .int v1]) (rest := []) (ls2 := [(0, .ref v0), (1, .int v2), (2, .int v1)]) (ci := 1) (by omega) dX1_firstLike_23 ke_X1_haveSameSignature kv_X1_103 rfl rfl (by decide) (Nat.le_of_ble_eq_true rfl) rfl rfl rfl rfl h (fun _ hq => s_X1_haveSameSignature (by omega) hq) (fun x6 M5 h => ?_)
      refine x_if_eq (tgt := 31) dX1_firstLike_26 (by decide) h (fun h => ?_) (fun h => ?_)
      · exact t_X1_firstLike_31 hd_ hk2 h
      · refine v_iload_n dX1_firstLike_29 rfl 2 rfl ?_
        exact x_iret dX1_firstLike_30 rfl h
    · exact t_X1_firstLike_31 hd_ hk2 h
theorem t_X1_firstLike_2 {G : jG} {d : Nat} (hd_ : 2 ≤ d)  : ∀ (n : Nat) (v0 : Nat) (v1 : Int32) (v2 : Int32) (M : jM) (b : Int32 × jM), l_X1_firstLike_2  n v0 v1 v2 M = some b → V G m_X1_firstLike d 2 [(0, .ref v0), (1, .int v1), (2, .int v2)] [] M (jQb cI b) := by
  intro n
  induction n with
  | zero => intro v0 v1 v2 M b h; exact nomatch (show (none : jO Int32) = some b from h)
  | succ n ih => intro v0 v1 v2 M b h; exact tb_X1_firstLike_2 hd_  ih h
def f_X1_firstLike (v0 : Nat) (v1 : Int32) (M : jM) : jO Int32 :=
  l_X1_firstLike_2 jF0 v0 v1 (nI 0) M
theorem s_X1_firstLike {G : jG} {d : Nat} (hd_ : 2 ≤ d) {v0 : Nat} {v1 : Int32} {M : jM} {b : Int32 × jM} (h : f_X1_firstLike  v0 v1 M = some b) : V G m_X1_firstLike d 0 [(0, .ref v0), (1, .int v1)] [] M (jQb cI b) := by
  unfold f_X1_firstLike at h
  refine v_iconst dX1_firstLike_0 ic_0 ?_
  refine v_istore_n (ls2 := [(2, .int (nI 0)), (0, .ref v0), (1, .int v1)]) dX1_firstLike_1 rfl (by decide) rfl ?_
  exact V.pick [1, 2, 0] rfl (t_X1_firstLike_2 hd_ _ _ _ _ _ _ h)
def j_X1_regroup_74 (k7 : Nat → Int32 → jM → jO Unit) (v0 : Nat) (v1 : Int32) (M : jM) : jO Unit :=
  k7 v0 (v1 + (nI 1)) M
theorem t_X1_regroup_74 {G : jG} {d : Nat} (hd_ : 3 ≤ d) {k7 : Nat → Int32 → jM → jO Unit} (hk7 : ∀ (w0 : Nat) (w1 : Int32) (M : jM) (b : Unit × jM), k7 w0 w1 M = some b → V G m_X1_regroup d 7 [(0, .ref w0), (1, .int w1)] [] M (jQb cU b)) {v0 : Nat} {v1 : Int32} {M : jM} {b : Unit × jM} (h : j_X1_regroup_74 k7 v0 v1 M = some b) : V G m_X1_regroup d 74 [(0, .ref v0), (1, .int v1)] [] M (jQb cU b) := by
  unfold j_X1_regroup_74 at h
  refine v_iincC (ls2 := [(1, .int (v1 + (nI 1))), (0, .ref v0)]) dX1_regroup_74 ic_1 1 rfl (by decide) rfl ?_
  refine v_goto (tgt := 7) dX1_regroup_77 (by decide) ?_
  exact V.pick [1, 0] rfl (hk7 _ _ _ _ h)
def j_X1_regroup_54 (k7 : Nat → Int32 → jM → jO Unit) (v0 : Nat) (v1 : Int32) (M : jM) : jO Unit :=
  (gR 1 M v0 1).bind fun r1 =>
  (gI 1 M v0 6).bind fun x2 =>
  (stI M r1 v1 x2).bind fun M3 =>
  (gI 1 M3 v0 6).bind fun x4 =>
  (pI 1 M3 v0 6 (x4 + (nI 1))).bind fun M5 =>
  j_X1_regroup_74 k7 v0 v1 M5
theorem t_X1_regroup_54 {G : jG} {d : Nat} (hd_ : 3 ≤ d) {k7 : Nat → Int32 → jM → jO Unit} (hk7 : ∀ (w0 : Nat) (w1 : Int32) (M : jM) (b : Unit × jM), k7 w0 w1 M = some b → V G m_X1_regroup d 7 [(0, .ref w0), (1, .int w1)] [] M (jQb cU b)) {v0 : Nat} {v1 : Int32} {M : jM} {b : Unit × jM} (h : j_X1_regroup_54 k7 v0 v1 M = some b) : V G m_X1_regroup d 54 [(0, .ref v0), (1, .int v1)] [] M (jQb cU b) := by
  unfold j_X1_regroup_54 at h
  refine v_aload_n dX1_regroup_54 rfl 0 rfl ?_
  refine x_gR dX1_regroup_55 kf_X1_15 rfl h (fun r1 h => ?_)
  refine v_iload_n dX1_regroup_58 rfl 1 rfl ?_
  refine v_aload_n dX1_regroup_59 rfl 0 rfl ?_
  refine x_gI dX1_regroup_60 kf_X1_32 rfl h (fun x2 h => ?_)
  refine x_stI dX1_regroup_63 h (fun M3 h => ?_)
  refine v_aload_n dX1_regroup_64 rfl 0 rfl ?_
  refine v_dup dX1_regroup_65 rfl ?_
  refine x_gI dX1_regroup_66 kf_X1_32 rfl h (fun x4 h => ?_)
  refine v_iconst dX1_regroup_69 ic_1 ?_
  refine v_iadd dX1_regroup_70 ?_
  refine x_pI dX1_regroup_71 kf_X1_32 rfl (fun q => Bool.noConfusion q) h (fun M5 h => ?_)
  exact t_X1_regroup_74 hd_ hk7 h
def j_X1_regroup_80  (v0 : Nat) (M : jM) : jO Unit :=
  (gR 1 M v0 1).bind fun r1 =>
  (gR 1 M v0 0).bind fun r2 =>
  (gR 1 M v0 0).bind fun r3 =>
  (ln M r3).bind fun x4 =>
  (cpI 100 M r1 (nI 0) r2 (nI 0) x4).bind fun M5 =>
  rt () M5
theorem t_X1_regroup_80 {G : jG} {d : Nat} (hd_ : 3 ≤ d)  {v0 : Nat} {M : jM} {b : Unit × jM} (h : j_X1_regroup_80  v0 M = some b) : V G m_X1_regroup d 80 [(0, .ref v0)] [] M (jQb cU b) := by
  unfold j_X1_regroup_80 at h
  refine v_aload_n dX1_regroup_80 rfl 0 rfl ?_
  refine x_gR dX1_regroup_81 kf_X1_15 rfl h (fun r1 h => ?_)
  refine v_iconst dX1_regroup_84 ic_0 ?_
  refine v_aload_n dX1_regroup_85 rfl 0 rfl ?_
  refine x_gR dX1_regroup_86 kf_X1_9 rfl h (fun r2 h => ?_)
  refine v_iconst dX1_regroup_89 ic_0 ?_
  refine v_aload_n dX1_regroup_90 rfl 0 rfl ?_
  refine x_gR dX1_regroup_91 kf_X1_9 rfl h (fun r3 h => ?_)
  refine x_ln dX1_regroup_94 h (fun x4 h => ?_)
  refine x_cp (by omega) (by decide) dX1_regroup_95 kp_X1_97 rfl h (fun M5 h => ?_)
  exact x_vret dX1_regroup_98 rfl h
def b_X1_regroup_7  (k7 : Nat → Int32 → jM → jO Unit) (v0 : Nat) (v1 : Int32) (M : jM) : jO Unit :=
  (gI 1 M v0 4).bind fun x1 =>
  if x1 ≤ v1 then
    j_X1_regroup_80 v0 M
  else
    (gR 1 M v0 1).bind fun r2 =>
    (ln M r2).bind fun x3 =>
    if x3 ≤ v1 then
      j_X1_regroup_80 v0 M
    else
      jb2 (jiv 1 M v0 (f_X1_firstLike v0 v1 M)) fun x5 M4 =>
      if x5 < 0 then
        j_X1_regroup_54 k7 v0 v1 M4
      else
        if v1 ≤ x5 then
          j_X1_regroup_54 k7 v0 v1 M4
        else
          (gR 1 M4 v0 1).bind fun r6 =>
          (gR 1 M4 v0 1).bind fun r7 =>
          (ldI M4 r7 x5).bind fun x8 =>
          (stI M4 r6 v1 x8).bind fun M9 =>
          j_X1_regroup_74 k7 v0 v1 M9
def l_X1_regroup_7  : Nat → Nat → Int32 → jM → jO Unit
  | 0 => fun _ _ _ => none
  | n + 1 => b_X1_regroup_7  (l_X1_regroup_7  n)
theorem tb_X1_regroup_7 {G : jG} {d : Nat} (hd_ : 3 ≤ d)  {k7 : Nat → Int32 → jM → jO Unit} (hk7 : ∀ (w0 : Nat) (w1 : Int32) (M : jM) (b : Unit × jM), k7 w0 w1 M = some b → V G m_X1_regroup d 7 [(0, .ref w0), (1, .int w1)] [] M (jQb cU b)) {v0 : Nat} {v1 : Int32} {M : jM} {b : Unit × jM} (h : b_X1_regroup_7  k7 v0 v1 M = some b) : V G m_X1_regroup d 7 [(0, .ref v0), (1, .int v1)] [] M (jQb cU b) := by
  unfold b_X1_regroup_7 at h
  refine v_iload_n dX1_regroup_7 rfl 1 rfl ?_
  refine v_aload_n dX1_regroup_8 rfl 0 rfl ?_
  refine x_gI dX1_regroup_9 kf_X1_25 rfl h (fun x1 h => ?_)
  refine x_ic_ge (tgt := 80) dX1_regroup_12 (by decide) h (fun h => ?_) (fun h => ?_)
  · exact V.pick [0] rfl (t_X1_regroup_80 hd_ h)
  · refine v_iload_n dX1_regroup_15 rfl 1 rfl ?_
    refine v_aload_n dX1_regroup_16 rfl 0 rfl ?_
    refine x_gR dX1_regroup_17 kf_X1_15 rfl h (fun r2 h => ?_)
    refine x_ln dX1_regroup_20 h (fun x3 h => ?_)
    refine x_ic_ge (tgt := 80) dX1_regroup_21 (by decide) h (fun h => ?_) (fun h => ?_)
    · exact V.pick [0] rfl (t_X1_regroup_80 hd_ h)
    · refine v_aload_n dX1_regroup_24 rfl 0 rfl ?_
      refine v_iload_n dX1_regroup_25 rfl 1 rfl ?_
      refine x_inv (cv := cI) (As := [.int v1]) (rest := []) (ls2 := [(0, .ref v0), (1, .int v1)]) (ci := 1) (by omega) dX1_regroup_26 ke_X1_firstLike kv_X1_94 rfl rfl (by decide) (Nat.le_of_ble_eq_true rfl) rfl rfl rfl rfl h (fun _ hq => s_X1_firstLike (by omega) hq) (fun x5 M4 h => ?_)
      refine v_istore_n (ls2 := [(2, .int x5), (0, .ref v0), (1, .int v1)]) dX1_regroup_29 rfl (by decide) rfl ?_
      refine v_iload_n dX1_regroup_30 rfl 0 rfl ?_
      refine x_if_lt (tgt := 54) dX1_regroup_31 (by decide) h (fun h => ?_) (fun h => ?_)
      · exact V.pick [1, 2] rfl (t_X1_regroup_54 hd_ hk7 h)
      · refine v_iload_n dX1_regroup_34 rfl 0 rfl ?_
        refine v_iload_n dX1_regroup_35 rfl 2 rfl ?_
        refine x_ic_ge (tgt := 54) dX1_regroup_36 (by decide) h (fun h => ?_) (fun h => ?_)
        · exact V.pick [1, 2] rfl (t_X1_regroup_54 hd_ hk7 h)
        · refine v_aload_n dX1_regroup_39 rfl 1 rfl ?_
          refine x_gR dX1_regroup_40 kf_X1_15 rfl h (fun r6 h => ?_)
          refine v_iload_n dX1_regroup_43 rfl 2 rfl ?_
          refine v_aload_n dX1_regroup_44 rfl 1 rfl ?_
          refine x_gR dX1_regroup_45 kf_X1_15 rfl h (fun r7 h => ?_)
          refine v_iload_n dX1_regroup_48 rfl 0 rfl ?_
          refine x_ldI dX1_regroup_49 h (fun x8 h => ?_)
          refine x_stI dX1_regroup_50 h (fun M9 h => ?_)
          refine v_goto (tgt := 74) dX1_regroup_51 (by decide) ?_
          exact V.pick [1, 2] rfl (t_X1_regroup_74 hd_ hk7 h)
theorem t_X1_regroup_7 {G : jG} {d : Nat} (hd_ : 3 ≤ d)  : ∀ (n : Nat) (v0 : Nat) (v1 : Int32) (M : jM) (b : Unit × jM), l_X1_regroup_7  n v0 v1 M = some b → V G m_X1_regroup d 7 [(0, .ref v0), (1, .int v1)] [] M (jQb cU b) := by
  intro n
  induction n with
  | zero => intro v0 v1 M b h; exact nomatch (show (none : jO Unit) = some b from h)
  | succ n ih => intro v0 v1 M b h; exact tb_X1_regroup_7 hd_  ih h
def f_X1_regroup (v0 : Nat) (M : jM) : jO Unit :=
  (pI 1 M v0 6 (nI 0)).bind fun M1 =>
  l_X1_regroup_7 jF0 v0 (nI 0) M1
theorem s_X1_regroup {G : jG} {d : Nat} (hd_ : 3 ≤ d) {v0 : Nat} {M : jM} {b : Unit × jM} (h : f_X1_regroup  v0 M = some b) : V G m_X1_regroup d 0 [(0, .ref v0)] [] M (jQb cU b) := by
  unfold f_X1_regroup at h
  refine v_aload_n dX1_regroup_0 rfl 0 rfl ?_
  refine v_iconst dX1_regroup_1 ic_0 ?_
  refine x_pI dX1_regroup_2 kf_X1_32 rfl (fun q => Bool.noConfusion q) h (fun M1 h => ?_)
  refine v_iconst dX1_regroup_5 ic_0 ?_
  refine v_istore_n (ls2 := [(1, .int (nI 0)), (0, .ref v0)]) dX1_regroup_6 rfl (by decide) rfl ?_
  exact V.pick [1, 0] rfl (t_X1_regroup_7 hd_ _ _ _ _ _ h)
def f_X9_isTied (v0 : Nat) (v1 : Int32) (v2 : Int32) (M : jM) : jO Int32 :=
  jb2 (jiv 8 M v0 (f_X9_has v0 v1 M)) fun x2 M1 =>
  if x2 = 0 then
    rZ (nI 0) M1
  else
    jb2 (jiv 8 M1 v0 (f_X9_has v0 v2 M1)) fun x4 M3 =>
    if x4 = 0 then
      rZ (nI 0) M3
    else
      (gR 8 M3 v0 2).bind fun r5 =>
      (ldI M3 r5 v1).bind fun x6 =>
      if ((x6 >>> (v2 &&& 31)) &&& (nI 1)) = (nI 1) then
        rZ (nI 1) M3
      else
        rZ (nI 0) M3
theorem s_X9_isTied {G : jG} {d : Nat} (hd_ : 1 ≤ d) {v0 : Nat} {v1 : Int32} {v2 : Int32} {M : jM} {b : Int32 × jM} (h : f_X9_isTied  v0 v1 v2 M = some b) : V G m_X9_isTied d 0 [(0, .ref v0), (1, .int v1), (2, .int v2)] [] M (jQb cI b) := by
  unfold f_X9_isTied at h
  refine v_aload_n dX9_isTied_0 rfl 0 rfl ?_
  refine v_iload_n dX9_isTied_1 rfl 1 rfl ?_
  refine x_inv (cv := cI) (As := [.int v1]) (rest := []) (ls2 := [(0, .ref v0), (1, .int v1)]) (ci := 8) (by omega) dX9_isTied_2 ke_X9_has kv_X9_37 rfl rfl (by decide) (Nat.le_of_ble_eq_true rfl) rfl rfl rfl rfl h (fun _ hq => s_X9_has (by omega) hq) (fun x2 M1 h => ?_)
  refine x_if_eq (tgt := 34) dX9_isTied_5 (by decide) h (fun h => ?_) (fun h => ?_)
  · refine v_iconst dX9_isTied_34 ic_0 ?_
    exact x_zret dX9_isTied_35 rfl h
  · refine v_aload_n dX9_isTied_8 rfl 0 rfl ?_
    refine v_iload_n dX9_isTied_9 rfl 2 rfl ?_
    refine x_inv (cv := cI) (As := [.int v2]) (rest := []) (ls2 := [(0, .ref v0), (1, .int v2)]) (ci := 8) (by omega) dX9_isTied_10 ke_X9_has kv_X9_37 rfl rfl (by decide) (Nat.le_of_ble_eq_true rfl) rfl rfl rfl rfl h (fun _ hq => s_X9_has (by omega) hq) (fun x4 M3 h => ?_)
    refine x_if_eq (tgt := 34) dX9_isTied_13 (by decide) h (fun h => ?_) (fun h => ?_)
    · refine v_iconst dX9_isTied_34 ic_0 ?_
      exact x_zret dX9_isTied_35 rfl h
    · refine v_aload_n dX9_isTied_16 rfl 0 rfl ?_
      refine x_gR dX9_isTied_17 kf_X9_19 rfl h (fun r5 h => ?_)
      refine v_iload_n dX9_isTied_20 rfl 1 rfl ?_
      refine x_ldI dX9_isTied_21 h (fun x6 h => ?_)
      refine v_iload_n dX9_isTied_22 rfl 2 rfl ?_
      refine v_ishr dX9_isTied_23 ?_
      refine v_iconst dX9_isTied_24 ic_1 ?_
      refine v_iand dX9_isTied_25 ?_
      refine v_iconst dX9_isTied_26 ic_1 ?_
      refine x_ic_ne (tgt := 34) dX9_isTied_27 (by decide) h (fun h => ?_) (fun h => ?_)
      · refine v_iconst dX9_isTied_30 ic_1 ?_
        refine v_goto (tgt := 35) dX9_isTied_31 (by decide) ?_
        exact x_zret dX9_isTied_35 rfl h
      · refine v_iconst dX9_isTied_34 ic_0 ?_
        exact x_zret dX9_isTied_35 rfl h
def j_X1_countTies_66 (k3 : Nat → Nat → Int32 → Int32 → Int32 → jM → jO Unit) (v0 : Nat) (v1 : Nat) (v2 : Int32) (v3 : Int32) (v4 : Int32) (M : jM) : jO Unit :=
  k3 v0 v1 v2 v3 (v4 + (nI 1)) M
theorem t_X1_countTies_66 {G : jG} {d : Nat} (hd_ : 2 ≤ d) {k3 : Nat → Nat → Int32 → Int32 → Int32 → jM → jO Unit} (hk3 : ∀ (w0 : Nat) (w1 : Nat) (w2 : Int32) (w3 : Int32) (w4 : Int32) (M : jM) (b : Unit × jM), k3 w0 w1 w2 w3 w4 M = some b → V G m_X1_countTies d 3 [(0, .ref w0), (1, .ref w1), (2, .int w2), (3, .int w3), (4, .int w4)] [] M (jQb cU b)) {v0 : Nat} {v1 : Nat} {v2 : Int32} {v3 : Int32} {v4 : Int32} {M : jM} {b : Unit × jM} (h : j_X1_countTies_66 k3 v0 v1 v2 v3 v4 M = some b) : V G m_X1_countTies d 66 [(0, .ref v0), (1, .ref v1), (2, .int v2), (3, .int v3), (4, .int v4)] [] M (jQb cU b) := by
  unfold j_X1_countTies_66 at h
  refine v_iincC (ls2 := [(4, .int (v4 + (nI 1))), (0, .ref v0), (1, .ref v1), (2, .int v2), (3, .int v3)]) dX1_countTies_66 ic_1 4 rfl (by decide) rfl ?_
  refine v_goto (tgt := 3) dX1_countTies_69 (by decide) ?_
  exact V.pick [1, 2, 3, 4, 0] rfl (hk3 _ _ _ _ _ _ _ h)
def j_X1_countTies_46 (k3 : Nat → Nat → Int32 → Int32 → Int32 → jM → jO Unit) (v0 : Nat) (v1 : Nat) (v2 : Int32) (v3 : Int32) (v4 : Int32) (v5 : Int64) (M : jM) : jO Unit :=
  jb2 (jiv 8 M v1 (f_X9_isTied v1 v4 v3 M)) fun x2 M1 =>
  if x2 = 0 then
    j_X1_countTies_66 k3 v0 v1 v2 v3 v4 M1
  else
    jb2 (jiv 1 M1 v0 (f_X1_add v0 (v2 + v3) (nI 1) v5 M1)) fun _ M3 =>
    j_X1_countTies_66 k3 v0 v1 v2 v3 v4 M3
theorem t_X1_countTies_46 {G : jG} {d : Nat} (hd_ : 2 ≤ d) {k3 : Nat → Nat → Int32 → Int32 → Int32 → jM → jO Unit} (hk3 : ∀ (w0 : Nat) (w1 : Nat) (w2 : Int32) (w3 : Int32) (w4 : Int32) (M : jM) (b : Unit × jM), k3 w0 w1 w2 w3 w4 M = some b → V G m_X1_countTies d 3 [(0, .ref w0), (1, .ref w1), (2, .int w2), (3, .int w3), (4, .int w4)] [] M (jQb cU b)) {v0 : Nat} {v1 : Nat} {v2 : Int32} {v3 : Int32} {v4 : Int32} {v5 : Int64} {M : jM} {b : Unit × jM} (h : j_X1_countTies_46 k3 v0 v1 v2 v3 v4 v5 M = some b) : V G m_X1_countTies d 46 [(0, .ref v0), (1, .ref v1), (2, .int v2), (3, .int v3), (4, .int v4), (5, .long v5)] [] M (jQb cU b) := by
  unfold j_X1_countTies_46 at h
  refine v_aload_n dX1_countTies_46 rfl 1 rfl ?_
  refine v_iload dX1_countTies_47 4 rfl ?_
  refine v_iload_n dX1_countTies_49 rfl 3 rfl ?_
  refine x_inv (cv := cI) (As := [.int v4, .int v3]) (rest := []) (ls2 := [(0, .ref v1), (1, .int v4), (2, .int v3)]) (ci := 8) (by omega) dX1_countTies_50 ke_X9_isTied kv_X1_86 rfl rfl (by decide) (Nat.le_of_ble_eq_true rfl) rfl rfl rfl rfl h (fun _ hq => s_X9_isTied (by omega) hq) (fun x2 M1 h => ?_)
  refine x_if_eq (tgt := 66) dX1_countTies_53 (by decide) h (fun h => ?_) (fun h => ?_)
  · exact V.pick [0, 1, 2, 3, 4] rfl (t_X1_countTies_66 hd_ hk3 h)
  · refine v_aload_n dX1_countTies_56 rfl 0 rfl ?_
    refine v_iload_n dX1_countTies_57 rfl 2 rfl ?_
    refine v_iload_n dX1_countTies_58 rfl 3 rfl ?_
    refine v_iadd dX1_countTies_59 ?_
    refine v_iconst dX1_countTies_60 ic_1 ?_
    refine v_lload dX1_countTies_61 5 rfl ?_
    refine x_inv (cv := cU) (As := [.int (v2 + v3), .int (nI 1), .long v5]) (rest := []) (ls2 := [(0, .ref v0), (1, .int (v2 + v3)), (2, .int (nI 1)), (3, .long v5)]) (ci := 1) (by omega) dX1_countTies_63 ke_X1_add kv_X1_70 rfl rfl (by decide) (Nat.le_of_ble_eq_true rfl) rfl rfl rfl rfl h (fun _ hq => s_X1_add (by omega) hq) (fun _ M3 h => ?_)
    exact V.pick [0, 1, 2, 3, 4] rfl (t_X1_countTies_66 hd_ hk3 h)
def b_X1_countTies_3  (k3 : Nat → Nat → Int32 → Int32 → Int32 → jM → jO Unit) (v0 : Nat) (v1 : Nat) (v2 : Int32) (v3 : Int32) (v4 : Int32) (M : jM) : jO Unit :=
  jb2 (jiv 8 M v1 (f_X9_size v1 M)) fun x2 M1 =>
  if x2 ≤ v4 then
    rt () M1
  else
    jb2 (jiv 1 M1 v0 (f_X1_colourAt v0 (v2 + v4) M1)) fun x4 M3 =>
    (jv ((1 : Int64) <<< (Int32.toInt64 ((nI 4) * x4) &&& 63))).bind fun y5 =>
    jb2 (jiv 8 M3 v1 (f_X9_isTied v1 v3 v4 M3)) fun x7 M6 =>
    if x7 = 0 then
      j_X1_countTies_46 k3 v0 v1 v2 v3 v4 y5 M6
    else
      jb2 (jiv 1 M6 v0 (f_X1_add v0 (v2 + v3) (nI 0) y5 M6)) fun _ M8 =>
      j_X1_countTies_46 k3 v0 v1 v2 v3 v4 y5 M8
def l_X1_countTies_3  : Nat → Nat → Nat → Int32 → Int32 → Int32 → jM → jO Unit
  | 0 => fun _ _ _ _ _ _ => none
  | n + 1 => b_X1_countTies_3  (l_X1_countTies_3  n)
theorem tb_X1_countTies_3 {G : jG} {d : Nat} (hd_ : 2 ≤ d)  {k3 : Nat → Nat → Int32 → Int32 → Int32 → jM → jO Unit} (hk3 : ∀ (w0 : Nat) (w1 : Nat) (w2 : Int32) (w3 : Int32) (w4 : Int32) (M : jM) (b : Unit × jM), k3 w0 w1 w2 w3 w4 M = some b → V G m_X1_countTies d 3 [(0, .ref w0), (1, .ref w1), (2, .int w2), (3, .int w3), (4, .int w4)] [] M (jQb cU b)) {v0 : Nat} {v1 : Nat} {v2 : Int32} {v3 : Int32} {v4 : Int32} {M : jM} {b : Unit × jM} (h : b_X1_countTies_3  k3 v0 v1 v2 v3 v4 M = some b) : V G m_X1_countTies d 3 [(0, .ref v0), (1, .ref v1), (2, .int v2), (3, .int v3), (4, .int v4)] [] M (jQb cU b) := by
  unfold b_X1_countTies_3 at h
  refine v_iload dX1_countTies_3 4 rfl ?_
  refine v_aload_n dX1_countTies_5 rfl 1 rfl ?_
  refine x_inv (cv := cI) (As := []) (rest := [.int v4]) (ls2 := [(0, .ref v1)]) (ci := 8) (by omega) dX1_countTies_6 ke_X9_size kv_X1_42 rfl rfl (by decide) (Nat.le_of_ble_eq_true rfl) rfl rfl rfl rfl h (fun _ hq => s_X9_size (by omega) hq) (fun x2 M1 h => ?_)
  refine x_ic_ge (tgt := 72) dX1_countTies_9 (by decide) h (fun h => ?_) (fun h => ?_)
  · exact x_vret dX1_countTies_72 rfl h
  · refine v_lconst dX1_countTies_12 lc_1 ?_
    refine v_iconst dX1_countTies_13 ic_4 ?_
    refine v_aload_n dX1_countTies_14 rfl 0 rfl ?_
    refine v_iload_n dX1_countTies_15 rfl 2 rfl ?_
    refine v_iload dX1_countTies_16 4 rfl ?_
    refine v_iadd dX1_countTies_18 ?_
    refine x_inv (cv := cI) (As := [.int (v2 + v4)]) (rest := [.int (nI 4), .long (1 : Int64)]) (ls2 := [(0, .ref v0), (1, .int (v2 + v4))]) (ci := 1) (by omega) dX1_countTies_19 ke_X1_colourAt kv_X1_38 rfl rfl (by decide) (Nat.le_of_ble_eq_true rfl) rfl rfl rfl rfl h (fun _ hq => s_X1_colourAt (by omega) hq) (fun x4 M3 h => ?_)
    refine v_imul dX1_countTies_22 ?_
    refine v_lshl dX1_countTies_23 ?_
    refine x_jvL h (fun y5 h => ?_)
    refine v_lstore (ls2 := [(5, .long y5), (0, .ref v0), (1, .ref v1), (2, .int v2), (3, .int v3), (4, .int v4)]) dX1_countTies_24 (by decide) rfl ?_
    refine v_aload_n dX1_countTies_26 rfl 2 rfl ?_
    refine v_iload_n dX1_countTies_27 rfl 4 rfl ?_
    refine v_iload dX1_countTies_28 5 rfl ?_
    refine x_inv (cv := cI) (As := [.int v3, .int v4]) (rest := []) (ls2 := [(0, .ref v1), (1, .int v3), (2, .int v4)]) (ci := 8) (by omega) dX1_countTies_30 ke_X9_isTied kv_X1_86 rfl rfl (by decide) (Nat.le_of_ble_eq_true rfl) rfl rfl rfl rfl h (fun _ hq => s_X9_isTied (by omega) hq) (fun x7 M6 h => ?_)
    refine x_if_eq (tgt := 46) dX1_countTies_33 (by decide) h (fun h => ?_) (fun h => ?_)
    · exact V.pick [1, 2, 3, 4, 5, 0] rfl (t_X1_countTies_46 hd_ hk3 h)
    · refine v_aload_n dX1_countTies_36 rfl 1 rfl ?_
      refine v_iload_n dX1_countTies_37 rfl 3 rfl ?_
      refine v_iload_n dX1_countTies_38 rfl 4 rfl ?_
      refine v_iadd dX1_countTies_39 ?_
      refine v_iconst dX1_countTies_40 ic_0 ?_
      refine v_lload dX1_countTies_41 0 rfl ?_
      refine x_inv (cv := cU) (As := [.int (v2 + v3), .int (nI 0), .long y5]) (rest := []) (ls2 := [(0, .ref v0), (1, .int (v2 + v3)), (2, .int (nI 0)), (3, .long y5)]) (ci := 1) (by omega) dX1_countTies_43 ke_X1_add kv_X1_70 rfl rfl (by decide) (Nat.le_of_ble_eq_true rfl) rfl rfl rfl rfl h (fun _ hq => s_X1_add (by omega) hq) (fun _ M8 h => ?_)
      exact V.pick [1, 2, 3, 4, 5, 0] rfl (t_X1_countTies_46 hd_ hk3 h)
theorem t_X1_countTies_3 {G : jG} {d : Nat} (hd_ : 2 ≤ d)  : ∀ (n : Nat) (v0 : Nat) (v1 : Nat) (v2 : Int32) (v3 : Int32) (v4 : Int32) (M : jM) (b : Unit × jM), l_X1_countTies_3  n v0 v1 v2 v3 v4 M = some b → V G m_X1_countTies d 3 [(0, .ref v0), (1, .ref v1), (2, .int v2), (3, .int v3), (4, .int v4)] [] M (jQb cU b) := by
  intro n
  induction n with
  | zero => intro v0 v1 v2 v3 v4 M b h; exact nomatch (show (none : jO Unit) = some b from h)
  | succ n ih => intro v0 v1 v2 v3 v4 M b h; exact tb_X1_countTies_3 hd_  ih h
def f_X1_countTies (v0 : Nat) (v1 : Nat) (v2 : Int32) (v3 : Int32) (M : jM) : jO Unit :=
  l_X1_countTies_3 jF0 v0 v1 v2 v3 (nI 0) M
theorem s_X1_countTies {G : jG} {d : Nat} (hd_ : 2 ≤ d) {v0 : Nat} {v1 : Nat} {v2 : Int32} {v3 : Int32} {M : jM} {b : Unit × jM} (h : f_X1_countTies  v0 v1 v2 v3 M = some b) : V G m_X1_countTies d 0 [(0, .ref v0), (1, .ref v1), (2, .int v2), (3, .int v3)] [] M (jQb cU b) := by
  unfold f_X1_countTies at h
  refine v_iconst dX1_countTies_0 ic_0 ?_
  refine v_istore (ls2 := [(4, .int (nI 0)), (0, .ref v0), (1, .ref v1), (2, .int v2), (3, .int v3)]) dX1_countTies_1 (by decide) rfl ?_
  exact V.pick [1, 2, 3, 4, 0] rfl (t_X1_countTies_3 hd_ _ _ _ _ _ _ _ _ h)
def f_X1_putInSet (v0 : Nat) (v1 : Int32) (v2 : Int32) (v3 : Int32) (M : jM) : jO Unit :=
  (jv ((((nI 4) * v1) + v2) + (v3 >>> ((nI 6) &&& 31)))).bind fun y1 =>
  if y1 < 0 then
    rt () M
  else
    (gR 1 M v0 2).bind fun r2 =>
    (ln M r2).bind fun x3 =>
    if x3 ≤ y1 then
      rt () M
    else
      (gR 1 M v0 2).bind fun r4 =>
      (ldJ M r4 y1).bind fun x5 =>
      (stJ M r4 y1 (x5 ||| ((1 : Int64) <<< (Int32.toInt64 (v3 &&& (nI 63)) &&& 63)))).bind fun M6 =>
      rt () M6
theorem s_X1_putInSet {G : jG} {d : Nat} (hd_ : 0 ≤ d) {v0 : Nat} {v1 : Int32} {v2 : Int32} {v3 : Int32} {M : jM} {b : Unit × jM} (h : f_X1_putInSet  v0 v1 v2 v3 M = some b) : V G m_X1_putInSet d 0 [(0, .ref v0), (1, .int v1), (2, .int v2), (3, .int v3)] [] M (jQb cU b) := by
  unfold f_X1_putInSet at h
  refine v_iconst dX1_putInSet_0 ic_4 ?_
  refine v_iload_n dX1_putInSet_1 rfl 1 rfl ?_
  refine v_imul dX1_putInSet_2 ?_
  refine v_iload_n dX1_putInSet_3 rfl 2 rfl ?_
  refine v_iadd dX1_putInSet_4 ?_
  refine v_iload_n dX1_putInSet_5 rfl 3 rfl ?_
  refine v_bipush dX1_putInSet_6 bp_6 ?_
  refine v_ishr dX1_putInSet_8 ?_
  refine v_iadd dX1_putInSet_9 ?_
  refine x_jvI h (fun y1 h => ?_)
  refine v_istore (ls2 := [(4, .int y1), (0, .ref v0), (1, .int v1), (2, .int v2), (3, .int v3)]) dX1_putInSet_10 (by decide) rfl ?_
  refine v_iload dX1_putInSet_12 0 rfl ?_
  refine x_if_lt (tgt := 43) dX1_putInSet_14 (by decide) h (fun h => ?_) (fun h => ?_)
  · exact x_vret dX1_putInSet_43 rfl h
  · refine v_iload dX1_putInSet_17 0 rfl ?_
    refine v_aload_n dX1_putInSet_19 rfl 1 rfl ?_
    refine x_gR dX1_putInSet_20 kf_X1_18 rfl h (fun r2 h => ?_)
    refine x_ln dX1_putInSet_23 h (fun x3 h => ?_)
    refine x_ic_ge (tgt := 43) dX1_putInSet_24 (by decide) h (fun h => ?_) (fun h => ?_)
    · exact x_vret dX1_putInSet_43 rfl h
    · refine v_aload_n dX1_putInSet_27 rfl 1 rfl ?_
      refine x_gR dX1_putInSet_28 kf_X1_18 rfl h (fun r4 h => ?_)
      refine v_iload dX1_putInSet_31 0 rfl ?_
      refine v_dup2 dX1_putInSet_33 rfl rfl ?_
      refine x_ldJ dX1_putInSet_34 h (fun x5 h => ?_)
      refine v_lconst dX1_putInSet_35 lc_1 ?_
      refine v_iload_n dX1_putInSet_36 rfl 4 rfl ?_
      refine v_bipush dX1_putInSet_37 bp_63 ?_
      refine v_iand dX1_putInSet_39 ?_
      refine v_lshl dX1_putInSet_40 ?_
      refine v_lor dX1_putInSet_41 ?_
      refine x_stJ dX1_putInSet_42 h (fun M6 h => ?_)
      exact x_vret dX1_putInSet_43 rfl h
def b_X1_gatherColours_13  (k13 : Nat → Int32 → Int32 → Int32 → Int32 → Int32 → Int32 → jM → jO Unit) (v0 : Nat) (v1 : Int32) (v2 : Int32) (v3 : Int32) (v4 : Int32) (v5 : Int32) (v6 : Int32) (M : jM) : jO Unit :=
  if v2 ≤ v6 then
    rt () M
  else
    jb2 (jiv 1 M v0 (f_X1_colourAt v0 ((v1 + (v6 * v2)) + v4) M)) fun x2 M1 =>
    jb2 (jiv 1 M1 v0 (f_X1_putInSet v0 v5 (nI 0) x2 M1)) fun _ M3 =>
    jb2 (jiv 1 M3 v0 (f_X1_colourAt v0 ((v1 + (v3 * v2)) + v6) M3)) fun x5 M4 =>
    jb2 (jiv 1 M4 v0 (f_X1_putInSet v0 v5 (nI 2) x5 M4)) fun _ M6 =>
    k13 v0 v1 v2 v3 v4 v5 (v6 + (nI 1)) M6
def l_X1_gatherColours_13  : Nat → Nat → Int32 → Int32 → Int32 → Int32 → Int32 → Int32 → jM → jO Unit
  | 0 => fun _ _ _ _ _ _ _ _ => none
  | n + 1 => b_X1_gatherColours_13  (l_X1_gatherColours_13  n)
theorem tb_X1_gatherColours_13 {G : jG} {d : Nat} (hd_ : 1 ≤ d)  {k13 : Nat → Int32 → Int32 → Int32 → Int32 → Int32 → Int32 → jM → jO Unit} (hk13 : ∀ (w0 : Nat) (w1 : Int32) (w2 : Int32) (w3 : Int32) (w4 : Int32) (w5 : Int32) (w6 : Int32) (M : jM) (b : Unit × jM), k13 w0 w1 w2 w3 w4 w5 w6 M = some b → V G m_X1_gatherColours d 13 [(0, .ref w0), (1, .int w1), (2, .int w2), (3, .int w3), (4, .int w4), (5, .int w5), (6, .int w6)] [] M (jQb cU b)) {v0 : Nat} {v1 : Int32} {v2 : Int32} {v3 : Int32} {v4 : Int32} {v5 : Int32} {v6 : Int32} {M : jM} {b : Unit × jM} (h : b_X1_gatherColours_13  k13 v0 v1 v2 v3 v4 v5 v6 M = some b) : V G m_X1_gatherColours d 13 [(0, .ref v0), (1, .int v1), (2, .int v2), (3, .int v3), (4, .int v4), (5, .int v5), (6, .int v6)] [] M (jQb cU b) := by
  unfold b_X1_gatherColours_13 at h
  refine v_iload dX1_gatherColours_13 6 rfl ?_
  refine v_iload_n dX1_gatherColours_15 rfl 2 rfl ?_
  refine x_ic_ge (tgt := 64) dX1_gatherColours_16 (by decide) h (fun h => ?_) (fun h => ?_)
  · exact x_vret dX1_gatherColours_64 rfl h
  · refine v_aload_n dX1_gatherColours_19 rfl 0 rfl ?_
    refine v_iload dX1_gatherColours_20 5 rfl ?_
    refine v_iconst dX1_gatherColours_22 ic_0 ?_
    refine v_aload_n dX1_gatherColours_23 rfl 0 rfl ?_
    refine v_iload_n dX1_gatherColours_24 rfl 1 rfl ?_
    refine v_iload dX1_gatherColours_25 6 rfl ?_
    refine v_iload_n dX1_gatherColours_27 rfl 2 rfl ?_
    refine v_imul dX1_gatherColours_28 ?_
    refine v_iadd dX1_gatherColours_29 ?_
    refine v_iload dX1_gatherColours_30 4 rfl ?_
    refine v_iadd dX1_gatherColours_32 ?_
    refine x_inv (cv := cI) (As := [.int ((v1 + (v6 * v2)) + v4)]) (rest := [.int (nI 0), .int v5, .ref v0]) (ls2 := [(0, .ref v0), (1, .int ((v1 + (v6 * v2)) + v4))]) (ci := 1) (by omega) dX1_gatherColours_33 ke_X1_colourAt kv_X1_38 rfl rfl (by decide) (Nat.le_of_ble_eq_true rfl) rfl rfl rfl rfl h (fun _ hq => s_X1_colourAt (by omega) hq) (fun x2 M1 h => ?_)
    refine x_inv (cv := cU) (As := [.int v5, .int (nI 0), .int x2]) (rest := []) (ls2 := [(0, .ref v0), (1, .int v5), (2, .int (nI 0)), (3, .int x2)]) (ci := 1) (by omega) dX1_gatherColours_36 ke_X1_putInSet kv_X1_90 rfl rfl (by decide) (Nat.le_of_ble_eq_true rfl) rfl rfl rfl rfl h (fun _ hq => s_X1_putInSet (by omega) hq) (fun _ M3 h => ?_)
    refine v_aload_n dX1_gatherColours_39 rfl 0 rfl ?_
    refine v_iload dX1_gatherColours_40 5 rfl ?_
    refine v_iconst dX1_gatherColours_42 ic_2 ?_
    refine v_aload_n dX1_gatherColours_43 rfl 0 rfl ?_
    refine v_iload_n dX1_gatherColours_44 rfl 1 rfl ?_
    refine v_iload_n dX1_gatherColours_45 rfl 3 rfl ?_
    refine v_iload_n dX1_gatherColours_46 rfl 2 rfl ?_
    refine v_imul dX1_gatherColours_47 ?_
    refine v_iadd dX1_gatherColours_48 ?_
    refine v_iload dX1_gatherColours_49 6 rfl ?_
    refine v_iadd dX1_gatherColours_51 ?_
    refine x_inv (cv := cI) (As := [.int ((v1 + (v3 * v2)) + v6)]) (rest := [.int (nI 2), .int v5, .ref v0]) (ls2 := [(0, .ref v0), (1, .int ((v1 + (v3 * v2)) + v6))]) (ci := 1) (by omega) dX1_gatherColours_52 ke_X1_colourAt kv_X1_38 rfl rfl (by decide) (Nat.le_of_ble_eq_true rfl) rfl rfl rfl rfl h (fun _ hq => s_X1_colourAt (by omega) hq) (fun x5 M4 h => ?_)
    refine x_inv (cv := cU) (As := [.int v5, .int (nI 2), .int x5]) (rest := []) (ls2 := [(0, .ref v0), (1, .int v5), (2, .int (nI 2)), (3, .int x5)]) (ci := 1) (by omega) dX1_gatherColours_55 ke_X1_putInSet kv_X1_90 rfl rfl (by decide) (Nat.le_of_ble_eq_true rfl) rfl rfl rfl rfl h (fun _ hq => s_X1_putInSet (by omega) hq) (fun _ M6 h => ?_)
    refine v_iincC (ls2 := [(6, .int (v6 + (nI 1))), (0, .ref v0), (1, .int v1), (2, .int v2), (3, .int v3), (4, .int v4), (5, .int v5)]) dX1_gatherColours_58 ic_1 6 rfl (by decide) rfl ?_
    refine v_goto (tgt := 13) dX1_gatherColours_61 (by decide) ?_
    exact V.pick [1, 2, 3, 4, 5, 6, 0] rfl (hk13 _ _ _ _ _ _ _ _ _ h)
theorem t_X1_gatherColours_13 {G : jG} {d : Nat} (hd_ : 1 ≤ d)  : ∀ (n : Nat) (v0 : Nat) (v1 : Int32) (v2 : Int32) (v3 : Int32) (v4 : Int32) (v5 : Int32) (v6 : Int32) (M : jM) (b : Unit × jM), l_X1_gatherColours_13  n v0 v1 v2 v3 v4 v5 v6 M = some b → V G m_X1_gatherColours d 13 [(0, .ref v0), (1, .int v1), (2, .int v2), (3, .int v3), (4, .int v4), (5, .int v5), (6, .int v6)] [] M (jQb cU b) := by
  intro n
  induction n with
  | zero => intro v0 v1 v2 v3 v4 v5 v6 M b h; exact nomatch (show (none : jO Unit) = some b from h)
  | succ n ih => intro v0 v1 v2 v3 v4 v5 v6 M b h; exact tb_X1_gatherColours_13 hd_  ih h
def f_X1_gatherColours (v0 : Nat) (v1 : Int32) (v2 : Int32) (v3 : Int32) (v4 : Int32) (M : jM) : jO Unit :=
  (jv ((v1 + (v3 * v2)) + v4)).bind fun y1 =>
  l_X1_gatherColours_13 jF0 v0 v1 v2 v3 v4 y1 (nI 0) M
theorem s_X1_gatherColours {G : jG} {d : Nat} (hd_ : 1 ≤ d) {v0 : Nat} {v1 : Int32} {v2 : Int32} {v3 : Int32} {v4 : Int32} {M : jM} {b : Unit × jM} (h : f_X1_gatherColours  v0 v1 v2 v3 v4 M = some b) : V G m_X1_gatherColours d 0 [(0, .ref v0), (1, .int v1), (2, .int v2), (3, .int v3), (4, .int v4)] [] M (jQb cU b) := by
  unfold f_X1_gatherColours at h
  refine v_iload_n dX1_gatherColours_0 rfl 1 rfl ?_
  refine v_iload_n dX1_gatherColours_1 rfl 3 rfl ?_
  refine v_iload_n dX1_gatherColours_2 rfl 2 rfl ?_
  refine v_imul dX1_gatherColours_3 ?_
  refine v_iadd dX1_gatherColours_4 ?_
  refine v_iload dX1_gatherColours_5 4 rfl ?_
  refine v_iadd dX1_gatherColours_7 ?_
  refine x_jvI h (fun y1 h => ?_)
  refine v_istore (ls2 := [(5, .int y1), (0, .ref v0), (1, .int v1), (2, .int v2), (3, .int v3), (4, .int v4)]) dX1_gatherColours_8 (by decide) rfl ?_
  refine v_iconst dX1_gatherColours_10 ic_0 ?_
  refine v_istore (ls2 := [(6, .int (nI 0)), (5, .int y1), (0, .ref v0), (1, .int v1), (2, .int v2), (3, .int v3), (4, .int v4)]) dX1_gatherColours_11 (by decide) rfl ?_
  exact V.pick [2, 3, 4, 5, 6, 1, 0] rfl (t_X1_gatherColours_13 hd_ _ _ _ _ _ _ _ _ _ _ h)
def j_X1_sign_59 (k9 : Nat → Nat → Int32 → Int32 → Int32 → Int32 → jM → jO Unit) (v0 : Nat) (v1 : Nat) (v2 : Int32) (v3 : Int32) (v4 : Int32) (v5 : Int32) (M : jM) : jO Unit :=
  k9 v0 v1 v2 v3 v4 (v5 + (nI 1)) M
theorem t_X1_sign_59 {G : jG} {d : Nat} (hd_ : 3 ≤ d) {k9 : Nat → Nat → Int32 → Int32 → Int32 → Int32 → jM → jO Unit} (hk9 : ∀ (w0 : Nat) (w1 : Nat) (w2 : Int32) (w3 : Int32) (w4 : Int32) (w5 : Int32) (M : jM) (b : Unit × jM), k9 w0 w1 w2 w3 w4 w5 M = some b → V G m_X1_sign d 9 [(0, .ref w0), (1, .ref w1), (2, .int w2), (3, .int w3), (4, .int w4), (5, .int w5)] [] M (jQb cU b)) {v0 : Nat} {v1 : Nat} {v2 : Int32} {v3 : Int32} {v4 : Int32} {v5 : Int32} {M : jM} {b : Unit × jM} (h : j_X1_sign_59 k9 v0 v1 v2 v3 v4 v5 M = some b) : V G m_X1_sign d 59 [(0, .ref v0), (1, .ref v1), (2, .int v2), (3, .int v3), (4, .int v4), (5, .int v5)] [] M (jQb cU b) := by
  unfold j_X1_sign_59 at h
  refine v_iincC (ls2 := [(5, .int (v5 + (nI 1))), (0, .ref v0), (1, .ref v1), (2, .int v2), (3, .int v3), (4, .int v4)]) dX1_sign_59 ic_1 5 rfl (by decide) rfl ?_
  refine v_goto (tgt := 9) dX1_sign_62 (by decide) ?_
  exact V.pick [1, 2, 3, 4, 5, 0] rfl (hk9 _ _ _ _ _ _ _ _ h)
def b_X1_sign_31 (k9 : Nat → Nat → Int32 → Int32 → Int32 → Int32 → jM → jO Unit) (k31 : Nat → Nat → Int32 → Int32 → Int32 → Int32 → Int32 → jM → jO Unit) (v0 : Nat) (v1 : Nat) (v2 : Int32) (v3 : Int32) (v4 : Int32) (v5 : Int32) (v6 : Int32) (M : jM) : jO Unit :=
  if v3 = 0 then
    j_X1_sign_59 k9 v0 v1 v2 v3 v4 v5 M
  else
    if v4 ≤ v6 then
      j_X1_sign_59 k9 v0 v1 v2 v3 v4 v5 M
    else
      jb2 (jiv 1 M v0 (f_X1_gatherColours v0 v2 v4 v5 v6 M)) fun _ M1 =>
      k31 v0 v1 v2 v3 v4 v5 (v6 + (nI 1)) M1
def l_X1_sign_31 (k9 : Nat → Nat → Int32 → Int32 → Int32 → Int32 → jM → jO Unit) : Nat → Nat → Nat → Int32 → Int32 → Int32 → Int32 → Int32 → jM → jO Unit
  | 0 => fun _ _ _ _ _ _ _ _ => none
  | n + 1 => b_X1_sign_31 k9 (l_X1_sign_31 k9 n)
theorem tb_X1_sign_31 {G : jG} {d : Nat} (hd_ : 3 ≤ d) {k9 : Nat → Nat → Int32 → Int32 → Int32 → Int32 → jM → jO Unit} (hk9 : ∀ (w0 : Nat) (w1 : Nat) (w2 : Int32) (w3 : Int32) (w4 : Int32) (w5 : Int32) (M : jM) (b : Unit × jM), k9 w0 w1 w2 w3 w4 w5 M = some b → V G m_X1_sign d 9 [(0, .ref w0), (1, .ref w1), (2, .int w2), (3, .int w3), (4, .int w4), (5, .int w5)] [] M (jQb cU b)) {k31 : Nat → Nat → Int32 → Int32 → Int32 → Int32 → Int32 → jM → jO Unit} (hk31 : ∀ (w0 : Nat) (w1 : Nat) (w2 : Int32) (w3 : Int32) (w4 : Int32) (w5 : Int32) (w6 : Int32) (M : jM) (b : Unit × jM), k31 w0 w1 w2 w3 w4 w5 w6 M = some b → V G m_X1_sign d 31 [(0, .ref w0), (1, .ref w1), (2, .int w2), (3, .int w3), (4, .int w4), (5, .int w5), (6, .int w6)] [] M (jQb cU b)) {v0 : Nat} {v1 : Nat} {v2 : Int32} {v3 : Int32} {v4 : Int32} {v5 : Int32} {v6 : Int32} {M : jM} {b : Unit × jM} (h : b_X1_sign_31 k9 k31 v0 v1 v2 v3 v4 v5 v6 M = some b) : V G m_X1_sign d 31 [(0, .ref v0), (1, .ref v1), (2, .int v2), (3, .int v3), (4, .int v4), (5, .int v5), (6, .int v6)] [] M (jQb cU b) := by
  unfold b_X1_sign_31 at h
  refine v_iload_n dX1_sign_31 rfl 3 rfl ?_
  refine x_if_eq (tgt := 59) dX1_sign_32 (by decide) h (fun h => ?_) (fun h => ?_)
  · exact V.pick [0, 1, 2, 3, 4, 5] rfl (t_X1_sign_59 hd_ hk9 h)
  · refine v_iload dX1_sign_35 6 rfl ?_
    refine v_iload dX1_sign_37 4 rfl ?_
    refine x_ic_ge (tgt := 59) dX1_sign_39 (by decide) h (fun h => ?_) (fun h => ?_)
    · exact V.pick [0, 1, 2, 3, 4, 5] rfl (t_X1_sign_59 hd_ hk9 h)
    · refine v_aload_n dX1_sign_42 rfl 0 rfl ?_
      refine v_iload_n dX1_sign_43 rfl 2 rfl ?_
      refine v_iload dX1_sign_44 4 rfl ?_
      refine v_iload dX1_sign_46 5 rfl ?_
      refine v_iload dX1_sign_48 6 rfl ?_
      refine x_inv (cv := cU) (As := [.int v2, .int v4, .int v5, .int v6]) (rest := []) (ls2 := [(0, .ref v0), (1, .int v2), (2, .int v4), (3, .int v5), (4, .int v6)]) (ci := 1) (by omega) dX1_sign_50 ke_X1_gatherColours kv_X1_82 rfl rfl (by decide) (Nat.le_of_ble_eq_true rfl) rfl rfl rfl rfl h (fun _ hq => s_X1_gatherColours (by omega) hq) (fun _ M1 h => ?_)
      refine v_iincC (ls2 := [(6, .int (v6 + (nI 1))), (0, .ref v0), (1, .ref v1), (2, .int v2), (3, .int v3), (4, .int v4), (5, .int v5)]) dX1_sign_53 ic_1 6 rfl (by decide) rfl ?_
      refine v_goto (tgt := 31) dX1_sign_56 (by decide) ?_
      exact V.pick [1, 2, 3, 4, 5, 6, 0] rfl (hk31 _ _ _ _ _ _ _ _ _ h)
theorem t_X1_sign_31 {G : jG} {d : Nat} (hd_ : 3 ≤ d) {k9 : Nat → Nat → Int32 → Int32 → Int32 → Int32 → jM → jO Unit} (hk9 : ∀ (w0 : Nat) (w1 : Nat) (w2 : Int32) (w3 : Int32) (w4 : Int32) (w5 : Int32) (M : jM) (b : Unit × jM), k9 w0 w1 w2 w3 w4 w5 M = some b → V G m_X1_sign d 9 [(0, .ref w0), (1, .ref w1), (2, .int w2), (3, .int w3), (4, .int w4), (5, .int w5)] [] M (jQb cU b)) : ∀ (n : Nat) (v0 : Nat) (v1 : Nat) (v2 : Int32) (v3 : Int32) (v4 : Int32) (v5 : Int32) (v6 : Int32) (M : jM) (b : Unit × jM), l_X1_sign_31 k9 n v0 v1 v2 v3 v4 v5 v6 M = some b → V G m_X1_sign d 31 [(0, .ref v0), (1, .ref v1), (2, .int v2), (3, .int v3), (4, .int v4), (5, .int v5), (6, .int v6)] [] M (jQb cU b) := by
  intro n
  induction n with
  | zero => intro v0 v1 v2 v3 v4 v5 v6 M b h; exact nomatch (show (none : jO Unit) = some b from h)
  | succ n ih => intro v0 v1 v2 v3 v4 v5 v6 M b h; exact tb_X1_sign_31 hd_ hk9 ih h
def j_X1_sign_28 (k9 : Nat → Nat → Int32 → Int32 → Int32 → Int32 → jM → jO Unit) (v0 : Nat) (v1 : Nat) (v2 : Int32) (v3 : Int32) (v4 : Int32) (v5 : Int32) (M : jM) : jO Unit :=
  l_X1_sign_31 k9 jF0 v0 v1 v2 v3 v4 v5 (nI 0) M
theorem t_X1_sign_28 {G : jG} {d : Nat} (hd_ : 3 ≤ d) {k9 : Nat → Nat → Int32 → Int32 → Int32 → Int32 → jM → jO Unit} (hk9 : ∀ (w0 : Nat) (w1 : Nat) (w2 : Int32) (w3 : Int32) (w4 : Int32) (w5 : Int32) (M : jM) (b : Unit × jM), k9 w0 w1 w2 w3 w4 w5 M = some b → V G m_X1_sign d 9 [(0, .ref w0), (1, .ref w1), (2, .int w2), (3, .int w3), (4, .int w4), (5, .int w5)] [] M (jQb cU b)) {v0 : Nat} {v1 : Nat} {v2 : Int32} {v3 : Int32} {v4 : Int32} {v5 : Int32} {M : jM} {b : Unit × jM} (h : j_X1_sign_28 k9 v0 v1 v2 v3 v4 v5 M = some b) : V G m_X1_sign d 28 [(0, .ref v0), (1, .ref v1), (2, .int v2), (3, .int v3), (4, .int v4), (5, .int v5)] [] M (jQb cU b) := by
  unfold j_X1_sign_28 at h
  refine v_iconst dX1_sign_28 ic_0 ?_
  refine v_istore (ls2 := [(6, .int (nI 0)), (0, .ref v0), (1, .ref v1), (2, .int v2), (3, .int v3), (4, .int v4), (5, .int v5)]) dX1_sign_29 (by decide) rfl ?_
  exact V.pick [1, 2, 3, 4, 5, 6, 0] rfl (t_X1_sign_31 hd_ hk9 _ _ _ _ _ _ _ _ _ _ h)
def b_X1_sign_9  (k9 : Nat → Nat → Int32 → Int32 → Int32 → Int32 → jM → jO Unit) (v0 : Nat) (v1 : Nat) (v2 : Int32) (v3 : Int32) (v4 : Int32) (v5 : Int32) (M : jM) : jO Unit :=
  if v4 ≤ v5 then
    rt () M
  else
    if v3 = 0 then
      jb2 (jiv 1 M v0 (f_X1_countTies v0 v1 v2 v5 M)) fun _ M1 =>
      j_X1_sign_28 k9 v0 v1 v2 v3 v4 v5 M1
    else
      j_X1_sign_28 k9 v0 v1 v2 v3 v4 v5 M
def l_X1_sign_9  : Nat → Nat → Nat → Int32 → Int32 → Int32 → Int32 → jM → jO Unit
  | 0 => fun _ _ _ _ _ _ _ => none
  | n + 1 => b_X1_sign_9  (l_X1_sign_9  n)
theorem tb_X1_sign_9 {G : jG} {d : Nat} (hd_ : 3 ≤ d)  {k9 : Nat → Nat → Int32 → Int32 → Int32 → Int32 → jM → jO Unit} (hk9 : ∀ (w0 : Nat) (w1 : Nat) (w2 : Int32) (w3 : Int32) (w4 : Int32) (w5 : Int32) (M : jM) (b : Unit × jM), k9 w0 w1 w2 w3 w4 w5 M = some b → V G m_X1_sign d 9 [(0, .ref w0), (1, .ref w1), (2, .int w2), (3, .int w3), (4, .int w4), (5, .int w5)] [] M (jQb cU b)) {v0 : Nat} {v1 : Nat} {v2 : Int32} {v3 : Int32} {v4 : Int32} {v5 : Int32} {M : jM} {b : Unit × jM} (h : b_X1_sign_9  k9 v0 v1 v2 v3 v4 v5 M = some b) : V G m_X1_sign d 9 [(0, .ref v0), (1, .ref v1), (2, .int v2), (3, .int v3), (4, .int v4), (5, .int v5)] [] M (jQb cU b) := by
  unfold b_X1_sign_9 at h
  refine v_iload dX1_sign_9 5 rfl ?_
  refine v_iload dX1_sign_11 4 rfl ?_
  refine x_ic_ge (tgt := 65) dX1_sign_13 (by decide) h (fun h => ?_) (fun h => ?_)
  · exact x_vret dX1_sign_65 rfl h
  · refine v_iload_n dX1_sign_16 rfl 3 rfl ?_
    refine x_if_ne (tgt := 28) dX1_sign_17 (by decide) h (fun h => ?_) (fun h => ?_)
    · refine v_aload_n dX1_sign_20 rfl 0 rfl ?_
      refine v_aload_n dX1_sign_21 rfl 1 rfl ?_
      refine v_iload_n dX1_sign_22 rfl 2 rfl ?_
      refine v_iload dX1_sign_23 5 rfl ?_
      refine x_inv (cv := cU) (As := [.ref v1, .int v2, .int v5]) (rest := []) (ls2 := [(0, .ref v0), (1, .ref v1), (2, .int v2), (3, .int v5)]) (ci := 1) (by omega) dX1_sign_25 ke_X1_countTies kv_X1_78 rfl rfl (by decide) (Nat.le_of_ble_eq_true rfl) rfl rfl rfl rfl h (fun _ hq => s_X1_countTies (by omega) hq) (fun _ M1 h => ?_)
      exact t_X1_sign_28 hd_ hk9 h
    · exact t_X1_sign_28 hd_ hk9 h
theorem t_X1_sign_9 {G : jG} {d : Nat} (hd_ : 3 ≤ d)  : ∀ (n : Nat) (v0 : Nat) (v1 : Nat) (v2 : Int32) (v3 : Int32) (v4 : Int32) (v5 : Int32) (M : jM) (b : Unit × jM), l_X1_sign_9  n v0 v1 v2 v3 v4 v5 M = some b → V G m_X1_sign d 9 [(0, .ref v0), (1, .ref v1), (2, .int v2), (3, .int v3), (4, .int v4), (5, .int v5)] [] M (jQb cU b) := by
  intro n
  induction n with
  | zero => intro v0 v1 v2 v3 v4 v5 M b h; exact nomatch (show (none : jO Unit) = some b from h)
  | succ n ih => intro v0 v1 v2 v3 v4 v5 M b h; exact tb_X1_sign_9 hd_  ih h
def f_X1_sign (v0 : Nat) (v1 : Nat) (v2 : Int32) (v3 : Int32) (M : jM) : jO Unit :=
  jb2 (jiv 8 M v1 (f_X9_size v1 M)) fun x2 M1 =>
  l_X1_sign_9 jF0 v0 v1 v2 v3 x2 (nI 0) M1
theorem s_X1_sign {G : jG} {d : Nat} (hd_ : 3 ≤ d) {v0 : Nat} {v1 : Nat} {v2 : Int32} {v3 : Int32} {M : jM} {b : Unit × jM} (h : f_X1_sign  v0 v1 v2 v3 M = some b) : V G m_X1_sign d 0 [(0, .ref v0), (1, .ref v1), (2, .int v2), (3, .int v3)] [] M (jQb cU b) := by
  unfold f_X1_sign at h
  refine v_aload_n dX1_sign_0 rfl 1 rfl ?_
  refine x_inv (cv := cI) (As := []) (rest := []) (ls2 := [(0, .ref v1)]) (ci := 8) (by omega) dX1_sign_1 ke_X9_size kv_X1_42 rfl rfl (by decide) (Nat.le_of_ble_eq_true rfl) rfl rfl rfl rfl h (fun _ hq => s_X9_size (by omega) hq) (fun x2 M1 h => ?_)
  refine v_istore (ls2 := [(4, .int x2), (0, .ref v0), (1, .ref v1), (2, .int v2), (3, .int v3)]) dX1_sign_4 (by decide) rfl ?_
  refine v_iconst dX1_sign_6 ic_0 ?_
  refine v_istore (ls2 := [(5, .int (nI 0)), (4, .int x2), (0, .ref v0), (1, .ref v1), (2, .int v2), (3, .int v3)]) dX1_sign_7 (by decide) rfl ?_
  exact V.pick [2, 3, 4, 5, 1, 0] rfl (t_X1_sign_9 hd_ _ _ _ _ _ _ _ _ _ h)
def j_X1_settle_168  (v0 : Nat) (M : jM) : jO Int32 :=
  (gI 1 M v0 6).bind fun x1 =>
  rt x1 M
theorem t_X1_settle_168 {G : jG} {d : Nat} (hd_ : 4 ≤ d)  {v0 : Nat} {M : jM} {b : Int32 × jM} (h : j_X1_settle_168  v0 M = some b) : V G m_X1_settle d 168 [(0, .ref v0)] [] M (jQb cI b) := by
  unfold j_X1_settle_168 at h
  refine v_aload_n dX1_settle_168 rfl 0 rfl ?_
  refine x_gI dX1_settle_169 kf_X1_32 rfl h (fun x1 h => ?_)
  exact x_iret dX1_settle_172 rfl h
def b_X1_settle_98  (k98 : Nat → Nat → Nat → Int32 → Int32 → jM → jO Int32) (v0 : Nat) (v1 : Nat) (v2 : Nat) (v3 : Int32) (v4 : Int32) (M : jM) : jO Int32 :=
  if (nI 72) ≤ v4 then
    j_X1_settle_168 v0 M
  else
    (gI 1 M v0 6).bind fun x1 =>
    (gR 1 M v0 2).bind fun r2 =>
    jb2 (f_J7_fill_d0a16 r2 (0 : Int64) M) fun _ M3 =>
    jb2 (jiv 1 M3 v0 (f_X1_sign v0 v1 (nI 0) v3 M3)) fun _ M4 =>
    (gI 1 M4 v0 5).bind fun x5 =>
    jb2 (jiv 1 M4 v0 (f_X1_sign v0 v2 x5 v3 M4)) fun _ M6 =>
    jb2 (jiv 1 M6 v0 (f_X1_regroup v0 M6)) fun _ M7 =>
    (gI 1 M7 v0 6).bind fun x8 =>
    if x8 = x1 then
      j_X1_settle_168 v0 M7
    else
      (gI 1 M7 v0 7).bind fun x9 =>
      (pI 1 M7 v0 7 (x9 + (nI 1))).bind fun M10 =>
      k98 v0 v1 v2 v3 (v4 + (nI 1)) M10
def l_X1_settle_98  : Nat → Nat → Nat → Nat → Int32 → Int32 → jM → jO Int32
  | 0 => fun _ _ _ _ _ _ => none
  | n + 1 => b_X1_settle_98  (l_X1_settle_98  n)
theorem tb_X1_settle_98 {G : jG} {d : Nat} (hd_ : 4 ≤ d)  {k98 : Nat → Nat → Nat → Int32 → Int32 → jM → jO Int32} (hk98 : ∀ (w0 : Nat) (w1 : Nat) (w2 : Nat) (w3 : Int32) (w4 : Int32) (M : jM) (b : Int32 × jM), k98 w0 w1 w2 w3 w4 M = some b → V G m_X1_settle d 98 [(0, .ref w0), (1, .ref w1), (2, .ref w2), (3, .int w3), (4, .int w4)] [] M (jQb cI b)) {v0 : Nat} {v1 : Nat} {v2 : Nat} {v3 : Int32} {v4 : Int32} {M : jM} {b : Int32 × jM} (h : b_X1_settle_98  k98 v0 v1 v2 v3 v4 M = some b) : V G m_X1_settle d 98 [(0, .ref v0), (1, .ref v1), (2, .ref v2), (3, .int v3), (4, .int v4)] [] M (jQb cI b) := by
  unfold b_X1_settle_98 at h
  refine v_iload dX1_settle_98 4 rfl ?_
  refine v_bipush dX1_settle_100 bp_72 ?_
  refine x_ic_ge (tgt := 168) dX1_settle_102 (by decide) h (fun h => ?_) (fun h => ?_)
  · exact V.pick [0] rfl (t_X1_settle_168 hd_ h)
  · refine v_aload_n dX1_settle_105 rfl 0 rfl ?_
    refine x_gI dX1_settle_106 kf_X1_32 rfl h (fun x1 h => ?_)
    refine v_istore (ls2 := [(5, .int x1), (0, .ref v0), (1, .ref v1), (2, .ref v2), (3, .int v3), (4, .int v4)]) dX1_settle_109 (by decide) rfl ?_
    refine v_aload_n dX1_settle_111 rfl 1 rfl ?_
    refine x_gR dX1_settle_112 kf_X1_18 rfl h (fun r2 h => ?_)
    refine v_lconst dX1_settle_115 lc_0 ?_
    refine x_invs (cv := cU) (As := [.ref r2, .long (0 : Int64)]) (rest := []) (ls2 := [(0, .ref r2), (1, .long (0 : Int64))]) (by omega) dX1_settle_116 ke_J7_fill_d0a16 ks_X1_54 (Nat.le_of_ble_eq_true rfl) rfl rfl rfl rfl h (fun _ hq => s_J7_fill_d0a16 (by omega) hq) (fun _ M3 h => ?_)
    refine v_aload_n dX1_settle_119 rfl 1 rfl ?_
    refine v_aload_n dX1_settle_120 rfl 2 rfl ?_
    refine v_iconst dX1_settle_121 ic_0 ?_
    refine v_iload_n dX1_settle_122 rfl 4 rfl ?_
    refine x_inv (cv := cU) (As := [.ref v1, .int (nI 0), .int v3]) (rest := []) (ls2 := [(0, .ref v0), (1, .ref v1), (2, .int (nI 0)), (3, .int v3)]) (ci := 1) (by omega) dX1_settle_123 ke_X1_sign kv_X1_64 rfl rfl (by decide) (Nat.le_of_ble_eq_true rfl) rfl rfl rfl rfl h (fun _ hq => s_X1_sign (by omega) hq) (fun _ M4 h => ?_)
    refine v_aload_n dX1_settle_126 rfl 1 rfl ?_
    refine v_aload_n dX1_settle_127 rfl 3 rfl ?_
    refine v_aload_n dX1_settle_128 rfl 1 rfl ?_
    refine x_gI dX1_settle_129 kf_X1_29 rfl h (fun x5 h => ?_)
    refine v_iload_n dX1_settle_132 rfl 4 rfl ?_
    refine x_inv (cv := cU) (As := [.ref v2, .int x5, .int v3]) (rest := []) (ls2 := [(0, .ref v0), (1, .ref v2), (2, .int x5), (3, .int v3)]) (ci := 1) (by omega) dX1_settle_133 ke_X1_sign kv_X1_64 rfl rfl (by decide) (Nat.le_of_ble_eq_true rfl) rfl rfl rfl rfl h (fun _ hq => s_X1_sign (by omega) hq) (fun _ M6 h => ?_)
    refine v_aload_n dX1_settle_136 rfl 1 rfl ?_
    refine x_inv (cv := cU) (As := []) (rest := []) (ls2 := [(0, .ref v0)]) (ci := 1) (by omega) dX1_settle_137 ke_X1_regroup kv_X1_61 rfl rfl (by decide) (Nat.le_of_ble_eq_true rfl) rfl rfl rfl rfl h (fun _ hq => s_X1_regroup (by omega) hq) (fun _ M7 h => ?_)
    refine v_aload_n dX1_settle_140 rfl 1 rfl ?_
    refine x_gI dX1_settle_141 kf_X1_32 rfl h (fun x8 h => ?_)
    refine v_iload dX1_settle_144 0 rfl ?_
    refine x_ic_ne (tgt := 152) dX1_settle_146 (by decide) h (fun h => ?_) (fun h => ?_)
    · refine v_goto (tgt := 168) dX1_settle_149 (by decide) ?_
      exact V.pick [1] rfl (t_X1_settle_168 hd_ h)
    · refine v_aload_n dX1_settle_152 rfl 1 rfl ?_
      refine v_dup dX1_settle_153 rfl ?_
      refine x_gI dX1_settle_154 kf_X1_35 rfl h (fun x9 h => ?_)
      refine v_iconst dX1_settle_157 ic_1 ?_
      refine v_iadd dX1_settle_158 ?_
      refine x_pI dX1_settle_159 kf_X1_35 rfl (fun q => Bool.noConfusion q) h (fun M10 h => ?_)
      refine v_iincC (ls2 := [(4, .int (v4 + (nI 1))), (5, .int x1), (0, .ref v0), (1, .ref v1), (2, .ref v2), (3, .int v3)]) dX1_settle_162 ic_1 5 rfl (by decide) rfl ?_
      refine v_goto (tgt := 98) dX1_settle_165 (by decide) ?_
      exact V.pick [2, 3, 4, 5, 0] rfl (hk98 _ _ _ _ _ _ _ h)
theorem t_X1_settle_98 {G : jG} {d : Nat} (hd_ : 4 ≤ d)  : ∀ (n : Nat) (v0 : Nat) (v1 : Nat) (v2 : Nat) (v3 : Int32) (v4 : Int32) (M : jM) (b : Int32 × jM), l_X1_settle_98  n v0 v1 v2 v3 v4 M = some b → V G m_X1_settle d 98 [(0, .ref v0), (1, .ref v1), (2, .ref v2), (3, .int v3), (4, .int v4)] [] M (jQb cI b) := by
  intro n
  induction n with
  | zero => intro v0 v1 v2 v3 v4 M b h; exact nomatch (show (none : jO Int32) = some b from h)
  | succ n ih => intro v0 v1 v2 v3 v4 M b h; exact tb_X1_settle_98 hd_  ih h
def j_X1_settle_49  (v0 : Nat) (v1 : Nat) (v2 : Nat) (v3 : Int32) (s0 : Nat) (s1 : Int32) (s2 : Int32) (M : jM) : jO Int32 :=
  (pI 1 M s0 4 (s1 + s2)).bind fun M1 =>
  (pI 1 M1 v0 7 (nI 0)).bind fun M2 =>
  (gR 1 M2 v0 0).bind fun r3 =>
  jb2 (f_J7_fill_53178 r3 (nI 0) M2) fun _ M4 =>
  (gR 1 M4 v0 2).bind fun r5 =>
  jb2 (f_J7_fill_d0a16 r5 (0 : Int64) M4) fun _ M6 =>
  jb2 (jiv 1 M6 v0 (f_X1_lookAt v0 v1 (nI 0) v3 M6)) fun _ M7 =>
  (gI 1 M7 v0 5).bind fun x8 =>
  jb2 (jiv 1 M7 v0 (f_X1_lookAt v0 v2 x8 v3 M7)) fun _ M9 =>
  jb2 (jiv 1 M9 v0 (f_X1_regroup v0 M9)) fun _ M10 =>
  l_X1_settle_98 jF0 v0 v1 v2 v3 (nI 0) M10
theorem t_X1_settle_49 {G : jG} {d : Nat} (hd_ : 4 ≤ d)  {v0 : Nat} {v1 : Nat} {v2 : Nat} {v3 : Int32} {s0 : Nat} {s1 : Int32} {s2 : Int32} {M : jM} {b : Int32 × jM} (h : j_X1_settle_49  v0 v1 v2 v3 s0 s1 s2 M = some b) : V G m_X1_settle d 49 [(0, .ref v0), (1, .ref v1), (2, .ref v2), (3, .int v3)] [.int s2, .int s1, .ref s0] M (jQb cI b) := by
  unfold j_X1_settle_49 at h
  refine v_iadd dX1_settle_49 ?_
  refine x_pI dX1_settle_50 kf_X1_25 rfl (fun q => Bool.noConfusion q) h (fun M1 h => ?_)
  refine v_aload_n dX1_settle_53 rfl 0 rfl ?_
  refine v_iconst dX1_settle_54 ic_0 ?_
  refine x_pI dX1_settle_55 kf_X1_35 rfl (fun q => Bool.noConfusion q) h (fun M2 h => ?_)
  refine v_aload_n dX1_settle_58 rfl 0 rfl ?_
  refine x_gR dX1_settle_59 kf_X1_9 rfl h (fun r3 h => ?_)
  refine v_iconst dX1_settle_62 ic_0 ?_
  refine x_invs (cv := cU) (As := [.ref r3, .int (nI 0)]) (rest := []) (ls2 := [(0, .ref r3), (1, .int (nI 0))]) (by omega) dX1_settle_63 ke_J7_fill_53178 ks_X1_48 (Nat.le_of_ble_eq_true rfl) rfl rfl rfl rfl h (fun _ hq => s_J7_fill_53178 (by omega) hq) (fun _ M4 h => ?_)
  refine v_aload_n dX1_settle_66 rfl 0 rfl ?_
  refine x_gR dX1_settle_67 kf_X1_18 rfl h (fun r5 h => ?_)
  refine v_lconst dX1_settle_70 lc_0 ?_
  refine x_invs (cv := cU) (As := [.ref r5, .long (0 : Int64)]) (rest := []) (ls2 := [(0, .ref r5), (1, .long (0 : Int64))]) (by omega) dX1_settle_71 ke_J7_fill_d0a16 ks_X1_54 (Nat.le_of_ble_eq_true rfl) rfl rfl rfl rfl h (fun _ hq => s_J7_fill_d0a16 (by omega) hq) (fun _ M6 h => ?_)
  refine v_aload_n dX1_settle_74 rfl 0 rfl ?_
  refine v_aload_n dX1_settle_75 rfl 1 rfl ?_
  refine v_iconst dX1_settle_76 ic_0 ?_
  refine v_iload_n dX1_settle_77 rfl 3 rfl ?_
  refine x_inv (cv := cU) (As := [.ref v1, .int (nI 0), .int v3]) (rest := []) (ls2 := [(0, .ref v0), (1, .ref v1), (2, .int (nI 0)), (3, .int v3)]) (ci := 1) (by omega) dX1_settle_78 ke_X1_lookAt kv_X1_57 rfl rfl (by decide) (Nat.le_of_ble_eq_true rfl) rfl rfl rfl rfl h (fun _ hq => s_X1_lookAt (by omega) hq) (fun _ M7 h => ?_)
  refine v_aload_n dX1_settle_81 rfl 0 rfl ?_
  refine v_aload_n dX1_settle_82 rfl 2 rfl ?_
  refine v_aload_n dX1_settle_83 rfl 0 rfl ?_
  refine x_gI dX1_settle_84 kf_X1_29 rfl h (fun x8 h => ?_)
  refine v_iload_n dX1_settle_87 rfl 3 rfl ?_
  refine x_inv (cv := cU) (As := [.ref v2, .int x8, .int v3]) (rest := []) (ls2 := [(0, .ref v0), (1, .ref v2), (2, .int x8), (3, .int v3)]) (ci := 1) (by omega) dX1_settle_88 ke_X1_lookAt kv_X1_57 rfl rfl (by decide) (Nat.le_of_ble_eq_true rfl) rfl rfl rfl rfl h (fun _ hq => s_X1_lookAt (by omega) hq) (fun _ M9 h => ?_)
  refine v_aload_n dX1_settle_91 rfl 0 rfl ?_
  refine x_inv (cv := cU) (As := []) (rest := []) (ls2 := [(0, .ref v0)]) (ci := 1) (by omega) dX1_settle_92 ke_X1_regroup kv_X1_61 rfl rfl (by decide) (Nat.le_of_ble_eq_true rfl) rfl rfl rfl rfl h (fun _ hq => s_X1_regroup (by omega) hq) (fun _ M10 h => ?_)
  refine v_iconst dX1_settle_95 ic_0 ?_
  refine v_istore (ls2 := [(4, .int (nI 0)), (0, .ref v0), (1, .ref v1), (2, .ref v2), (3, .int v3)]) dX1_settle_96 (by decide) rfl ?_
  exact V.pick [1, 2, 3, 4, 0] rfl (t_X1_settle_98 hd_ _ _ _ _ _ _ _ _ h)
def j_X1_settle_21  (v0 : Nat) (v1 : Nat) (v2 : Nat) (v3 : Int32) (s0 : Nat) (s1 : Int32) (M : jM) : jO Int32 :=
  (pI 1 M s0 5 s1).bind fun M1 =>
  (gI 1 M1 v0 5).bind fun x2 =>
  if v3 = 0 then
    jb2 (jiv 8 M1 v2 (f_X9_size v2 M1)) fun x4 M3 =>
    j_X1_settle_49 v0 v1 v2 v3 v0 x2 x4 M3
  else
    jb2 (jiv 8 M1 v2 (f_X9_size v2 M1)) fun x6 M5 =>
    jb2 (jiv 8 M5 v2 (f_X9_size v2 M5)) fun x8 M7 =>
    j_X1_settle_49 v0 v1 v2 v3 v0 x2 (x6 * x8) M7
theorem t_X1_settle_21 {G : jG} {d : Nat} (hd_ : 4 ≤ d)  {v0 : Nat} {v1 : Nat} {v2 : Nat} {v3 : Int32} {s0 : Nat} {s1 : Int32} {M : jM} {b : Int32 × jM} (h : j_X1_settle_21  v0 v1 v2 v3 s0 s1 M = some b) : V G m_X1_settle d 21 [(0, .ref v0), (1, .ref v1), (2, .ref v2), (3, .int v3)] [.int s1, .ref s0] M (jQb cI b) := by
  unfold j_X1_settle_21 at h
  refine x_pI dX1_settle_21 kf_X1_29 rfl (fun q => Bool.noConfusion q) h (fun M1 h => ?_)
  refine v_aload_n dX1_settle_24 rfl 0 rfl ?_
  refine v_aload_n dX1_settle_25 rfl 0 rfl ?_
  refine x_gI dX1_settle_26 kf_X1_29 rfl h (fun x2 h => ?_)
  refine v_iload_n dX1_settle_29 rfl 3 rfl ?_
  refine x_if_eq (tgt := 45) dX1_settle_30 (by decide) h (fun h => ?_) (fun h => ?_)
  · refine v_aload_n dX1_settle_45 rfl 2 rfl ?_
    refine x_inv (cv := cI) (As := []) (rest := [.int x2, .ref v0]) (ls2 := [(0, .ref v2)]) (ci := 8) (by omega) dX1_settle_46 ke_X9_size kv_X1_42 rfl rfl (by decide) (Nat.le_of_ble_eq_true rfl) rfl rfl rfl rfl h (fun _ hq => s_X9_size (by omega) hq) (fun x4 M3 h => ?_)
    exact t_X1_settle_49 hd_ h
  · refine v_aload_n dX1_settle_33 rfl 2 rfl ?_
    refine x_inv (cv := cI) (As := []) (rest := [.int x2, .ref v0]) (ls2 := [(0, .ref v2)]) (ci := 8) (by omega) dX1_settle_34 ke_X9_size kv_X1_42 rfl rfl (by decide) (Nat.le_of_ble_eq_true rfl) rfl rfl rfl rfl h (fun _ hq => s_X9_size (by omega) hq) (fun x6 M5 h => ?_)
    refine v_aload_n dX1_settle_37 rfl 2 rfl ?_
    refine x_inv (cv := cI) (As := []) (rest := [.int x6, .int x2, .ref v0]) (ls2 := [(0, .ref v2)]) (ci := 8) (by omega) dX1_settle_38 ke_X9_size kv_X1_42 rfl rfl (by decide) (Nat.le_of_ble_eq_true rfl) rfl rfl rfl rfl h (fun _ hq => s_X9_size (by omega) hq) (fun x8 M7 h => ?_)
    refine v_imul dX1_settle_41 ?_
    refine v_goto (tgt := 49) dX1_settle_42 (by decide) ?_
    exact t_X1_settle_49 hd_ h
def f_X1_settle (v0 : Nat) (v1 : Nat) (v2 : Nat) (v3 : Int32) (M : jM) : jO Int32 :=
  if v3 = 0 then
    jb2 (jiv 8 M v1 (f_X9_size v1 M)) fun x2 M1 =>
    j_X1_settle_21 v0 v1 v2 v3 v0 x2 M1
  else
    jb2 (jiv 8 M v1 (f_X9_size v1 M)) fun x4 M3 =>
    jb2 (jiv 8 M3 v1 (f_X9_size v1 M3)) fun x6 M5 =>
    j_X1_settle_21 v0 v1 v2 v3 v0 (x4 * x6) M5
theorem s_X1_settle {G : jG} {d : Nat} (hd_ : 4 ≤ d) {v0 : Nat} {v1 : Nat} {v2 : Nat} {v3 : Int32} {M : jM} {b : Int32 × jM} (h : f_X1_settle  v0 v1 v2 v3 M = some b) : V G m_X1_settle d 0 [(0, .ref v0), (1, .ref v1), (2, .ref v2), (3, .int v3)] [] M (jQb cI b) := by
  unfold f_X1_settle at h
  refine v_aload_n dX1_settle_0 rfl 0 rfl ?_
  refine v_iload_n dX1_settle_1 rfl 3 rfl ?_
  refine x_if_eq (tgt := 17) dX1_settle_2 (by decide) h (fun h => ?_) (fun h => ?_)
  · refine v_aload_n dX1_settle_17 rfl 1 rfl ?_
    refine x_inv (cv := cI) (As := []) (rest := [.ref v0]) (ls2 := [(0, .ref v1)]) (ci := 8) (by omega) dX1_settle_18 ke_X9_size kv_X1_42 rfl rfl (by decide) (Nat.le_of_ble_eq_true rfl) rfl rfl rfl rfl h (fun _ hq => s_X9_size (by omega) hq) (fun x2 M1 h => ?_)
    exact t_X1_settle_21 hd_ h
  · refine v_aload_n dX1_settle_5 rfl 1 rfl ?_
    refine x_inv (cv := cI) (As := []) (rest := [.ref v0]) (ls2 := [(0, .ref v1)]) (ci := 8) (by omega) dX1_settle_6 ke_X9_size kv_X1_42 rfl rfl (by decide) (Nat.le_of_ble_eq_true rfl) rfl rfl rfl rfl h (fun _ hq => s_X9_size (by omega) hq) (fun x4 M3 h => ?_)
    refine v_aload_n dX1_settle_9 rfl 1 rfl ?_
    refine x_inv (cv := cI) (As := []) (rest := [.int x4, .ref v0]) (ls2 := [(0, .ref v1)]) (ci := 8) (by omega) dX1_settle_10 ke_X9_size kv_X1_42 rfl rfl (by decide) (Nat.le_of_ble_eq_true rfl) rfl rfl rfl rfl h (fun _ hq => s_X9_size (by omega) hq) (fun x6 M5 h => ?_)
    refine v_imul dX1_settle_13 ?_
    refine v_goto (tgt := 21) dX1_settle_14 (by decide) ?_
    exact t_X1_settle_21 hd_ h
def j_X11_colour_56  (s0 : Nat) (s1 : Nat) (s2 : Nat) (s3 : Int32) (M : jM) : jO Int32 :=
  jb2 (jiv 1 M s0 (f_X1_settle s0 s1 s2 s3 M)) fun x2 M1 =>
  rt x2 M1
theorem t_X11_colour_56 {G : jG} {d : Nat} (hd_ : 5 ≤ d)  {s0 : Nat} {s1 : Nat} {s2 : Nat} {s3 : Int32} {M : jM} {b : Int32 × jM} (h : j_X11_colour_56  s0 s1 s2 s3 M = some b) : V G m_X11_colour d 56 [] [.int s3, .ref s2, .ref s1, .ref s0] M (jQb cI b) := by
  unfold j_X11_colour_56 at h
  refine x_inv (cv := cI) (As := [.ref s1, .ref s2, .int s3]) (rest := []) (ls2 := [(0, .ref s0), (1, .ref s1), (2, .ref s2), (3, .int s3)]) (ci := 1) (by omega) dX11_colour_56 ke_X1_settle kv_X11_226 rfl rfl (by decide) (Nat.le_of_ble_eq_true rfl) rfl rfl rfl rfl h (fun _ hq => s_X1_settle (by omega) hq) (fun x2 M1 h => ?_)
  exact x_iret dX11_colour_59 rfl h
def j_X11_colour_38  (v0 : Nat) (v3 : Int32) (v4 : Nat) (v5 : Nat) (M : jM) : jO Int32 :=
  (gR 10 M v0 11).bind fun r1 =>
  if v3 = (nI 1) then
    j_X11_colour_56 r1 v4 v5 (nI 1) M
  else
    j_X11_colour_56 r1 v4 v5 (nI 0) M
theorem t_X11_colour_38 {G : jG} {d : Nat} (hd_ : 5 ≤ d)  {v0 : Nat} {v3 : Int32} {v4 : Nat} {v5 : Nat} {M : jM} {b : Int32 × jM} (h : j_X11_colour_38  v0 v3 v4 v5 M = some b) : V G m_X11_colour d 38 [(0, .ref v0), (3, .int v3), (4, .ref v4), (5, .ref v5)] [] M (jQb cI b) := by
  unfold j_X11_colour_38 at h
  refine v_aload_n dX11_colour_38 rfl 0 rfl ?_
  refine x_gR dX11_colour_39 kf_X11_82 rfl h (fun r1 h => ?_)
  refine v_aload dX11_colour_42 2 rfl ?_
  refine v_aload dX11_colour_44 3 rfl ?_
  refine v_iload_n dX11_colour_46 rfl 1 rfl ?_
  refine v_iconst dX11_colour_47 ic_1 ?_
  refine x_ic_ne (tgt := 55) dX11_colour_48 (by decide) h (fun h => ?_) (fun h => ?_)
  · refine v_iconst dX11_colour_51 ic_1 ?_
    refine v_goto (tgt := 56) dX11_colour_52 (by decide) ?_
    exact V.pick [] rfl (t_X11_colour_56 hd_ h)
  · refine v_iconst dX11_colour_55 ic_0 ?_
    exact V.pick [] rfl (t_X11_colour_56 hd_ h)
def f_X11_colour (v0 : Nat) (v1 : Int32) (v2 : Int32) (v3 : Int32) (M : jM) : jO Int32 :=
  jb2 (jiv 10 M v0 (f_X11_worldOf v0 v1 M)) fun o2 M1 =>
  jb2 (jiv 10 M1 v0 (f_X11_worldOf v0 v2 M1)) fun o4 M3 =>
  jnl o2 (
    rt (-1 : Int32) M3
    ) fun a5 =>
    jnl o4 (
      rt (-1 : Int32) M3
      ) fun a6 =>
      if v3 = 0 then
        j_X11_colour_38 v0 v3 a5 a6 M3
      else
        if v3 = (nI 1) then
          j_X11_colour_38 v0 v3 a5 a6 M3
        else
          rt (-2 : Int32) M3
theorem s_X11_colour {G : jG} {d : Nat} (hd_ : 5 ≤ d) {v0 : Nat} {v1 : Int32} {v2 : Int32} {v3 : Int32} {M : jM} {b : Int32 × jM} (h : f_X11_colour  v0 v1 v2 v3 M = some b) : V G m_X11_colour d 0 [(0, .ref v0), (1, .int v1), (2, .int v2), (3, .int v3)] [] M (jQb cI b) := by
  unfold f_X11_colour at h
  refine v_aload_n dX11_colour_0 rfl 0 rfl ?_
  refine v_iload_n dX11_colour_1 rfl 1 rfl ?_
  refine x_inv (cv := cN) (As := [.int v1]) (rest := []) (ls2 := [(0, .ref v0), (1, .int v1)]) (ci := 10) (by omega) dX11_colour_2 ke_X11_worldOf kv_X11_94 rfl rfl (by decide) (Nat.le_of_ble_eq_true rfl) rfl rfl rfl rfl h (fun _ hq => s_X11_worldOf (by omega) hq) (fun o2 M1 h => ?_)
  refine v_astoreQ (ls2 := [(4, va_rf o2), (0, .ref v0), (1, .int v1), (2, .int v2), (3, .int v3)]) dX11_colour_5 (by decide) rfl ?_
  refine v_aload_n dX11_colour_7 rfl 1 rfl ?_
  refine v_iload_n dX11_colour_8 rfl 3 rfl ?_
  refine x_inv (cv := cN) (As := [.int v2]) (rest := []) (ls2 := [(0, .ref v0), (1, .int v2)]) (ci := 10) (by omega) dX11_colour_9 ke_X11_worldOf kv_X11_94 rfl rfl (by decide) (Nat.le_of_ble_eq_true rfl) rfl rfl rfl rfl h (fun _ hq => s_X11_worldOf (by omega) hq) (fun o4 M3 h => ?_)
  refine v_astoreQ (ls2 := [(5, va_rf o4), (4, va_rf o2), (0, .ref v0), (1, .int v1), (2, .int v2), (3, .int v3)]) dX11_colour_12 (by decide) (by simp [jst, jcatQ]) ?_
  refine v_aloadQ dX11_colour_14 1 rfl ?_
  cases o2 with
  | none =>
    replace h := x_nN h
    refine v_ifnullN (tgt := 24) dX11_colour_16 (by decide) ?_
    refine v_iconst dX11_colour_24 ic_m1 ?_
    exact x_iret dX11_colour_25 rfl h
  | some a5 =>
    replace h := x_nS h
    refine v_ifnull dX11_colour_16 ?_
    refine v_aloadQ dX11_colour_19 0 rfl ?_
    cases o4 with
    | none =>
      replace h := x_nN h
      refine v_ifnonnullN dX11_colour_21 ?_
      refine v_iconst dX11_colour_24 ic_m1 ?_
      exact x_iret dX11_colour_25 rfl h
    | some a6 =>
      replace h := x_nS h
      refine v_ifnonnull (tgt := 26) dX11_colour_21 (by decide) ?_
      refine v_iload_n dX11_colour_26 rfl 5 rfl ?_
      refine x_if_eq (tgt := 38) dX11_colour_27 (by decide) h (fun h => ?_) (fun h => ?_)
      · exact V.pick [2, 5, 1, 0] rfl (t_X11_colour_38 hd_ h)
      · refine v_iload_n dX11_colour_30 rfl 5 rfl ?_
        refine v_iconst dX11_colour_31 ic_1 ?_
        refine x_ic_eq (tgt := 38) dX11_colour_32 (by decide) h (fun h => ?_) (fun h => ?_)
        · exact V.pick [2, 5, 1, 0] rfl (t_X11_colour_38 hd_ h)
        · refine v_bipush dX11_colour_35 bp_m2 ?_
          exact x_iret dX11_colour_37 rfl h
def f_X1_colourOf (v0 : Nat) (v1 : Int32) (M : jM) : jO Int32 :=
  if v1 < 0 then
    rt (-1 : Int32) M
  else
    (gI 1 M v0 4).bind fun x1 =>
    if x1 ≤ v1 then
      rt (-1 : Int32) M
    else
      jb2 (jiv 1 M v0 (f_X1_colourAt v0 v1 M)) fun x3 M2 =>
      rt x3 M2
theorem s_X1_colourOf {G : jG} {d : Nat} (hd_ : 1 ≤ d) {v0 : Nat} {v1 : Int32} {M : jM} {b : Int32 × jM} (h : f_X1_colourOf  v0 v1 M = some b) : V G m_X1_colourOf d 0 [(0, .ref v0), (1, .int v1)] [] M (jQb cI b) := by
  unfold f_X1_colourOf at h
  refine v_iload_n dX1_colourOf_0 rfl 1 rfl ?_
  refine x_if_lt (tgt := 20) dX1_colourOf_1 (by decide) h (fun h => ?_) (fun h => ?_)
  · refine v_iconst dX1_colourOf_20 ic_m1 ?_
    exact x_iret dX1_colourOf_21 rfl h
  · refine v_iload_n dX1_colourOf_4 rfl 1 rfl ?_
    refine v_aload_n dX1_colourOf_5 rfl 0 rfl ?_
    refine x_gI dX1_colourOf_6 kf_X1_25 rfl h (fun x1 h => ?_)
    refine x_ic_ge (tgt := 20) dX1_colourOf_9 (by decide) h (fun h => ?_) (fun h => ?_)
    · refine v_iconst dX1_colourOf_20 ic_m1 ?_
      exact x_iret dX1_colourOf_21 rfl h
    · refine v_aload_n dX1_colourOf_12 rfl 0 rfl ?_
      refine v_iload_n dX1_colourOf_13 rfl 1 rfl ?_
      refine x_inv (cv := cI) (As := [.int v1]) (rest := []) (ls2 := [(0, .ref v0), (1, .int v1)]) (ci := 1) (by omega) dX1_colourOf_14 ke_X1_colourAt kv_X1_38 rfl rfl (by decide) (Nat.le_of_ble_eq_true rfl) rfl rfl rfl rfl h (fun _ hq => s_X1_colourAt (by omega) hq) (fun x3 M2 h => ?_)
      refine v_goto (tgt := 21) dX1_colourOf_17 (by decide) ?_
      exact x_iret dX1_colourOf_21 rfl h
def f_X11_coloured (v0 : Nat) (v1 : Int32) (M : jM) : jO Int32 :=
  (gR 10 M v0 11).bind fun r1 =>
  jb2 (jiv 1 M r1 (f_X1_colourOf r1 v1 M)) fun x3 M2 =>
  rt x3 M2
theorem s_X11_coloured {G : jG} {d : Nat} (hd_ : 2 ≤ d) {v0 : Nat} {v1 : Int32} {M : jM} {b : Int32 × jM} (h : f_X11_coloured  v0 v1 M = some b) : V G m_X11_coloured d 0 [(0, .ref v0), (1, .int v1)] [] M (jQb cI b) := by
  unfold f_X11_coloured at h
  refine v_aload_n dX11_coloured_0 rfl 0 rfl ?_
  refine x_gR dX11_coloured_1 kf_X11_82 rfl h (fun r1 h => ?_)
  refine v_iload_n dX11_coloured_4 rfl 1 rfl ?_
  refine x_inv (cv := cI) (As := [.int v1]) (rest := []) (ls2 := [(0, .ref r1), (1, .int v1)]) (ci := 1) (by omega) dX11_coloured_5 ke_X1_colourOf kv_X11_230 rfl rfl (by decide) (Nat.le_of_ble_eq_true rfl) rfl rfl rfl rfl h (fun _ hq => s_X1_colourOf (by omega) hq) (fun x3 M2 h => ?_)
  exact x_iret dX11_coloured_8 rfl h
def f_X8_length (v0 : Nat) (M : jM) : jO Int32 :=
  (gI 7 M v0 1).bind fun x1 =>
  rt x1 M
theorem s_X8_length {G : jG} {d : Nat} (hd_ : 0 ≤ d) {v0 : Nat} {M : jM} {b : Int32 × jM} (h : f_X8_length  v0 M = some b) : V G m_X8_length d 0 [(0, .ref v0)] [] M (jQb cI b) := by
  unfold f_X8_length at h
  refine v_aload_n dX8_length_0 rfl 0 rfl ?_
  refine x_gI dX8_length_1 kf_X8_15 rfl h (fun x1 h => ?_)
  exact x_iret dX8_length_4 rfl h
def b_X8_putNumber_3  (k3 : Nat → Int32 → Int32 → jM → jO Unit) (v0 : Nat) (v1 : Int32) (v2 : Int32) (M : jM) : jO Unit :=
  if v2 < 0 then
    rt () M
  else
    (gI 7 M v0 1).bind fun x1 =>
    if x1 < 0 then
      rt () M
    else
      (gI 7 M v0 1).bind fun x2 =>
      (gR 7 M v0 0).bind fun r3 =>
      (ln M r3).bind fun x4 =>
      if x4 ≤ x2 then
        rt () M
      else
        (gR 7 M v0 0).bind fun r5 =>
        (gI 7 M v0 1).bind fun x6 =>
        (stB M r5 x6 (Int8.toInt32 (Int32.toInt8 (v1 >>> (v2 &&& 31))))).bind fun M7 =>
        (gI 7 M7 v0 1).bind fun x8 =>
        (pI 7 M7 v0 1 (x8 + (nI 1))).bind fun M9 =>
        k3 v0 v1 (v2 + (-8 : Int32)) M9
def l_X8_putNumber_3  : Nat → Nat → Int32 → Int32 → jM → jO Unit
  | 0 => fun _ _ _ _ => none
  | n + 1 => b_X8_putNumber_3  (l_X8_putNumber_3  n)
theorem tb_X8_putNumber_3 {G : jG} {d : Nat} (hd_ : 0 ≤ d)  {k3 : Nat → Int32 → Int32 → jM → jO Unit} (hk3 : ∀ (w0 : Nat) (w1 : Int32) (w2 : Int32) (M : jM) (b : Unit × jM), k3 w0 w1 w2 M = some b → V G m_X8_putNumber d 3 [(0, .ref w0), (1, .int w1), (2, .int w2)] [] M (jQb cU b)) {v0 : Nat} {v1 : Int32} {v2 : Int32} {M : jM} {b : Unit × jM} (h : b_X8_putNumber_3  k3 v0 v1 v2 M = some b) : V G m_X8_putNumber d 3 [(0, .ref v0), (1, .int v1), (2, .int v2)] [] M (jQb cU b) := by
  unfold b_X8_putNumber_3 at h
  refine v_iload_n dX8_putNumber_3 rfl 2 rfl ?_
  refine x_if_lt (tgt := 55) dX8_putNumber_4 (by decide) h (fun h => ?_) (fun h => ?_)
  · exact x_vret dX8_putNumber_55 rfl h
  · refine v_aload_n dX8_putNumber_7 rfl 0 rfl ?_
    refine x_gI dX8_putNumber_8 kf_X8_15 rfl h (fun x1 h => ?_)
    refine x_if_lt (tgt := 55) dX8_putNumber_11 (by decide) h (fun h => ?_) (fun h => ?_)
    · exact x_vret dX8_putNumber_55 rfl h
    · refine v_aload_n dX8_putNumber_14 rfl 0 rfl ?_
      refine x_gI dX8_putNumber_15 kf_X8_15 rfl h (fun x2 h => ?_)
      refine v_aload_n dX8_putNumber_18 rfl 0 rfl ?_
      refine x_gR dX8_putNumber_19 kf_X8_9 rfl h (fun r3 h => ?_)
      refine x_ln dX8_putNumber_22 h (fun x4 h => ?_)
      refine x_ic_ge (tgt := 55) dX8_putNumber_23 (by decide) h (fun h => ?_) (fun h => ?_)
      · exact x_vret dX8_putNumber_55 rfl h
      · refine v_aload_n dX8_putNumber_26 rfl 0 rfl ?_
        refine x_gR dX8_putNumber_27 kf_X8_9 rfl h (fun r5 h => ?_)
        refine v_aload_n dX8_putNumber_30 rfl 0 rfl ?_
        refine x_gI dX8_putNumber_31 kf_X8_15 rfl h (fun x6 h => ?_)
        refine v_iload_n dX8_putNumber_34 rfl 1 rfl ?_
        refine v_iload_n dX8_putNumber_35 rfl 2 rfl ?_
        refine v_ishr dX8_putNumber_36 ?_
        refine v_i2b dX8_putNumber_37 ?_
        refine x_stB dX8_putNumber_38 h (fun M7 h => ?_)
        refine v_aload_n dX8_putNumber_39 rfl 0 rfl ?_
        refine v_dup dX8_putNumber_40 rfl ?_
        refine x_gI dX8_putNumber_41 kf_X8_15 rfl h (fun x8 h => ?_)
        refine v_iconst dX8_putNumber_44 ic_1 ?_
        refine v_iadd dX8_putNumber_45 ?_
        refine x_pI dX8_putNumber_46 kf_X8_15 rfl (fun q => Bool.noConfusion q) h (fun M9 h => ?_)
        refine v_iincC (ls2 := [(2, .int (v2 + (-8 : Int32))), (0, .ref v0), (1, .int v1)]) dX8_putNumber_49 ic_m8 2 rfl (by decide) rfl ?_
        refine v_goto (tgt := 3) dX8_putNumber_52 (by decide) ?_
        exact V.pick [1, 2, 0] rfl (hk3 _ _ _ _ _ h)
theorem t_X8_putNumber_3 {G : jG} {d : Nat} (hd_ : 0 ≤ d)  : ∀ (n : Nat) (v0 : Nat) (v1 : Int32) (v2 : Int32) (M : jM) (b : Unit × jM), l_X8_putNumber_3  n v0 v1 v2 M = some b → V G m_X8_putNumber d 3 [(0, .ref v0), (1, .int v1), (2, .int v2)] [] M (jQb cU b) := by
  intro n
  induction n with
  | zero => intro v0 v1 v2 M b h; exact nomatch (show (none : jO Unit) = some b from h)
  | succ n ih => intro v0 v1 v2 M b h; exact tb_X8_putNumber_3 hd_  ih h
def f_X8_putNumber (v0 : Nat) (v1 : Int32) (M : jM) : jO Unit :=
  l_X8_putNumber_3 jF0 v0 v1 (nI 24) M
theorem s_X8_putNumber {G : jG} {d : Nat} (hd_ : 0 ≤ d) {v0 : Nat} {v1 : Int32} {M : jM} {b : Unit × jM} (h : f_X8_putNumber  v0 v1 M = some b) : V G m_X8_putNumber d 0 [(0, .ref v0), (1, .int v1)] [] M (jQb cU b) := by
  unfold f_X8_putNumber at h
  refine v_bipush dX8_putNumber_0 bp_24 ?_
  refine v_istore_n (ls2 := [(2, .int (nI 24)), (0, .ref v0), (1, .int v1)]) dX8_putNumber_2 rfl (by decide) rfl ?_
  exact V.pick [1, 2, 0] rfl (t_X8_putNumber_3 hd_ _ _ _ _ _ _ h)
def f_X11_feed (v0 : Nat) (v1 : Int32) (v2 : Int32) (v3 : Int32) (v4 : Int32) (v5 : Int32) (M : jM) : jO Int32 :=
  (gR 10 M v0 4).bind fun r1 =>
  jb2 (jiv 7 M r1 (f_X8_length r1 M)) fun x3 M2 =>
  if (x3 + (nI 20)) ≤ (nI 800) then
    (gR 10 M2 v0 4).bind fun r4 =>
    jb2 (jiv 7 M2 r4 (f_X8_putNumber r4 v1 M2)) fun _ M5 =>
    (gR 10 M5 v0 4).bind fun r6 =>
    jb2 (jiv 7 M5 r6 (f_X8_putNumber r6 v2 M5)) fun _ M7 =>
    (gR 10 M7 v0 4).bind fun r8 =>
    jb2 (jiv 7 M7 r8 (f_X8_putNumber r8 v3 M7)) fun _ M9 =>
    (gR 10 M9 v0 4).bind fun r10 =>
    jb2 (jiv 7 M9 r10 (f_X8_putNumber r10 v4 M9)) fun _ M11 =>
    (gR 10 M11 v0 4).bind fun r12 =>
    jb2 (jiv 7 M11 r12 (f_X8_putNumber r12 v5 M11)) fun _ M13 =>
    (gR 10 M13 v0 4).bind fun r14 =>
    jb2 (jiv 7 M13 r14 (f_X8_length r14 M13)) fun x16 M15 =>
    rt x16 M15
  else
    rt (-4 : Int32) M2
theorem s_X11_feed {G : jG} {d : Nat} (hd_ : 1 ≤ d) {v0 : Nat} {v1 : Int32} {v2 : Int32} {v3 : Int32} {v4 : Int32} {v5 : Int32} {M : jM} {b : Int32 × jM} (h : f_X11_feed  v0 v1 v2 v3 v4 v5 M = some b) : V G m_X11_feed d 0 [(0, .ref v0), (1, .int v1), (2, .int v2), (3, .int v3), (4, .int v4), (5, .int v5)] [] M (jQb cI b) := by
  unfold f_X11_feed at h
  refine v_aload_n dX11_feed_0 rfl 0 rfl ?_
  refine x_gR dX11_feed_1 kf_X11_37 rfl h (fun r1 h => ?_)
  refine x_inv (cv := cI) (As := []) (rest := []) (ls2 := [(0, .ref r1)]) (ci := 7) (by omega) dX11_feed_4 ke_X8_length kv_X11_166 rfl rfl (by decide) (Nat.le_of_ble_eq_true rfl) rfl rfl rfl rfl h (fun _ hq => s_X8_length (by omega) hq) (fun x3 M2 h => ?_)
  refine v_bipush dX11_feed_7 bp_20 ?_
  refine v_iadd dX11_feed_9 ?_
  refine v_sipush dX11_feed_10 sp_800 ?_
  refine x_ic_le (tgt := 19) dX11_feed_13 (by decide) h (fun h => ?_) (fun h => ?_)
  · refine v_aload_n dX11_feed_19 rfl 0 rfl ?_
    refine x_gR dX11_feed_20 kf_X11_37 rfl h (fun r4 h => ?_)
    refine v_iload_n dX11_feed_23 rfl 1 rfl ?_
    refine x_inv (cv := cU) (As := [.int v1]) (rest := []) (ls2 := [(0, .ref r4), (1, .int v1)]) (ci := 7) (by omega) dX11_feed_24 ke_X8_putNumber kv_X11_169 rfl rfl (by decide) (Nat.le_of_ble_eq_true rfl) rfl rfl rfl rfl h (fun _ hq => s_X8_putNumber (by omega) hq) (fun _ M5 h => ?_)
    refine v_aload_n dX11_feed_27 rfl 0 rfl ?_
    refine x_gR dX11_feed_28 kf_X11_37 rfl h (fun r6 h => ?_)
    refine v_iload_n dX11_feed_31 rfl 2 rfl ?_
    refine x_inv (cv := cU) (As := [.int v2]) (rest := []) (ls2 := [(0, .ref r6), (1, .int v2)]) (ci := 7) (by omega) dX11_feed_32 ke_X8_putNumber kv_X11_169 rfl rfl (by decide) (Nat.le_of_ble_eq_true rfl) rfl rfl rfl rfl h (fun _ hq => s_X8_putNumber (by omega) hq) (fun _ M7 h => ?_)
    refine v_aload_n dX11_feed_35 rfl 0 rfl ?_
    refine x_gR dX11_feed_36 kf_X11_37 rfl h (fun r8 h => ?_)
    refine v_iload_n dX11_feed_39 rfl 3 rfl ?_
    refine x_inv (cv := cU) (As := [.int v3]) (rest := []) (ls2 := [(0, .ref r8), (1, .int v3)]) (ci := 7) (by omega) dX11_feed_40 ke_X8_putNumber kv_X11_169 rfl rfl (by decide) (Nat.le_of_ble_eq_true rfl) rfl rfl rfl rfl h (fun _ hq => s_X8_putNumber (by omega) hq) (fun _ M9 h => ?_)
    refine v_aload_n dX11_feed_43 rfl 0 rfl ?_
    refine x_gR dX11_feed_44 kf_X11_37 rfl h (fun r10 h => ?_)
    refine v_iload dX11_feed_47 4 rfl ?_
    refine x_inv (cv := cU) (As := [.int v4]) (rest := []) (ls2 := [(0, .ref r10), (1, .int v4)]) (ci := 7) (by omega) dX11_feed_49 ke_X8_putNumber kv_X11_169 rfl rfl (by decide) (Nat.le_of_ble_eq_true rfl) rfl rfl rfl rfl h (fun _ hq => s_X8_putNumber (by omega) hq) (fun _ M11 h => ?_)
    refine v_aload_n dX11_feed_52 rfl 0 rfl ?_
    refine x_gR dX11_feed_53 kf_X11_37 rfl h (fun r12 h => ?_)
    refine v_iload dX11_feed_56 5 rfl ?_
    refine x_inv (cv := cU) (As := [.int v5]) (rest := []) (ls2 := [(0, .ref r12), (1, .int v5)]) (ci := 7) (by omega) dX11_feed_58 ke_X8_putNumber kv_X11_169 rfl rfl (by decide) (Nat.le_of_ble_eq_true rfl) rfl rfl rfl rfl h (fun _ hq => s_X8_putNumber (by omega) hq) (fun _ M13 h => ?_)
    refine v_aload_n dX11_feed_61 rfl 0 rfl ?_
    refine x_gR dX11_feed_62 kf_X11_37 rfl h (fun r14 h => ?_)
    refine x_inv (cv := cI) (As := []) (rest := []) (ls2 := [(0, .ref r14)]) (ci := 7) (by omega) dX11_feed_65 ke_X8_length kv_X11_166 rfl rfl (by decide) (Nat.le_of_ble_eq_true rfl) rfl rfl rfl rfl h (fun _ hq => s_X8_length (by omega) hq) (fun x16 M15 h => ?_)
    exact x_iret dX11_feed_68 rfl h
  · refine v_bipush dX11_feed_16 bp_m4 ?_
    exact x_iret dX11_feed_18 rfl h
def j_X3_lookAt_86 (k2 : Nat → Nat → Int32 → Int32 → jM → jO Unit) (v0 : Nat) (v1 : Nat) (v2 : Int32) (v3 : Int32) (M : jM) : jO Unit :=
  k2 v0 v1 v2 (v3 + (nI 1)) M
theorem t_X3_lookAt_86 {G : jG} {d : Nat} (hd_ : 2 ≤ d) {k2 : Nat → Nat → Int32 → Int32 → jM → jO Unit} (hk2 : ∀ (w0 : Nat) (w1 : Nat) (w2 : Int32) (w3 : Int32) (M : jM) (b : Unit × jM), k2 w0 w1 w2 w3 M = some b → V G m_X3_lookAt d 2 [(0, .ref w0), (1, .ref w1), (2, .int w2), (3, .int w3)] [] M (jQb cU b)) {v0 : Nat} {v1 : Nat} {v2 : Int32} {v3 : Int32} {M : jM} {b : Unit × jM} (h : j_X3_lookAt_86 k2 v0 v1 v2 v3 M = some b) : V G m_X3_lookAt d 86 [(0, .ref v0), (1, .ref v1), (2, .int v2), (3, .int v3)] [] M (jQb cU b) := by
  unfold j_X3_lookAt_86 at h
  refine v_iincC (ls2 := [(3, .int (v3 + (nI 1))), (0, .ref v0), (1, .ref v1), (2, .int v2)]) dX3_lookAt_86 ic_1 3 rfl (by decide) rfl ?_
  refine v_goto (tgt := 2) dX3_lookAt_89 (by decide) ?_
  exact V.pick [1, 2, 3, 0] rfl (hk2 _ _ _ _ _ _ h)
def b_X3_lookAt_43 (k2 : Nat → Nat → Int32 → Int32 → jM → jO Unit) (k43 : Nat → Nat → Int32 → Int32 → Int32 → Int32 → jM → jO Unit) (v0 : Nat) (v1 : Nat) (v2 : Int32) (v3 : Int32) (v4 : Int32) (v5 : Int32) (M : jM) : jO Unit :=
  if (nI 6) ≤ v5 then
    j_X3_lookAt_86 k2 v0 v1 v2 v3 M
  else
    (gR 3 M v0 3).bind fun r1 =>
    (ln M r1).bind fun x2 =>
    if x2 ≤ (v4 + v5) then
      j_X3_lookAt_86 k2 v0 v1 v2 v3 M
    else
      (gR 3 M v0 3).bind fun r3 =>
      jb2 (jiv 8 M v1 (f_X9_bond v1 v3 v5 M)) fun x5 M4 =>
      (stI M4 r3 (v4 + v5) x5).bind fun M6 =>
      k43 v0 v1 v2 v3 v4 (v5 + (nI 1)) M6
def l_X3_lookAt_43 (k2 : Nat → Nat → Int32 → Int32 → jM → jO Unit) : Nat → Nat → Nat → Int32 → Int32 → Int32 → Int32 → jM → jO Unit
  | 0 => fun _ _ _ _ _ _ _ => none
  | n + 1 => b_X3_lookAt_43 k2 (l_X3_lookAt_43 k2 n)
theorem tb_X3_lookAt_43 {G : jG} {d : Nat} (hd_ : 2 ≤ d) {k2 : Nat → Nat → Int32 → Int32 → jM → jO Unit} (hk2 : ∀ (w0 : Nat) (w1 : Nat) (w2 : Int32) (w3 : Int32) (M : jM) (b : Unit × jM), k2 w0 w1 w2 w3 M = some b → V G m_X3_lookAt d 2 [(0, .ref w0), (1, .ref w1), (2, .int w2), (3, .int w3)] [] M (jQb cU b)) {k43 : Nat → Nat → Int32 → Int32 → Int32 → Int32 → jM → jO Unit} (hk43 : ∀ (w0 : Nat) (w1 : Nat) (w2 : Int32) (w3 : Int32) (w4 : Int32) (w5 : Int32) (M : jM) (b : Unit × jM), k43 w0 w1 w2 w3 w4 w5 M = some b → V G m_X3_lookAt d 43 [(0, .ref w0), (1, .ref w1), (2, .int w2), (3, .int w3), (4, .int w4), (5, .int w5)] [] M (jQb cU b)) {v0 : Nat} {v1 : Nat} {v2 : Int32} {v3 : Int32} {v4 : Int32} {v5 : Int32} {M : jM} {b : Unit × jM} (h : b_X3_lookAt_43 k2 k43 v0 v1 v2 v3 v4 v5 M = some b) : V G m_X3_lookAt d 43 [(0, .ref v0), (1, .ref v1), (2, .int v2), (3, .int v3), (4, .int v4), (5, .int v5)] [] M (jQb cU b) := by
  unfold b_X3_lookAt_43 at h
  refine v_iload dX3_lookAt_43 5 rfl ?_
  refine v_bipush dX3_lookAt_45 bp_6 ?_
  refine x_ic_ge (tgt := 86) dX3_lookAt_47 (by decide) h (fun h => ?_) (fun h => ?_)
  · exact V.pick [0, 1, 2, 3] rfl (t_X3_lookAt_86 hd_ hk2 h)
  · refine v_iload dX3_lookAt_50 4 rfl ?_
    refine v_iload dX3_lookAt_52 5 rfl ?_
    refine v_iadd dX3_lookAt_54 ?_
    refine v_aload_n dX3_lookAt_55 rfl 0 rfl ?_
    refine x_gR dX3_lookAt_56 kf_X3_25 rfl h (fun r1 h => ?_)
    refine x_ln dX3_lookAt_59 h (fun x2 h => ?_)
    refine x_ic_ge (tgt := 86) dX3_lookAt_60 (by decide) h (fun h => ?_) (fun h => ?_)
    · exact V.pick [0, 1, 2, 3] rfl (t_X3_lookAt_86 hd_ hk2 h)
    · refine v_aload_n dX3_lookAt_63 rfl 0 rfl ?_
      refine x_gR dX3_lookAt_64 kf_X3_25 rfl h (fun r3 h => ?_)
      refine v_iload dX3_lookAt_67 4 rfl ?_
      refine v_iload dX3_lookAt_69 5 rfl ?_
      refine v_iadd dX3_lookAt_71 ?_
      refine v_aload_n dX3_lookAt_72 rfl 1 rfl ?_
      refine v_iload_n dX3_lookAt_73 rfl 3 rfl ?_
      refine v_iload dX3_lookAt_74 5 rfl ?_
      refine x_inv (cv := cI) (As := [.int v3, .int v5]) (rest := [.int (v4 + v5), .ref r3]) (ls2 := [(0, .ref v1), (1, .int v3), (2, .int v5)]) (ci := 8) (by omega) dX3_lookAt_76 ke_X9_bond kv_X3_49 rfl rfl (by decide) (Nat.le_of_ble_eq_true rfl) rfl rfl rfl rfl h (fun _ hq => s_X9_bond (by omega) hq) (fun x5 M4 h => ?_)
      refine x_stI dX3_lookAt_79 h (fun M6 h => ?_)
      refine v_iincC (ls2 := [(5, .int (v5 + (nI 1))), (0, .ref v0), (1, .ref v1), (2, .int v2), (3, .int v3), (4, .int v4)]) dX3_lookAt_80 ic_1 5 rfl (by decide) rfl ?_
      refine v_goto (tgt := 43) dX3_lookAt_83 (by decide) ?_
      exact V.pick [1, 2, 3, 4, 5, 0] rfl (hk43 _ _ _ _ _ _ _ _ h)
theorem t_X3_lookAt_43 {G : jG} {d : Nat} (hd_ : 2 ≤ d) {k2 : Nat → Nat → Int32 → Int32 → jM → jO Unit} (hk2 : ∀ (w0 : Nat) (w1 : Nat) (w2 : Int32) (w3 : Int32) (M : jM) (b : Unit × jM), k2 w0 w1 w2 w3 M = some b → V G m_X3_lookAt d 2 [(0, .ref w0), (1, .ref w1), (2, .int w2), (3, .int w3)] [] M (jQb cU b)) : ∀ (n : Nat) (v0 : Nat) (v1 : Nat) (v2 : Int32) (v3 : Int32) (v4 : Int32) (v5 : Int32) (M : jM) (b : Unit × jM), l_X3_lookAt_43 k2 n v0 v1 v2 v3 v4 v5 M = some b → V G m_X3_lookAt d 43 [(0, .ref v0), (1, .ref v1), (2, .int v2), (3, .int v3), (4, .int v4), (5, .int v5)] [] M (jQb cU b) := by
  intro n
  induction n with
  | zero => intro v0 v1 v2 v3 v4 v5 M b h; exact nomatch (show (none : jO Unit) = some b from h)
  | succ n ih => intro v0 v1 v2 v3 v4 v5 M b h; exact tb_X3_lookAt_43 hd_ hk2 ih h
def b_X3_lookAt_2  (k2 : Nat → Nat → Int32 → Int32 → jM → jO Unit) (v0 : Nat) (v1 : Nat) (v2 : Int32) (v3 : Int32) (M : jM) : jO Unit :=
  if (nI 6) ≤ v3 then
    rt () M
  else
    (gR 3 M v0 2).bind fun r1 =>
    (ln M r1).bind fun x2 =>
    if x2 ≤ (v2 + v3) then
      rt () M
    else
      (gR 3 M v0 2).bind fun r3 =>
      jb2 (jiv 8 M v1 (f_X9_looks v1 v3 M)) fun x5 M4 =>
      (stI M4 r3 (v2 + v3) x5).bind fun M6 =>
      (jv ((v2 + v3) * (nI 6))).bind fun y7 =>
      l_X3_lookAt_43 k2 jF0 v0 v1 v2 v3 y7 (nI 0) M6
def l_X3_lookAt_2  : Nat → Nat → Nat → Int32 → Int32 → jM → jO Unit
  | 0 => fun _ _ _ _ _ => none
  | n + 1 => b_X3_lookAt_2  (l_X3_lookAt_2  n)
theorem tb_X3_lookAt_2 {G : jG} {d : Nat} (hd_ : 2 ≤ d)  {k2 : Nat → Nat → Int32 → Int32 → jM → jO Unit} (hk2 : ∀ (w0 : Nat) (w1 : Nat) (w2 : Int32) (w3 : Int32) (M : jM) (b : Unit × jM), k2 w0 w1 w2 w3 M = some b → V G m_X3_lookAt d 2 [(0, .ref w0), (1, .ref w1), (2, .int w2), (3, .int w3)] [] M (jQb cU b)) {v0 : Nat} {v1 : Nat} {v2 : Int32} {v3 : Int32} {M : jM} {b : Unit × jM} (h : b_X3_lookAt_2  k2 v0 v1 v2 v3 M = some b) : V G m_X3_lookAt d 2 [(0, .ref v0), (1, .ref v1), (2, .int v2), (3, .int v3)] [] M (jQb cU b) := by
  unfold b_X3_lookAt_2 at h
  refine v_iload_n dX3_lookAt_2 rfl 3 rfl ?_
  refine v_bipush dX3_lookAt_3 bp_6 ?_
  refine x_ic_ge (tgt := 92) dX3_lookAt_5 (by decide) h (fun h => ?_) (fun h => ?_)
  · exact x_vret dX3_lookAt_92 rfl h
  · refine v_iload_n dX3_lookAt_8 rfl 2 rfl ?_
    refine v_iload_n dX3_lookAt_9 rfl 3 rfl ?_
    refine v_iadd dX3_lookAt_10 ?_
    refine v_aload_n dX3_lookAt_11 rfl 0 rfl ?_
    refine x_gR dX3_lookAt_12 kf_X3_21 rfl h (fun r1 h => ?_)
    refine x_ln dX3_lookAt_15 h (fun x2 h => ?_)
    refine x_ic_ge (tgt := 92) dX3_lookAt_16 (by decide) h (fun h => ?_) (fun h => ?_)
    · exact x_vret dX3_lookAt_92 rfl h
    · refine v_aload_n dX3_lookAt_19 rfl 0 rfl ?_
      refine x_gR dX3_lookAt_20 kf_X3_21 rfl h (fun r3 h => ?_)
      refine v_iload_n dX3_lookAt_23 rfl 2 rfl ?_
      refine v_iload_n dX3_lookAt_24 rfl 3 rfl ?_
      refine v_iadd dX3_lookAt_25 ?_
      refine v_aload_n dX3_lookAt_26 rfl 1 rfl ?_
      refine v_iload_n dX3_lookAt_27 rfl 3 rfl ?_
      refine x_inv (cv := cI) (As := [.int v3]) (rest := [.int (v2 + v3), .ref r3]) (ls2 := [(0, .ref v1), (1, .int v3)]) (ci := 8) (by omega) dX3_lookAt_28 ke_X9_looks kv_X3_46 rfl rfl (by decide) (Nat.le_of_ble_eq_true rfl) rfl rfl rfl rfl h (fun _ hq => s_X9_looks (by omega) hq) (fun x5 M4 h => ?_)
      refine x_stI dX3_lookAt_31 h (fun M6 h => ?_)
      refine v_iload_n dX3_lookAt_32 rfl 2 rfl ?_
      refine v_iload_n dX3_lookAt_33 rfl 3 rfl ?_
      refine v_iadd dX3_lookAt_34 ?_
      refine v_bipush dX3_lookAt_35 bp_6 ?_
      refine v_imul dX3_lookAt_37 ?_
      refine x_jvI h (fun y7 h => ?_)
      refine v_istore (ls2 := [(4, .int y7), (0, .ref v0), (1, .ref v1), (2, .int v2), (3, .int v3)]) dX3_lookAt_38 (by decide) rfl ?_
      refine v_iconst dX3_lookAt_40 ic_0 ?_
      refine v_istore (ls2 := [(5, .int (nI 0)), (4, .int y7), (0, .ref v0), (1, .ref v1), (2, .int v2), (3, .int v3)]) dX3_lookAt_41 (by decide) rfl ?_
      exact V.pick [2, 3, 4, 5, 1, 0] rfl (t_X3_lookAt_43 hd_ hk2 _ _ _ _ _ _ _ _ _ h)
theorem t_X3_lookAt_2 {G : jG} {d : Nat} (hd_ : 2 ≤ d)  : ∀ (n : Nat) (v0 : Nat) (v1 : Nat) (v2 : Int32) (v3 : Int32) (M : jM) (b : Unit × jM), l_X3_lookAt_2  n v0 v1 v2 v3 M = some b → V G m_X3_lookAt d 2 [(0, .ref v0), (1, .ref v1), (2, .int v2), (3, .int v3)] [] M (jQb cU b) := by
  intro n
  induction n with
  | zero => intro v0 v1 v2 v3 M b h; exact nomatch (show (none : jO Unit) = some b from h)
  | succ n ih => intro v0 v1 v2 v3 M b h; exact tb_X3_lookAt_2 hd_  ih h
def f_X3_lookAt (v0 : Nat) (v1 : Nat) (v2 : Int32) (M : jM) : jO Unit :=
  l_X3_lookAt_2 jF0 v0 v1 v2 (nI 0) M
theorem s_X3_lookAt {G : jG} {d : Nat} (hd_ : 2 ≤ d) {v0 : Nat} {v1 : Nat} {v2 : Int32} {M : jM} {b : Unit × jM} (h : f_X3_lookAt  v0 v1 v2 M = some b) : V G m_X3_lookAt d 0 [(0, .ref v0), (1, .ref v1), (2, .int v2)] [] M (jQb cU b) := by
  unfold f_X3_lookAt at h
  refine v_iconst dX3_lookAt_0 ic_0 ?_
  refine v_istore_n (ls2 := [(3, .int (nI 0)), (0, .ref v0), (1, .ref v1), (2, .int v2)]) dX3_lookAt_1 rfl (by decide) rfl ?_
  exact V.pick [1, 2, 3, 0] rfl (t_X3_lookAt_2 hd_ _ _ _ _ _ _ _ h)
def b_X9_become_10  (k10 : Nat → Nat → Int32 → jM → jO Unit) (v0 : Nat) (v1 : Nat) (v2 : Int32) (M : jM) : jO Unit :=
  if (nI 6) ≤ v2 then
    rt () M
  else
    (gR 8 M v0 1).bind fun r1 =>
    (gR 8 M v1 1).bind fun r2 =>
    (ldI M r2 v2).bind fun x3 =>
    (stI M r1 v2 x3).bind fun M4 =>
    (gR 8 M4 v0 2).bind fun r5 =>
    (gR 8 M4 v1 2).bind fun r6 =>
    (ldI M4 r6 v2).bind fun x7 =>
    (stI M4 r5 v2 x7).bind fun M8 =>
    k10 v0 v1 (v2 + (nI 1)) M8
def l_X9_become_10  : Nat → Nat → Nat → Int32 → jM → jO Unit
  | 0 => fun _ _ _ _ => none
  | n + 1 => b_X9_become_10  (l_X9_become_10  n)
theorem tb_X9_become_10 {G : jG} {d : Nat} (hd_ : 0 ≤ d)  {k10 : Nat → Nat → Int32 → jM → jO Unit} (hk10 : ∀ (w0 : Nat) (w1 : Nat) (w2 : Int32) (M : jM) (b : Unit × jM), k10 w0 w1 w2 M = some b → V G m_X9_become d 10 [(0, .ref w0), (1, .ref w1), (2, .int w2)] [] M (jQb cU b)) {v0 : Nat} {v1 : Nat} {v2 : Int32} {M : jM} {b : Unit × jM} (h : b_X9_become_10  k10 v0 v1 v2 M = some b) : V G m_X9_become d 10 [(0, .ref v0), (1, .ref v1), (2, .int v2)] [] M (jQb cU b) := by
  unfold b_X9_become_10 at h
  refine v_iload_n dX9_become_10 rfl 2 rfl ?_
  refine v_bipush dX9_become_11 bp_6 ?_
  refine x_ic_ge (tgt := 46) dX9_become_13 (by decide) h (fun h => ?_) (fun h => ?_)
  · exact x_vret dX9_become_46 rfl h
  · refine v_aload_n dX9_become_16 rfl 0 rfl ?_
    refine x_gR dX9_become_17 kf_X9_15 rfl h (fun r1 h => ?_)
    refine v_iload_n dX9_become_20 rfl 2 rfl ?_
    refine v_aload_n dX9_become_21 rfl 1 rfl ?_
    refine x_gR dX9_become_22 kf_X9_15 rfl h (fun r2 h => ?_)
    refine v_iload_n dX9_become_25 rfl 2 rfl ?_
    refine x_ldI dX9_become_26 h (fun x3 h => ?_)
    refine x_stI dX9_become_27 h (fun M4 h => ?_)
    refine v_aload_n dX9_become_28 rfl 0 rfl ?_
    refine x_gR dX9_become_29 kf_X9_19 rfl h (fun r5 h => ?_)
    refine v_iload_n dX9_become_32 rfl 2 rfl ?_
    refine v_aload_n dX9_become_33 rfl 1 rfl ?_
    refine x_gR dX9_become_34 kf_X9_19 rfl h (fun r6 h => ?_)
    refine v_iload_n dX9_become_37 rfl 2 rfl ?_
    refine x_ldI dX9_become_38 h (fun x7 h => ?_)
    refine x_stI dX9_become_39 h (fun M8 h => ?_)
    refine v_iincC (ls2 := [(2, .int (v2 + (nI 1))), (0, .ref v0), (1, .ref v1)]) dX9_become_40 ic_1 2 rfl (by decide) rfl ?_
    refine v_goto (tgt := 10) dX9_become_43 (by decide) ?_
    exact V.pick [1, 2, 0] rfl (hk10 _ _ _ _ _ h)
theorem t_X9_become_10 {G : jG} {d : Nat} (hd_ : 0 ≤ d)  : ∀ (n : Nat) (v0 : Nat) (v1 : Nat) (v2 : Int32) (M : jM) (b : Unit × jM), l_X9_become_10  n v0 v1 v2 M = some b → V G m_X9_become d 10 [(0, .ref v0), (1, .ref v1), (2, .int v2)] [] M (jQb cU b) := by
  intro n
  induction n with
  | zero => intro v0 v1 v2 M b h; exact nomatch (show (none : jO Unit) = some b from h)
  | succ n ih => intro v0 v1 v2 M b h; exact tb_X9_become_10 hd_  ih h
def f_X9_become (v0 : Nat) (v1 : Nat) (M : jM) : jO Unit :=
  (gI 8 M v1 0).bind fun x1 =>
  (pI 8 M v0 0 x1).bind fun M2 =>
  l_X9_become_10 jF0 v0 v1 (nI 0) M2
theorem s_X9_become {G : jG} {d : Nat} (hd_ : 0 ≤ d) {v0 : Nat} {v1 : Nat} {M : jM} {b : Unit × jM} (h : f_X9_become  v0 v1 M = some b) : V G m_X9_become d 0 [(0, .ref v0), (1, .ref v1)] [] M (jQb cU b) := by
  unfold f_X9_become at h
  refine v_aload_n dX9_become_0 rfl 0 rfl ?_
  refine v_aload_n dX9_become_1 rfl 1 rfl ?_
  refine x_gI dX9_become_2 kf_X9_9 rfl h (fun x1 h => ?_)
  refine x_pI dX9_become_5 kf_X9_9 rfl (fun q => Bool.noConfusion q) h (fun M2 h => ?_)
  refine v_iconst dX9_become_8 ic_0 ?_
  refine v_istore_n (ls2 := [(2, .int (nI 0)), (0, .ref v0), (1, .ref v1)]) dX9_become_9 rfl (by decide) rfl ?_
  exact V.pick [1, 2, 0] rfl (t_X9_become_10 hd_ _ _ _ _ _ _ h)
def f_X3_begin (v0 : Nat) (v1 : Nat) (v2 : Nat) (M : jM) : jO Unit :=
  (gR 3 M v0 0).bind fun r1 =>
  jb2 (jiv 8 M r1 (f_X9_become r1 v1 M)) fun _ M2 =>
  (gR 3 M2 v0 1).bind fun r3 =>
  jb2 (jiv 8 M2 r3 (f_X9_become r3 v2 M2)) fun _ M4 =>
  (pI 3 M4 v0 5 (nI 0)).bind fun M5 =>
  (gR 3 M5 v0 0).bind fun r6 =>
  jb2 (jiv 3 M5 v0 (f_X3_lookAt v0 r6 (nI 0) M5)) fun _ M7 =>
  (gR 3 M7 v0 1).bind fun r8 =>
  jb2 (jiv 3 M7 v0 (f_X3_lookAt v0 r8 (nI 6) M7)) fun _ M9 =>
  rt () M9
theorem s_X3_begin {G : jG} {d : Nat} (hd_ : 3 ≤ d) {v0 : Nat} {v1 : Nat} {v2 : Nat} {M : jM} {b : Unit × jM} (h : f_X3_begin  v0 v1 v2 M = some b) : V G m_X3_begin d 0 [(0, .ref v0), (1, .ref v1), (2, .ref v2)] [] M (jQb cU b) := by
  unfold f_X3_begin at h
  refine v_aload_n dX3_begin_0 rfl 0 rfl ?_
  refine x_gR dX3_begin_1 kf_X3_12 rfl h (fun r1 h => ?_)
  refine v_aload_n dX3_begin_4 rfl 1 rfl ?_
  refine x_inv (cv := cU) (As := [.ref v1]) (rest := []) (ls2 := [(0, .ref r1), (1, .ref v1)]) (ci := 8) (by omega) dX3_begin_5 ke_X9_become kv_X3_38 rfl rfl (by decide) (Nat.le_of_ble_eq_true rfl) rfl rfl rfl rfl h (fun _ hq => s_X9_become (by omega) hq) (fun _ M2 h => ?_)
  refine v_aload_n dX3_begin_8 rfl 0 rfl ?_
  refine x_gR dX3_begin_9 kf_X3_18 rfl h (fun r3 h => ?_)
  refine v_aload_n dX3_begin_12 rfl 2 rfl ?_
  refine x_inv (cv := cU) (As := [.ref v2]) (rest := []) (ls2 := [(0, .ref r3), (1, .ref v2)]) (ci := 8) (by omega) dX3_begin_13 ke_X9_become kv_X3_38 rfl rfl (by decide) (Nat.le_of_ble_eq_true rfl) rfl rfl rfl rfl h (fun _ hq => s_X9_become (by omega) hq) (fun _ M4 h => ?_)
  refine v_aload_n dX3_begin_16 rfl 0 rfl ?_
  refine v_iconst dX3_begin_17 ic_0 ?_
  refine x_pI dX3_begin_18 kf_X3_31 rfl (fun q => Bool.noConfusion q) h (fun M5 h => ?_)
  refine v_aload_n dX3_begin_21 rfl 0 rfl ?_
  refine v_aload_n dX3_begin_22 rfl 0 rfl ?_
  refine x_gR dX3_begin_23 kf_X3_12 rfl h (fun r6 h => ?_)
  refine v_iconst dX3_begin_26 ic_0 ?_
  refine x_inv (cv := cU) (As := [.ref r6, .int (nI 0)]) (rest := []) (ls2 := [(0, .ref v0), (1, .ref r6), (2, .int (nI 0))]) (ci := 3) (by omega) dX3_begin_27 ke_X3_lookAt kv_X3_42 rfl rfl (by decide) (Nat.le_of_ble_eq_true rfl) rfl rfl rfl rfl h (fun _ hq => s_X3_lookAt (by omega) hq) (fun _ M7 h => ?_)
  refine v_aload_n dX3_begin_30 rfl 0 rfl ?_
  refine v_aload_n dX3_begin_31 rfl 0 rfl ?_
  refine x_gR dX3_begin_32 kf_X3_18 rfl h (fun r8 h => ?_)
  refine v_bipush dX3_begin_35 bp_6 ?_
  refine x_inv (cv := cU) (As := [.ref r8, .int (nI 6)]) (rest := []) (ls2 := [(0, .ref v0), (1, .ref r8), (2, .int (nI 6))]) (ci := 3) (by omega) dX3_begin_37 ke_X3_lookAt kv_X3_42 rfl rfl (by decide) (Nat.le_of_ble_eq_true rfl) rfl rfl rfl rfl h (fun _ hq => s_X3_lookAt (by omega) hq) (fun _ M9 h => ?_)
  exact x_vret dX3_begin_40 rfl h
def f_X11_game (v0 : Nat) (v1 : Int32) (v2 : Int32) (v3 : Int32) (M : jM) : jO Int32 :=
  jb2 (jiv 10 M v0 (f_X11_worldOf v0 v1 M)) fun o2 M1 =>
  jb2 (jiv 10 M1 v0 (f_X11_worldOf v0 v2 M1)) fun o4 M3 =>
  jnl o2 (
    rt (-1 : Int32) M3
    ) fun a5 =>
    jnl o4 (
      rt (-1 : Int32) M3
      ) fun a6 =>
      if v3 < 0 then
        rt (-2 : Int32) M3
      else
        if v3 ≤ (nI 3) then
          (gR 10 M3 v0 2).bind fun r7 =>
          jb2 (jiv 3 M3 r7 (f_X3_begin r7 a5 a6 M3)) fun _ M8 =>
          (gR 10 M8 v0 2).bind fun r9 =>
          jb2 (jiv 3 M8 r9 (f_X3_keeperWins jR0 r9 v3 M8)) fun x11 M10 =>
          if x11 = 0 then
            rt (nI 0) M10
          else
            rt (nI 1) M10
        else
          rt (-2 : Int32) M3
theorem s_X11_game {G : jG} {d : Nat} (hd_ : 123 ≤ d) {v0 : Nat} {v1 : Int32} {v2 : Int32} {v3 : Int32} {M : jM} {b : Int32 × jM} (h : f_X11_game  v0 v1 v2 v3 M = some b) : V G m_X11_game d 0 [(0, .ref v0), (1, .int v1), (2, .int v2), (3, .int v3)] [] M (jQb cI b) := by
  unfold f_X11_game at h
  refine v_aload_n dX11_game_0 rfl 0 rfl ?_
  refine v_iload_n dX11_game_1 rfl 1 rfl ?_
  refine x_inv (cv := cN) (As := [.int v1]) (rest := []) (ls2 := [(0, .ref v0), (1, .int v1)]) (ci := 10) (by omega) dX11_game_2 ke_X11_worldOf kv_X11_94 rfl rfl (by decide) (Nat.le_of_ble_eq_true rfl) rfl rfl rfl rfl h (fun _ hq => s_X11_worldOf (by omega) hq) (fun o2 M1 h => ?_)
  refine v_astoreQ (ls2 := [(4, va_rf o2), (0, .ref v0), (1, .int v1), (2, .int v2), (3, .int v3)]) dX11_game_5 (by decide) rfl ?_
  refine v_aload_n dX11_game_7 rfl 1 rfl ?_
  refine v_iload_n dX11_game_8 rfl 3 rfl ?_
  refine x_inv (cv := cN) (As := [.int v2]) (rest := []) (ls2 := [(0, .ref v0), (1, .int v2)]) (ci := 10) (by omega) dX11_game_9 ke_X11_worldOf kv_X11_94 rfl rfl (by decide) (Nat.le_of_ble_eq_true rfl) rfl rfl rfl rfl h (fun _ hq => s_X11_worldOf (by omega) hq) (fun o4 M3 h => ?_)
  refine v_astoreQ (ls2 := [(5, va_rf o4), (4, va_rf o2), (0, .ref v0), (1, .int v1), (2, .int v2), (3, .int v3)]) dX11_game_12 (by decide) (by simp [jst, jcatQ]) ?_
  refine v_aloadQ dX11_game_14 1 rfl ?_
  cases o2 with
  | none =>
    replace h := x_nN h
    refine v_ifnullN (tgt := 24) dX11_game_16 (by decide) ?_
    refine v_iconst dX11_game_24 ic_m1 ?_
    exact x_iret dX11_game_25 rfl h
  | some a5 =>
    replace h := x_nS h
    refine v_ifnull dX11_game_16 ?_
    refine v_aloadQ dX11_game_19 0 rfl ?_
    cases o4 with
    | none =>
      replace h := x_nN h
      refine v_ifnonnullN dX11_game_21 ?_
      refine v_iconst dX11_game_24 ic_m1 ?_
      exact x_iret dX11_game_25 rfl h
    | some a6 =>
      replace h := x_nS h
      refine v_ifnonnull (tgt := 26) dX11_game_21 (by decide) ?_
      refine v_iload_n dX11_game_26 rfl 5 rfl ?_
      refine x_if_lt (tgt := 35) dX11_game_27 (by decide) h (fun h => ?_) (fun h => ?_)
      · refine v_bipush dX11_game_35 bp_m2 ?_
        exact x_iret dX11_game_37 rfl h
      · refine v_iload_n dX11_game_30 rfl 5 rfl ?_
        refine v_iconst dX11_game_31 ic_3 ?_
        refine x_ic_le (tgt := 38) dX11_game_32 (by decide) h (fun h => ?_) (fun h => ?_)
        · refine v_aload_n dX11_game_38 rfl 2 rfl ?_
          refine x_gR dX11_game_39 kf_X11_23 rfl h (fun r7 h => ?_)
          refine v_aload dX11_game_42 1 rfl ?_
          refine v_aload dX11_game_44 0 rfl ?_
          refine x_inv (cv := cU) (As := [.ref a5, .ref a6]) (rest := []) (ls2 := [(0, .ref r7), (1, .ref a5), (2, .ref a6)]) (ci := 3) (by omega) dX11_game_46 ke_X3_begin kv_X11_137 rfl rfl (by decide) (Nat.le_of_ble_eq_true rfl) rfl rfl rfl rfl h (fun _ hq => s_X3_begin (by omega) hq) (fun _ M8 h => ?_)
          refine v_aload_n dX11_game_49 rfl 2 rfl ?_
          refine x_gR dX11_game_50 kf_X11_23 rfl h (fun r9 h => ?_)
          refine v_iload_n dX11_game_53 rfl 5 rfl ?_
          refine x_invN (cv := cI) (As := [.int v3]) (rest := []) (ls2 := [(0, .ref r9), (1, .int v3)]) (ci := 3) (by omega) dX11_game_54 ke_X3_keeperWins kv_X11_141 rfl rfl (by decide) (Nat.le_of_ble_eq_true rfl) rfl rfl rfl rfl h (fun _ hq => s_X3_keeperWins _ _ (by have := jR0_eq; omega) _ _ _ _ hq) (fun x11 M10 h => ?_)
          refine x_if_eq (tgt := 64) dX11_game_57 (by decide) h (fun h => ?_) (fun h => ?_)
          · refine v_iconst dX11_game_64 ic_0 ?_
            exact x_iret dX11_game_65 rfl h
          · refine v_iconst dX11_game_60 ic_1 ?_
            refine v_goto (tgt := 65) dX11_game_61 (by decide) ?_
            exact x_iret dX11_game_65 rfl h
        · refine v_bipush dX11_game_35 bp_m2 ?_
          exact x_iret dX11_game_37 rfl h
