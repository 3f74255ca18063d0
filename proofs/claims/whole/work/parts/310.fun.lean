def f_X12_openFormula (v0 : Nat) (M : jM) : jO Unit :=
  (gR 11 M v0 30).bind fun r1 =>
  (gI 11 M v0 29).bind fun x2 =>
  (stI M r1 x2 (nI 0)).bind fun M3 =>
  (gR 11 M3 v0 31).bind fun r4 =>
  (gI 11 M3 v0 29).bind fun x5 =>
  (gI 11 M3 v0 23).bind fun x6 =>
  (stI M3 r4 x5 x6).bind fun M7 =>
  (gR 11 M7 v0 32).bind fun r8 =>
  (gI 11 M7 v0 29).bind fun x9 =>
  (stI M7 r8 x9 (nI 0)).bind fun M10 =>
  (gI 11 M10 v0 29).bind fun x11 =>
  (pI 11 M10 v0 29 (x11 + (nI 1))).bind fun M12 =>
  rt () M12
theorem s_X12_openFormula {G : jG} {d : Nat} (hd_ : 0 ≤ d) {v0 : Nat} {M : jM} {b : Unit × jM} (h : f_X12_openFormula  v0 M = some b) : V G m_X12_openFormula d 0 [(0, .ref v0)] [] M (jQb cU b) := by
  unfold f_X12_openFormula at h
  refine v_aload_n dX12_openFormula_0 rfl 0 rfl ?_
  refine x_gR dX12_openFormula_1 kf_X12_65 rfl h (fun r1 h => ?_)
  refine v_aload_n dX12_openFormula_4 rfl 0 rfl ?_
  refine x_gI dX12_openFormula_5 kf_X12_240 rfl h (fun x2 h => ?_)
  refine v_iconst dX12_openFormula_8 ic_0 ?_
  refine x_stI dX12_openFormula_9 h (fun M3 h => ?_)
  refine v_aload_n dX12_openFormula_10 rfl 0 rfl ?_
  refine x_gR dX12_openFormula_11 kf_X12_68 rfl h (fun r4 h => ?_)
  refine v_aload_n dX12_openFormula_14 rfl 0 rfl ?_
  refine x_gI dX12_openFormula_15 kf_X12_240 rfl h (fun x5 h => ?_)
  refine v_aload_n dX12_openFormula_18 rfl 0 rfl ?_
  refine x_gI dX12_openFormula_19 kf_X12_234 rfl h (fun x6 h => ?_)
  refine x_stI dX12_openFormula_22 h (fun M7 h => ?_)
  refine v_aload_n dX12_openFormula_23 rfl 0 rfl ?_
  refine x_gR dX12_openFormula_24 kf_X12_71 rfl h (fun r8 h => ?_)
  refine v_aload_n dX12_openFormula_27 rfl 0 rfl ?_
  refine x_gI dX12_openFormula_28 kf_X12_240 rfl h (fun x9 h => ?_)
  refine v_iconst dX12_openFormula_31 ic_0 ?_
  refine x_stI dX12_openFormula_32 h (fun M10 h => ?_)
  refine v_aload_n dX12_openFormula_33 rfl 0 rfl ?_
  refine v_dup dX12_openFormula_34 rfl ?_
  refine x_gI dX12_openFormula_35 kf_X12_240 rfl h (fun x11 h => ?_)
  refine v_iconst dX12_openFormula_38 ic_1 ?_
  refine v_iadd dX12_openFormula_39 ?_
  refine x_pI dX12_openFormula_40 kf_X12_240 rfl (fun q => Bool.noConfusion q) h (fun M12 h => ?_)
  exact x_vret dX12_openFormula_43 rfl h
def f_X12_openNode (v0 : Nat) (v1 : Int32) (M : jM) : jO Unit :=
  (gR 11 M v0 30).bind fun r1 =>
  (gI 11 M v0 29).bind fun x2 =>
  (stI M r1 x2 v1).bind fun M3 =>
  (gI 11 M3 v0 29).bind fun x4 =>
  (pI 11 M3 v0 29 (x4 + (nI 1))).bind fun M5 =>
  (gI 11 M5 v0 33).bind fun x6 =>
  (pI 11 M5 v0 33 (x6 + (nI 1))).bind fun M7 =>
  rt () M7
theorem s_X12_openNode {G : jG} {d : Nat} (hd_ : 0 ≤ d) {v0 : Nat} {v1 : Int32} {M : jM} {b : Unit × jM} (h : f_X12_openNode  v0 v1 M = some b) : V G m_X12_openNode d 0 [(0, .ref v0), (1, .int v1)] [] M (jQb cU b) := by
  unfold f_X12_openNode at h
  refine v_aload_n dX12_openNode_0 rfl 0 rfl ?_
  refine x_gR dX12_openNode_1 kf_X12_65 rfl h (fun r1 h => ?_)
  refine v_aload_n dX12_openNode_4 rfl 0 rfl ?_
  refine x_gI dX12_openNode_5 kf_X12_240 rfl h (fun x2 h => ?_)
  refine v_iload_n dX12_openNode_8 rfl 1 rfl ?_
  refine x_stI dX12_openNode_9 h (fun M3 h => ?_)
  refine v_aload_n dX12_openNode_10 rfl 0 rfl ?_
  refine v_dup dX12_openNode_11 rfl ?_
  refine x_gI dX12_openNode_12 kf_X12_240 rfl h (fun x4 h => ?_)
  refine v_iconst dX12_openNode_15 ic_1 ?_
  refine v_iadd dX12_openNode_16 ?_
  refine x_pI dX12_openNode_17 kf_X12_240 rfl (fun q => Bool.noConfusion q) h (fun M5 h => ?_)
  refine v_aload_n dX12_openNode_20 rfl 0 rfl ?_
  refine v_dup dX12_openNode_21 rfl ?_
  refine x_gI dX12_openNode_22 kf_X12_243 rfl h (fun x6 h => ?_)
  refine v_iconst dX12_openNode_25 ic_1 ?_
  refine v_iadd dX12_openNode_26 ?_
  refine x_pI dX12_openNode_27 kf_X12_243 rfl (fun q => Bool.noConfusion q) h (fun M7 h => ?_)
  exact x_vret dX12_openNode_30 rfl h
def j_X12_quantifier_18  (v0 : Nat) (M : jM) : jO Unit :=
  (gI 11 M v0 36).bind fun x1 =>
  (pI 11 M v0 37 x1).bind fun M2 =>
  rt () M2
theorem t_X12_quantifier_18 {G : jG} {d : Nat} (hd_ : 1 ≤ d)  {v0 : Nat} {M : jM} {b : Unit × jM} (h : j_X12_quantifier_18  v0 M = some b) : V G m_X12_quantifier d 18 [(0, .ref v0)] [] M (jQb cU b) := by
  unfold j_X12_quantifier_18 at h
  refine v_aload_n dX12_quantifier_18 rfl 0 rfl ?_
  refine v_aload_n dX12_quantifier_19 rfl 0 rfl ?_
  refine x_gI dX12_quantifier_20 kf_X12_237 rfl h (fun x1 h => ?_)
  refine x_pI dX12_quantifier_23 kf_X12_256 rfl (fun q => Bool.noConfusion q) h (fun M2 h => ?_)
  exact x_vret dX12_quantifier_26 rfl h
def f_X12_quantifier (v0 : Nat) (v1 : Int32) (M : jM) : jO Unit :=
  (gI 11 M v0 33).bind fun x1 =>
  if x1 = (nI 12) then
    j_X12_quantifier_18 v0 M
  else
    (gI 11 M v0 34).bind fun x2 =>
    if x2 = (nI 8) then
      j_X12_quantifier_18 v0 M
    else
      (gI 11 M v0 36).bind fun x3 =>
      (pI 11 M v0 36 (x3 + (nI 1))).bind fun M4 =>
      jb2 (jiv 11 M4 v0 (f_X12_skip v0 M4)) fun _ M5 =>
      jb2 (jiv 11 M5 v0 (f_X12_here v0 M5)) fun x7 M6 =>
      jb2 (f_X12_in x7 (nI 97) (nI 104) M6) fun x9 M8 =>
      if x9 = 0 then
        (gI 11 M8 v0 36).bind fun x10 =>
        (pI 11 M8 v0 37 x10).bind fun M11 =>
        rt () M11
      else
        (gI 11 M8 v0 34).bind fun x12 =>
        jb2 (jiv 11 M8 v0 (f_X12_emit v0 v1 x12 (nI 0) M8)) fun _ M13 =>
        (gR 11 M13 v0 35).bind fun r14 =>
        (gI 11 M13 v0 34).bind fun x15 =>
        jb2 (jiv 11 M13 v0 (f_X12_here v0 M13)) fun x17 M16 =>
        (stI M16 r14 x15 x17).bind fun M18 =>
        (gI 11 M18 v0 34).bind fun x19 =>
        (pI 11 M18 v0 34 (x19 + (nI 1))).bind fun M20 =>
        jb2 (jiv 11 M20 v0 (f_X12_openNode v0 v1 M20)) fun _ M21 =>
        (gI 11 M21 v0 36).bind fun x22 =>
        (pI 11 M21 v0 36 (x22 + (nI 1))).bind fun M23 =>
        rt () M23
theorem s_X12_quantifier {G : jG} {d : Nat} (hd_ : 1 ≤ d) {v0 : Nat} {v1 : Int32} {M : jM} {b : Unit × jM} (h : f_X12_quantifier  v0 v1 M = some b) : V G m_X12_quantifier d 0 [(0, .ref v0), (1, .int v1)] [] M (jQb cU b) := by
  unfold f_X12_quantifier at h
  refine v_aload_n dX12_quantifier_0 rfl 0 rfl ?_
  refine x_gI dX12_quantifier_1 kf_X12_243 rfl h (fun x1 h => ?_)
  refine v_bipush dX12_quantifier_4 bp_12 ?_
  refine x_ic_eq (tgt := 18) dX12_quantifier_6 (by decide) h (fun h => ?_) (fun h => ?_)
  · exact V.pick [0] rfl (t_X12_quantifier_18 hd_ h)
  · refine v_aload_n dX12_quantifier_9 rfl 0 rfl ?_
    refine x_gI dX12_quantifier_10 kf_X12_253 rfl h (fun x2 h => ?_)
    refine v_bipush dX12_quantifier_13 bp_8 ?_
    refine x_ic_ne (tgt := 27) dX12_quantifier_15 (by decide) h (fun h => ?_) (fun h => ?_)
    · exact V.pick [0] rfl (t_X12_quantifier_18 hd_ h)
    · refine v_aload_n dX12_quantifier_27 rfl 0 rfl ?_
      refine v_dup dX12_quantifier_28 rfl ?_
      refine x_gI dX12_quantifier_29 kf_X12_237 rfl h (fun x3 h => ?_)
      refine v_iconst dX12_quantifier_32 ic_1 ?_
      refine v_iadd dX12_quantifier_33 ?_
      refine x_pI dX12_quantifier_34 kf_X12_237 rfl (fun q => Bool.noConfusion q) h (fun M4 h => ?_)
      refine v_aload_n dX12_quantifier_37 rfl 0 rfl ?_
      refine x_inv (cv := cU) (As := []) (rest := []) (ls2 := [(0, .ref v0)]) (ci := 11) (by omega) dX12_quantifier_38 ke_X12_skip kv_X12_246 rfl rfl (by decide) (Nat.le_of_ble_eq_true rfl) rfl rfl rfl rfl h (fun _ hq => s_X12_skip (by omega) hq) (fun _ M5 h => ?_)
      refine v_aload_n dX12_quantifier_41 rfl 0 rfl ?_
      refine x_inv (cv := cI) (As := []) (rest := []) (ls2 := [(0, .ref v0)]) (ci := 11) (by omega) dX12_quantifier_42 ke_X12_here kv_X12_249 rfl rfl (by decide) (Nat.le_of_ble_eq_true rfl) rfl rfl rfl rfl h (fun _ hq => s_X12_here (by omega) hq) (fun x7 M6 h => ?_)
      refine v_bipush dX12_quantifier_45 bp_97 ?_
      refine v_bipush dX12_quantifier_47 bp_104 ?_
      refine x_invs (cv := cI) (As := [.int x7, .int (nI 97), .int (nI 104)]) (rest := []) (ls2 := [(0, .int x7), (1, .int (nI 97)), (2, .int (nI 104))]) (by omega) dX12_quantifier_49 ke_X12_in ks_X12_133 (Nat.le_of_ble_eq_true rfl) rfl rfl rfl rfl h (fun _ hq => s_X12_in (by omega) hq) (fun x9 M8 h => ?_)
      refine x_if_ne (tgt := 64) dX12_quantifier_52 (by decide) h (fun h => ?_) (fun h => ?_)
      · refine v_aload_n dX12_quantifier_55 rfl 0 rfl ?_
        refine v_aload_n dX12_quantifier_56 rfl 0 rfl ?_
        refine x_gI dX12_quantifier_57 kf_X12_237 rfl h (fun x10 h => ?_)
        refine x_pI dX12_quantifier_60 kf_X12_256 rfl (fun q => Bool.noConfusion q) h (fun M11 h => ?_)
        exact x_vret dX12_quantifier_63 rfl h
      · refine v_aload_n dX12_quantifier_64 rfl 0 rfl ?_
        refine v_iload_n dX12_quantifier_65 rfl 1 rfl ?_
        refine v_aload_n dX12_quantifier_66 rfl 0 rfl ?_
        refine x_gI dX12_quantifier_67 kf_X12_253 rfl h (fun x12 h => ?_)
        refine v_iconst dX12_quantifier_70 ic_0 ?_
        refine x_inv (cv := cU) (As := [.int v1, .int x12, .int (nI 0)]) (rest := []) (ls2 := [(0, .ref v0), (1, .int v1), (2, .int x12), (3, .int (nI 0))]) (ci := 11) (by omega) dX12_quantifier_71 ke_X12_emit kv_X12_262 rfl rfl (by decide) (Nat.le_of_ble_eq_true rfl) rfl rfl rfl rfl h (fun _ hq => s_X12_emit (by omega) hq) (fun _ M13 h => ?_)
        refine v_aload_n dX12_quantifier_74 rfl 0 rfl ?_
        refine x_gR dX12_quantifier_75 kf_X12_74 rfl h (fun r14 h => ?_)
        refine v_aload_n dX12_quantifier_78 rfl 0 rfl ?_
        refine x_gI dX12_quantifier_79 kf_X12_253 rfl h (fun x15 h => ?_)
        refine v_aload_n dX12_quantifier_82 rfl 0 rfl ?_
        refine x_inv (cv := cI) (As := []) (rest := [.int x15, .ref r14]) (ls2 := [(0, .ref v0)]) (ci := 11) (by omega) dX12_quantifier_83 ke_X12_here kv_X12_249 rfl rfl (by decide) (Nat.le_of_ble_eq_true rfl) rfl rfl rfl rfl h (fun _ hq => s_X12_here (by omega) hq) (fun x17 M16 h => ?_)
        refine x_stI dX12_quantifier_86 h (fun M18 h => ?_)
        refine v_aload_n dX12_quantifier_87 rfl 0 rfl ?_
        refine v_dup dX12_quantifier_88 rfl ?_
        refine x_gI dX12_quantifier_89 kf_X12_253 rfl h (fun x19 h => ?_)
        refine v_iconst dX12_quantifier_92 ic_1 ?_
        refine v_iadd dX12_quantifier_93 ?_
        refine x_pI dX12_quantifier_94 kf_X12_253 rfl (fun q => Bool.noConfusion q) h (fun M20 h => ?_)
        refine v_aload_n dX12_quantifier_97 rfl 0 rfl ?_
        refine v_iload_n dX12_quantifier_98 rfl 1 rfl ?_
        refine x_inv (cv := cU) (As := [.int v1]) (rest := []) (ls2 := [(0, .ref v0), (1, .int v1)]) (ci := 11) (by omega) dX12_quantifier_99 ke_X12_openNode kv_X12_268 rfl rfl (by decide) (Nat.le_of_ble_eq_true rfl) rfl rfl rfl rfl h (fun _ hq => s_X12_openNode (by omega) hq) (fun _ M21 h => ?_)
        refine v_aload_n dX12_quantifier_102 rfl 0 rfl ?_
        refine v_dup dX12_quantifier_103 rfl ?_
        refine x_gI dX12_quantifier_104 kf_X12_237 rfl h (fun x22 h => ?_)
        refine v_iconst dX12_quantifier_107 ic_1 ?_
        refine v_iadd dX12_quantifier_108 ?_
        refine x_pI dX12_quantifier_109 kf_X12_237 rfl (fun q => Bool.noConfusion q) h (fun M23 h => ?_)
        exact x_vret dX12_quantifier_112 rfl h
def j_X12_beginPart_153  (v0 : Nat) (M : jM) : jO Int32 :=
  (gI 11 M v0 36).bind fun x1 =>
  (pI 11 M v0 36 (x1 + (nI 1))).bind fun M2 =>
  rZ (nI 0) M2
theorem t_X12_beginPart_153 {G : jG} {d : Nat} (hd_ : 3 ≤ d)  {v0 : Nat} {M : jM} {b : Int32 × jM} (h : j_X12_beginPart_153  v0 M = some b) : V G m_X12_beginPart d 153 [(0, .ref v0)] [] M (jQb cI b) := by
  unfold j_X12_beginPart_153 at h
  refine v_aload_n dX12_beginPart_153 rfl 0 rfl ?_
  refine v_dup dX12_beginPart_154 rfl ?_
  refine x_gI dX12_beginPart_155 kf_X12_237 rfl h (fun x1 h => ?_)
  refine v_iconst dX12_beginPart_158 ic_1 ?_
  refine v_iadd dX12_beginPart_159 ?_
  refine x_pI dX12_beginPart_160 kf_X12_237 rfl (fun q => Bool.noConfusion q) h (fun M2 h => ?_)
  refine v_iconst dX12_beginPart_163 ic_0 ?_
  exact x_zret dX12_beginPart_164 rfl h
def j_X12_beginPart_96  (v0 : Nat) (M : jM) : jO Int32 :=
  (gI 11 M v0 33).bind fun x1 =>
  if x1 = (nI 12) then
    (gI 11 M v0 36).bind fun x2 =>
    (pI 11 M v0 37 x2).bind fun M3 =>
    rZ (nI 0) M3
  else
    jb2 (jiv 11 M v0 (f_X12_here v0 M)) fun x5 M4 =>
    if x5 = (nI 45) then
      jb2 (jiv 11 M4 v0 (f_X12_emit v0 (nI 1) (nI 0) (nI 0) M4)) fun _ M6 =>
      jb2 (jiv 11 M6 v0 (f_X12_openNode v0 (nI 1) M6)) fun _ M7 =>
      j_X12_beginPart_153 v0 M7
    else
      (gI 11 M4 v0 33).bind fun x8 =>
      (pI 11 M4 v0 33 (x8 + (nI 1))).bind fun M9 =>
      jb2 (jiv 11 M9 v0 (f_X12_openFormula v0 M9)) fun _ M10 =>
      j_X12_beginPart_153 v0 M10
theorem t_X12_beginPart_96 {G : jG} {d : Nat} (hd_ : 3 ≤ d)  {v0 : Nat} {M : jM} {b : Int32 × jM} (h : j_X12_beginPart_96  v0 M = some b) : V G m_X12_beginPart d 96 [(0, .ref v0)] [] M (jQb cI b) := by
  unfold j_X12_beginPart_96 at h
  refine v_aload_n dX12_beginPart_96 rfl 0 rfl ?_
  refine x_gI dX12_beginPart_97 kf_X12_243 rfl h (fun x1 h => ?_)
  refine v_bipush dX12_beginPart_100 bp_12 ?_
  refine x_ic_ne (tgt := 115) dX12_beginPart_102 (by decide) h (fun h => ?_) (fun h => ?_)
  · refine v_aload_n dX12_beginPart_105 rfl 0 rfl ?_
    refine v_aload_n dX12_beginPart_106 rfl 0 rfl ?_
    refine x_gI dX12_beginPart_107 kf_X12_237 rfl h (fun x2 h => ?_)
    refine x_pI dX12_beginPart_110 kf_X12_256 rfl (fun q => Bool.noConfusion q) h (fun M3 h => ?_)
    refine v_iconst dX12_beginPart_113 ic_0 ?_
    exact x_zret dX12_beginPart_114 rfl h
  · refine v_aload_n dX12_beginPart_115 rfl 0 rfl ?_
    refine x_inv (cv := cI) (As := []) (rest := []) (ls2 := [(0, .ref v0)]) (ci := 11) (by omega) dX12_beginPart_116 ke_X12_here kv_X12_249 rfl rfl (by decide) (Nat.le_of_ble_eq_true rfl) rfl rfl rfl rfl h (fun _ hq => s_X12_here (by omega) hq) (fun x5 M4 h => ?_)
    refine v_bipush dX12_beginPart_119 bp_45 ?_
    refine x_ic_ne (tgt := 139) dX12_beginPart_121 (by decide) h (fun h => ?_) (fun h => ?_)
    · refine v_aload_n dX12_beginPart_124 rfl 0 rfl ?_
      refine v_iconst dX12_beginPart_125 ic_1 ?_
      refine v_iconst dX12_beginPart_126 ic_0 ?_
      refine v_iconst dX12_beginPart_127 ic_0 ?_
      refine x_inv (cv := cU) (As := [.int (nI 1), .int (nI 0), .int (nI 0)]) (rest := []) (ls2 := [(0, .ref v0), (1, .int (nI 1)), (2, .int (nI 0)), (3, .int (nI 0))]) (ci := 11) (by omega) dX12_beginPart_128 ke_X12_emit kv_X12_262 rfl rfl (by decide) (Nat.le_of_ble_eq_true rfl) rfl rfl rfl rfl h (fun _ hq => s_X12_emit (by omega) hq) (fun _ M6 h => ?_)
      refine v_aload_n dX12_beginPart_131 rfl 0 rfl ?_
      refine v_iconst dX12_beginPart_132 ic_1 ?_
      refine x_inv (cv := cU) (As := [.int (nI 1)]) (rest := []) (ls2 := [(0, .ref v0), (1, .int (nI 1))]) (ci := 11) (by omega) dX12_beginPart_133 ke_X12_openNode kv_X12_268 rfl rfl (by decide) (Nat.le_of_ble_eq_true rfl) rfl rfl rfl rfl h (fun _ hq => s_X12_openNode (by omega) hq) (fun _ M7 h => ?_)
      refine v_goto (tgt := 153) dX12_beginPart_136 (by decide) ?_
      exact t_X12_beginPart_153 hd_ h
    · refine v_aload_n dX12_beginPart_139 rfl 0 rfl ?_
      refine v_dup dX12_beginPart_140 rfl ?_
      refine x_gI dX12_beginPart_141 kf_X12_243 rfl h (fun x8 h => ?_)
      refine v_iconst dX12_beginPart_144 ic_1 ?_
      refine v_iadd dX12_beginPart_145 ?_
      refine x_pI dX12_beginPart_146 kf_X12_243 rfl (fun q => Bool.noConfusion q) h (fun M9 h => ?_)
      refine v_aload_n dX12_beginPart_149 rfl 0 rfl ?_
      refine x_inv (cv := cU) (As := []) (rest := []) (ls2 := [(0, .ref v0)]) (ci := 11) (by omega) dX12_beginPart_150 ke_X12_openFormula kv_X12_272 rfl rfl (by decide) (Nat.le_of_ble_eq_true rfl) rfl rfl rfl rfl h (fun _ hq => s_X12_openFormula (by omega) hq) (fun _ M10 h => ?_)
      exact t_X12_beginPart_153 hd_ h
def f_X12_beginPart (v0 : Nat) (M : jM) : jO Int32 :=
  jb2 (jiv 11 M v0 (f_X12_here v0 M)) fun x2 M1 =>
  if x2 = (nI 40) then
    j_X12_beginPart_96 v0 M1
  else
  if x2 = (nI 45) then
    j_X12_beginPart_96 v0 M1
  else
  if x2 = (nI 61) then
    jb2 (jiv 11 M1 v0 (f_X12_atom v0 (nI 9) (nI 2) M1)) fun _ M3 =>
    rZ (nI 1) M3
  else
  if x2 = (nI 63) then
    jb2 (jiv 11 M1 v0 (f_X12_quantifier v0 (nI 3) M1)) fun _ M4 =>
    rZ (nI 0) M4
  else
  if x2 = (nI 64) then
    jb2 (jiv 11 M1 v0 (f_X12_quantifier v0 (nI 2) M1)) fun _ M5 =>
    rZ (nI 0) M5
  else
  if x2 = (nI 65) then
    jb2 (jiv 11 M1 v0 (f_X12_atom v0 (nI 6) (nI 1) M1)) fun _ M6 =>
    rZ (nI 1) M6
  else
  if x2 = (nI 66) then
    jb2 (jiv 11 M1 v0 (f_X12_atom v0 (nI 7) (nI 1) M1)) fun _ M7 =>
    rZ (nI 1) M7
  else
  if x2 = (nI 69) then
    jb2 (jiv 11 M1 v0 (f_X12_atom v0 (nI 8) (nI 2) M1)) fun _ M8 =>
    rZ (nI 1) M8
  else
  if x2 = (nI 70) then
    jb2 (jiv 11 M1 v0 (f_X12_atom v0 (nI 11) (nI 0) M1)) fun _ M9 =>
    rZ (nI 1) M9
  else
  if x2 = (nI 84) then
    jb2 (jiv 11 M1 v0 (f_X12_atom v0 (nI 10) (nI 0) M1)) fun _ M10 =>
    rZ (nI 1) M10
  else
    (gI 11 M1 v0 36).bind fun x11 =>
    (pI 11 M1 v0 37 x11).bind fun M12 =>
    rZ (nI 0) M12
theorem s_X12_beginPart {G : jG} {d : Nat} (hd_ : 3 ≤ d) {v0 : Nat} {M : jM} {b : Int32 × jM} (h : f_X12_beginPart  v0 M = some b) : V G m_X12_beginPart d 0 [(0, .ref v0)] [] M (jQb cI b) := by
  unfold f_X12_beginPart at h
  refine v_aload_n dX12_beginPart_0 rfl 0 rfl ?_
  refine x_inv (cv := cI) (As := []) (rest := []) (ls2 := [(0, .ref v0)]) (ci := 11) (by omega) dX12_beginPart_1 ke_X12_here kv_X12_249 rfl rfl (by decide) (Nat.le_of_ble_eq_true rfl) rfl rfl rfl rfl h (fun _ hq => s_X12_here (by omega) hq) (fun x2 M1 h => ?_)
  rcases x_br h with ⟨hc, h⟩ | ⟨hc40, h⟩
  · refine v_lookup (off := 92) (tgt := 96) dX12_beginPart_4 (by decide +kernel) (by rw [hc]; decide +kernel) (by decide) ?_
    exact t_X12_beginPart_96 hd_ h
  rcases x_br h with ⟨hc, h⟩ | ⟨hc45, h⟩
  · refine v_lookup (off := 92) (tgt := 96) dX12_beginPart_4 (by decide +kernel) (by rw [hc]; decide +kernel) (by decide) ?_
    exact t_X12_beginPart_96 hd_ h
  rcases x_br h with ⟨hc, h⟩ | ⟨hc61, h⟩
  · refine v_lookup (off := 202) (tgt := 206) dX12_beginPart_4 (by decide +kernel) (by rw [hc]; decide +kernel) (by decide) ?_
    refine v_aload_n dX12_beginPart_206 rfl 0 rfl ?_
    refine v_bipush dX12_beginPart_207 bp_9 ?_
    refine v_iconst dX12_beginPart_209 ic_2 ?_
    refine x_inv (cv := cU) (As := [.int (nI 9), .int (nI 2)]) (rest := []) (ls2 := [(0, .ref v0), (1, .int (nI 9)), (2, .int (nI 2))]) (ci := 11) (by omega) dX12_beginPart_210 ke_X12_atom kv_X12_278 rfl rfl (by decide) (Nat.le_of_ble_eq_true rfl) rfl rfl rfl rfl h (fun _ hq => s_X12_atom (by omega) hq) (fun _ M3 h => ?_)
    refine v_iconst dX12_beginPart_213 ic_1 ?_
    exact x_zret dX12_beginPart_214 rfl h
  rcases x_br h with ⟨hc, h⟩ | ⟨hc63, h⟩
  · refine v_lookup (off := 168) (tgt := 172) dX12_beginPart_4 (by decide +kernel) (by rw [hc]; decide +kernel) (by decide) ?_
    refine v_aload_n dX12_beginPart_172 rfl 0 rfl ?_
    refine v_iconst dX12_beginPart_173 ic_3 ?_
    refine x_inv (cv := cU) (As := [.int (nI 3)]) (rest := []) (ls2 := [(0, .ref v0), (1, .int (nI 3))]) (ci := 11) (by omega) dX12_beginPart_174 ke_X12_quantifier kv_X12_275 rfl rfl (by decide) (Nat.le_of_ble_eq_true rfl) rfl rfl rfl rfl h (fun _ hq => s_X12_quantifier (by omega) hq) (fun _ M4 h => ?_)
    refine v_iconst dX12_beginPart_177 ic_0 ?_
    exact x_zret dX12_beginPart_178 rfl h
  rcases x_br h with ⟨hc, h⟩ | ⟨hc64, h⟩
  · refine v_lookup (off := 161) (tgt := 165) dX12_beginPart_4 (by decide +kernel) (by rw [hc]; decide +kernel) (by decide) ?_
    refine v_aload_n dX12_beginPart_165 rfl 0 rfl ?_
    refine v_iconst dX12_beginPart_166 ic_2 ?_
    refine x_inv (cv := cU) (As := [.int (nI 2)]) (rest := []) (ls2 := [(0, .ref v0), (1, .int (nI 2))]) (ci := 11) (by omega) dX12_beginPart_167 ke_X12_quantifier kv_X12_275 rfl rfl (by decide) (Nat.le_of_ble_eq_true rfl) rfl rfl rfl rfl h (fun _ hq => s_X12_quantifier (by omega) hq) (fun _ M5 h => ?_)
    refine v_iconst dX12_beginPart_170 ic_0 ?_
    exact x_zret dX12_beginPart_171 rfl h
  rcases x_br h with ⟨hc, h⟩ | ⟨hc65, h⟩
  · refine v_lookup (off := 175) (tgt := 179) dX12_beginPart_4 (by decide +kernel) (by rw [hc]; decide +kernel) (by decide) ?_
    refine v_aload_n dX12_beginPart_179 rfl 0 rfl ?_
    refine v_bipush dX12_beginPart_180 bp_6 ?_
    refine v_iconst dX12_beginPart_182 ic_1 ?_
    refine x_inv (cv := cU) (As := [.int (nI 6), .int (nI 1)]) (rest := []) (ls2 := [(0, .ref v0), (1, .int (nI 6)), (2, .int (nI 1))]) (ci := 11) (by omega) dX12_beginPart_183 ke_X12_atom kv_X12_278 rfl rfl (by decide) (Nat.le_of_ble_eq_true rfl) rfl rfl rfl rfl h (fun _ hq => s_X12_atom (by omega) hq) (fun _ M6 h => ?_)
    refine v_iconst dX12_beginPart_186 ic_1 ?_
    exact x_zret dX12_beginPart_187 rfl h
  rcases x_br h with ⟨hc, h⟩ | ⟨hc66, h⟩
  · refine v_lookup (off := 184) (tgt := 188) dX12_beginPart_4 (by decide +kernel) (by rw [hc]; decide +kernel) (by decide) ?_
    refine v_aload_n dX12_beginPart_188 rfl 0 rfl ?_
    refine v_bipush dX12_beginPart_189 bp_7 ?_
    refine v_iconst dX12_beginPart_191 ic_1 ?_
    refine x_inv (cv := cU) (As := [.int (nI 7), .int (nI 1)]) (rest := []) (ls2 := [(0, .ref v0), (1, .int (nI 7)), (2, .int (nI 1))]) (ci := 11) (by omega) dX12_beginPart_192 ke_X12_atom kv_X12_278 rfl rfl (by decide) (Nat.le_of_ble_eq_true rfl) rfl rfl rfl rfl h (fun _ hq => s_X12_atom (by omega) hq) (fun _ M7 h => ?_)
    refine v_iconst dX12_beginPart_195 ic_1 ?_
    exact x_zret dX12_beginPart_196 rfl h
  rcases x_br h with ⟨hc, h⟩ | ⟨hc69, h⟩
  · refine v_lookup (off := 193) (tgt := 197) dX12_beginPart_4 (by decide +kernel) (by rw [hc]; decide +kernel) (by decide) ?_
    refine v_aload_n dX12_beginPart_197 rfl 0 rfl ?_
    refine v_bipush dX12_beginPart_198 bp_8 ?_
    refine v_iconst dX12_beginPart_200 ic_2 ?_
    refine x_inv (cv := cU) (As := [.int (nI 8), .int (nI 2)]) (rest := []) (ls2 := [(0, .ref v0), (1, .int (nI 8)), (2, .int (nI 2))]) (ci := 11) (by omega) dX12_beginPart_201 ke_X12_atom kv_X12_278 rfl rfl (by decide) (Nat.le_of_ble_eq_true rfl) rfl rfl rfl rfl h (fun _ hq => s_X12_atom (by omega) hq) (fun _ M8 h => ?_)
    refine v_iconst dX12_beginPart_204 ic_1 ?_
    exact x_zret dX12_beginPart_205 rfl h
  rcases x_br h with ⟨hc, h⟩ | ⟨hc70, h⟩
  · refine v_lookup (off := 220) (tgt := 224) dX12_beginPart_4 (by decide +kernel) (by rw [hc]; decide +kernel) (by decide) ?_
    refine v_aload_n dX12_beginPart_224 rfl 0 rfl ?_
    refine v_bipush dX12_beginPart_225 bp_11 ?_
    refine v_iconst dX12_beginPart_227 ic_0 ?_
    refine x_inv (cv := cU) (As := [.int (nI 11), .int (nI 0)]) (rest := []) (ls2 := [(0, .ref v0), (1, .int (nI 11)), (2, .int (nI 0))]) (ci := 11) (by omega) dX12_beginPart_228 ke_X12_atom kv_X12_278 rfl rfl (by decide) (Nat.le_of_ble_eq_true rfl) rfl rfl rfl rfl h (fun _ hq => s_X12_atom (by omega) hq) (fun _ M9 h => ?_)
    refine v_iconst dX12_beginPart_231 ic_1 ?_
    exact x_zret dX12_beginPart_232 rfl h
  rcases x_br h with ⟨hc, h⟩ | ⟨hc84, h⟩
  · refine v_lookup (off := 211) (tgt := 215) dX12_beginPart_4 (by decide +kernel) (by rw [hc]; decide +kernel) (by decide) ?_
    refine v_aload_n dX12_beginPart_215 rfl 0 rfl ?_
    refine v_bipush dX12_beginPart_216 bp_10 ?_
    refine v_iconst dX12_beginPart_218 ic_0 ?_
    refine x_inv (cv := cU) (As := [.int (nI 10), .int (nI 0)]) (rest := []) (ls2 := [(0, .ref v0), (1, .int (nI 10)), (2, .int (nI 0))]) (ci := 11) (by omega) dX12_beginPart_219 ke_X12_atom kv_X12_278 rfl rfl (by decide) (Nat.le_of_ble_eq_true rfl) rfl rfl rfl rfl h (fun _ hq => s_X12_atom (by omega) hq) (fun _ M10 h => ?_)
    refine v_iconst dX12_beginPart_222 ic_1 ?_
    exact x_zret dX12_beginPart_223 rfl h
  have he40 := x_ne hc40 (z := 40) (by decide +kernel)
  have he45 := x_ne hc45 (z := 45) (by decide +kernel)
  have he61 := x_ne hc61 (z := 61) (by decide +kernel)
  have he63 := x_ne hc63 (z := 63) (by decide +kernel)
  have he64 := x_ne hc64 (z := 64) (by decide +kernel)
  have he65 := x_ne hc65 (z := 65) (by decide +kernel)
  have he66 := x_ne hc66 (z := 66) (by decide +kernel)
  have he69 := x_ne hc69 (z := 69) (by decide +kernel)
  have he70 := x_ne hc70 (z := 70) (by decide +kernel)
  have he84 := x_ne hc84 (z := 84) (by decide +kernel)
  refine v_lookup (off := 229) (tgt := 233) dX12_beginPart_4 (by decide +kernel) (by simp only [Op.lookupswitch.offset_cons, Op.lookupswitch.offset_nil]; rw [if_neg (fun e => he40 e.symm)]; rw [if_neg (fun e => he45 e.symm)]; rw [if_neg (fun e => he61 e.symm)]; rw [if_neg (fun e => he63 e.symm)]; rw [if_neg (fun e => he64 e.symm)]; rw [if_neg (fun e => he65 e.symm)]; rw [if_neg (fun e => he66 e.symm)]; rw [if_neg (fun e => he69 e.symm)]; rw [if_neg (fun e => he70 e.symm)]; rw [if_neg (fun e => he84 e.symm)]) (by decide) ?_
  refine v_aload_n dX12_beginPart_233 rfl 0 rfl ?_
  refine v_aload_n dX12_beginPart_234 rfl 0 rfl ?_
  refine x_gI dX12_beginPart_235 kf_X12_237 rfl h (fun x11 h => ?_)
  refine x_pI dX12_beginPart_238 kf_X12_256 rfl (fun q => Bool.noConfusion q) h (fun M12 h => ?_)
  refine v_iconst dX12_beginPart_241 ic_0 ?_
  exact x_zret dX12_beginPart_242 rfl h
def b_X12_insert_5  (k5 : Nat → Int32 → Int32 → Int32 → jM → jO Unit) (v0 : Nat) (v1 : Int32) (v2 : Int32) (v3 : Int32) (M : jM) : jO Unit :=
  if v3 ≤ v1 then
    (gR 11 M v0 24).bind fun r1 =>
    (stB M r1 v1 (Int8.toInt32 (Int32.toInt8 v2))).bind fun M2 =>
    (gR 11 M2 v0 25).bind fun r3 =>
    (stI M2 r3 v1 (nI 0)).bind fun M4 =>
    (gR 11 M4 v0 26).bind fun r5 =>
    (stB M4 r5 v1 (nI 0)).bind fun M6 =>
    (gI 11 M6 v0 23).bind fun x7 =>
    (pI 11 M6 v0 23 (x7 + (nI 1))).bind fun M8 =>
    rt () M8
  else
    (gR 11 M v0 24).bind fun r9 =>
    (gR 11 M v0 24).bind fun r10 =>
    (ldB M r10 (v3 - (nI 1))).bind fun x11 =>
    (stB M r9 v3 x11).bind fun M12 =>
    (gR 11 M12 v0 25).bind fun r13 =>
    (gR 11 M12 v0 25).bind fun r14 =>
    (ldI M12 r14 (v3 - (nI 1))).bind fun x15 =>
    (stI M12 r13 v3 x15).bind fun M16 =>
    (gR 11 M16 v0 26).bind fun r17 =>
    (gR 11 M16 v0 26).bind fun r18 =>
    (ldB M16 r18 (v3 - (nI 1))).bind fun x19 =>
    (stB M16 r17 v3 x19).bind fun M20 =>
    k5 v0 v1 v2 (v3 + (-1 : Int32)) M20
def l_X12_insert_5  : Nat → Nat → Int32 → Int32 → Int32 → jM → jO Unit
  | 0 => fun _ _ _ _ _ => none
  | n + 1 => b_X12_insert_5  (l_X12_insert_5  n)
theorem tb_X12_insert_5 {G : jG} {d : Nat} (hd_ : 0 ≤ d)  {k5 : Nat → Int32 → Int32 → Int32 → jM → jO Unit} (hk5 : ∀ (w0 : Nat) (w1 : Int32) (w2 : Int32) (w3 : Int32) (M : jM) (b : Unit × jM), k5 w0 w1 w2 w3 M = some b → V G m_X12_insert d 5 [(0, .ref w0), (1, .int w1), (2, .int w2), (3, .int w3)] [] M (jQb cU b)) {v0 : Nat} {v1 : Int32} {v2 : Int32} {v3 : Int32} {M : jM} {b : Unit × jM} (h : b_X12_insert_5  k5 v0 v1 v2 v3 M = some b) : V G m_X12_insert d 5 [(0, .ref v0), (1, .int v1), (2, .int v2), (3, .int v3)] [] M (jQb cU b) := by
  unfold b_X12_insert_5 at h
  refine v_iload_n dX12_insert_5 rfl 3 rfl ?_
  refine v_iload_n dX12_insert_6 rfl 1 rfl ?_
  refine x_ic_le (tgt := 58) dX12_insert_7 (by decide) h (fun h => ?_) (fun h => ?_)
  · refine v_aload_n dX12_insert_58 rfl 0 rfl ?_
    refine x_gR dX12_insert_59 kf_X12_53 rfl h (fun r1 h => ?_)
    refine v_iload_n dX12_insert_62 rfl 1 rfl ?_
    refine v_iload_n dX12_insert_63 rfl 2 rfl ?_
    refine v_i2b dX12_insert_64 ?_
    refine x_stB dX12_insert_65 h (fun M2 h => ?_)
    refine v_aload_n dX12_insert_66 rfl 0 rfl ?_
    refine x_gR dX12_insert_67 kf_X12_56 rfl h (fun r3 h => ?_)
    refine v_iload_n dX12_insert_70 rfl 1 rfl ?_
    refine v_iconst dX12_insert_71 ic_0 ?_
    refine x_stI dX12_insert_72 h (fun M4 h => ?_)
    refine v_aload_n dX12_insert_73 rfl 0 rfl ?_
    refine x_gR dX12_insert_74 kf_X12_59 rfl h (fun r5 h => ?_)
    refine v_iload_n dX12_insert_77 rfl 1 rfl ?_
    refine v_iconst dX12_insert_78 ic_0 ?_
    refine x_stB dX12_insert_79 h (fun M6 h => ?_)
    refine v_aload_n dX12_insert_80 rfl 0 rfl ?_
    refine v_dup dX12_insert_81 rfl ?_
    refine x_gI dX12_insert_82 kf_X12_234 rfl h (fun x7 h => ?_)
    refine v_iconst dX12_insert_85 ic_1 ?_
    refine v_iadd dX12_insert_86 ?_
    refine x_pI dX12_insert_87 kf_X12_234 rfl (fun q => Bool.noConfusion q) h (fun M8 h => ?_)
    exact x_vret dX12_insert_90 rfl h
  · refine v_aload_n dX12_insert_10 rfl 0 rfl ?_
    refine x_gR dX12_insert_11 kf_X12_53 rfl h (fun r9 h => ?_)
    refine v_iload_n dX12_insert_14 rfl 3 rfl ?_
    refine v_aload_n dX12_insert_15 rfl 0 rfl ?_
    refine x_gR dX12_insert_16 kf_X12_53 rfl h (fun r10 h => ?_)
    refine v_iload_n dX12_insert_19 rfl 3 rfl ?_
    refine v_iconst dX12_insert_20 ic_1 ?_
    refine v_isub dX12_insert_21 ?_
    refine x_ldB dX12_insert_22 h (fun x11 h => ?_)
    refine x_stB dX12_insert_23 h (fun M12 h => ?_)
    refine v_aload_n dX12_insert_24 rfl 0 rfl ?_
    refine x_gR dX12_insert_25 kf_X12_56 rfl h (fun r13 h => ?_)
    refine v_iload_n dX12_insert_28 rfl 3 rfl ?_
    refine v_aload_n dX12_insert_29 rfl 0 rfl ?_
    refine x_gR dX12_insert_30 kf_X12_56 rfl h (fun r14 h => ?_)
    refine v_iload_n dX12_insert_33 rfl 3 rfl ?_
    refine v_iconst dX12_insert_34 ic_1 ?_
    refine v_isub dX12_insert_35 ?_
    refine x_ldI dX12_insert_36 h (fun x15 h => ?_)
    refine x_stI dX12_insert_37 h (fun M16 h => ?_)
    refine v_aload_n dX12_insert_38 rfl 0 rfl ?_
    refine x_gR dX12_insert_39 kf_X12_59 rfl h (fun r17 h => ?_)
    refine v_iload_n dX12_insert_42 rfl 3 rfl ?_
    refine v_aload_n dX12_insert_43 rfl 0 rfl ?_
    refine x_gR dX12_insert_44 kf_X12_59 rfl h (fun r18 h => ?_)
    refine v_iload_n dX12_insert_47 rfl 3 rfl ?_
    refine v_iconst dX12_insert_48 ic_1 ?_
    refine v_isub dX12_insert_49 ?_
    refine x_ldB dX12_insert_50 h (fun x19 h => ?_)
    refine x_stB dX12_insert_51 h (fun M20 h => ?_)
    refine v_iincC (ls2 := [(3, .int (v3 + (-1 : Int32))), (0, .ref v0), (1, .int v1), (2, .int v2)]) dX12_insert_52 ic_m1 3 rfl (by decide) rfl ?_
    refine v_goto (tgt := 5) dX12_insert_55 (by decide) ?_
    exact V.pick [1, 2, 3, 0] rfl (hk5 _ _ _ _ _ _ h)
theorem t_X12_insert_5 {G : jG} {d : Nat} (hd_ : 0 ≤ d)  : ∀ (n : Nat) (v0 : Nat) (v1 : Int32) (v2 : Int32) (v3 : Int32) (M : jM) (b : Unit × jM), l_X12_insert_5  n v0 v1 v2 v3 M = some b → V G m_X12_insert d 5 [(0, .ref v0), (1, .int v1), (2, .int v2), (3, .int v3)] [] M (jQb cU b) := by
  intro n
  induction n with
  | zero => intro v0 v1 v2 v3 M b h; exact nomatch (show (none : jO Unit) = some b from h)
  | succ n ih => intro v0 v1 v2 v3 M b h; exact tb_X12_insert_5 hd_  ih h
def f_X12_insert (v0 : Nat) (v1 : Int32) (v2 : Int32) (M : jM) : jO Unit :=
  (gI 11 M v0 23).bind fun x1 =>
  l_X12_insert_5 jF0 v0 v1 v2 x1 M
theorem s_X12_insert {G : jG} {d : Nat} (hd_ : 0 ≤ d) {v0 : Nat} {v1 : Int32} {v2 : Int32} {M : jM} {b : Unit × jM} (h : f_X12_insert  v0 v1 v2 M = some b) : V G m_X12_insert d 0 [(0, .ref v0), (1, .int v1), (2, .int v2)] [] M (jQb cU b) := by
  unfold f_X12_insert at h
  refine v_aload_n dX12_insert_0 rfl 0 rfl ?_
  refine x_gI dX12_insert_1 kf_X12_234 rfl h (fun x1 h => ?_)
  refine v_istore_n (ls2 := [(3, .int x1), (0, .ref v0), (1, .int v1), (2, .int v2)]) dX12_insert_4 rfl (by decide) rfl ?_
  exact V.pick [1, 2, 3, 0] rfl (t_X12_insert_5 hd_ _ _ _ _ _ _ _ h)
def j_X12_goOn_107  (v0 : Nat) (M : jM) : jO Int32 :=
  (gI 11 M v0 36).bind fun x1 =>
  (pI 11 M v0 37 x1).bind fun M2 =>
  rZ (nI 0) M2
theorem t_X12_goOn_107 {G : jG} {d : Nat} (hd_ : 1 ≤ d)  {v0 : Nat} {M : jM} {b : Int32 × jM} (h : j_X12_goOn_107  v0 M = some b) : V G m_X12_goOn d 107 [(0, .ref v0)] [] M (jQb cI b) := by
  unfold j_X12_goOn_107 at h
  refine v_aload_n dX12_goOn_107 rfl 0 rfl ?_
  refine v_aload_n dX12_goOn_108 rfl 0 rfl ?_
  refine x_gI dX12_goOn_109 kf_X12_237 rfl h (fun x1 h => ?_)
  refine x_pI dX12_goOn_112 kf_X12_256 rfl (fun q => Bool.noConfusion q) h (fun M2 h => ?_)
  refine v_iconst dX12_goOn_115 ic_0 ?_
  exact x_zret dX12_goOn_116 rfl h
def j_X12_goOn_156  (v0 : Nat) (M : jM) : jO Int32 :=
  (gI 11 M v0 36).bind fun x1 =>
  (pI 11 M v0 36 (x1 + (nI 1))).bind fun M2 =>
  rZ (nI 1) M2
theorem t_X12_goOn_156 {G : jG} {d : Nat} (hd_ : 1 ≤ d)  {v0 : Nat} {M : jM} {b : Int32 × jM} (h : j_X12_goOn_156  v0 M = some b) : V G m_X12_goOn d 156 [(0, .ref v0)] [] M (jQb cI b) := by
  unfold j_X12_goOn_156 at h
  refine v_aload_n dX12_goOn_156 rfl 0 rfl ?_
  refine v_dup dX12_goOn_157 rfl ?_
  refine x_gI dX12_goOn_158 kf_X12_237 rfl h (fun x1 h => ?_)
  refine v_iconst dX12_goOn_161 ic_1 ?_
  refine v_iadd dX12_goOn_162 ?_
  refine x_pI dX12_goOn_163 kf_X12_237 rfl (fun q => Bool.noConfusion q) h (fun M2 h => ?_)
  refine v_iconst dX12_goOn_166 ic_1 ?_
  exact x_zret dX12_goOn_167 rfl h
def j_X12_goOn_117  (v0 : Nat) (v2 : Int32) (v3 : Int32) (M : jM) : jO Int32 :=
  (gR 11 M v0 32).bind fun r1 =>
  (ldI M r1 v2).bind fun x2 =>
  if x2 = 0 then
    (gR 11 M v0 32).bind fun r3 =>
    (stI M r3 v2 v3).bind fun M4 =>
    (gR 11 M4 v0 31).bind fun r5 =>
    (ldI M4 r5 v2).bind fun x6 =>
    jb2 (jiv 11 M4 v0 (f_X12_insert v0 x6 v3 M4)) fun _ M7 =>
    (gR 11 M7 v0 25).bind fun r8 =>
    (gR 11 M7 v0 31).bind fun r9 =>
    (ldI M7 r9 v2).bind fun x10 =>
    (stI M7 r8 x10 (nI 1)).bind fun M11 =>
    j_X12_goOn_156 v0 M11
  else
    j_X12_goOn_156 v0 M
theorem t_X12_goOn_117 {G : jG} {d : Nat} (hd_ : 1 ≤ d)  {v0 : Nat} {v2 : Int32} {v3 : Int32} {M : jM} {b : Int32 × jM} (h : j_X12_goOn_117  v0 v2 v3 M = some b) : V G m_X12_goOn d 117 [(0, .ref v0), (2, .int v2), (3, .int v3)] [] M (jQb cI b) := by
  unfold j_X12_goOn_117 at h
  refine v_aload_n dX12_goOn_117 rfl 0 rfl ?_
  refine x_gR dX12_goOn_118 kf_X12_71 rfl h (fun r1 h => ?_)
  refine v_iload_n dX12_goOn_121 rfl 1 rfl ?_
  refine x_ldI dX12_goOn_122 h (fun x2 h => ?_)
  refine x_if_ne (tgt := 156) dX12_goOn_123 (by decide) h (fun h => ?_) (fun h => ?_)
  · refine v_aload_n dX12_goOn_126 rfl 0 rfl ?_
    refine x_gR dX12_goOn_127 kf_X12_71 rfl h (fun r3 h => ?_)
    refine v_iload_n dX12_goOn_130 rfl 1 rfl ?_
    refine v_iload_n dX12_goOn_131 rfl 2 rfl ?_
    refine x_stI dX12_goOn_132 h (fun M4 h => ?_)
    refine v_aload_n dX12_goOn_133 rfl 0 rfl ?_
    refine v_aload_n dX12_goOn_134 rfl 0 rfl ?_
    refine x_gR dX12_goOn_135 kf_X12_68 rfl h (fun r5 h => ?_)
    refine v_iload_n dX12_goOn_138 rfl 1 rfl ?_
    refine x_ldI dX12_goOn_139 h (fun x6 h => ?_)
    refine v_iload_n dX12_goOn_140 rfl 2 rfl ?_
    refine x_inv (cv := cU) (As := [.int x6, .int v3]) (rest := []) (ls2 := [(0, .ref v0), (1, .int x6), (2, .int v3)]) (ci := 11) (by omega) dX12_goOn_141 ke_X12_insert kv_X12_281 rfl rfl (by decide) (Nat.le_of_ble_eq_true rfl) rfl rfl rfl rfl h (fun _ hq => s_X12_insert (by omega) hq) (fun _ M7 h => ?_)
    refine v_aload_n dX12_goOn_144 rfl 0 rfl ?_
    refine x_gR dX12_goOn_145 kf_X12_56 rfl h (fun r8 h => ?_)
    refine v_aload_n dX12_goOn_148 rfl 0 rfl ?_
    refine x_gR dX12_goOn_149 kf_X12_68 rfl h (fun r9 h => ?_)
    refine v_iload_n dX12_goOn_152 rfl 1 rfl ?_
    refine x_ldI dX12_goOn_153 h (fun x10 h => ?_)
    refine v_iconst dX12_goOn_154 ic_1 ?_
    refine x_stI dX12_goOn_155 h (fun M11 h => ?_)
    exact V.pick [0] rfl (t_X12_goOn_156 hd_ h)
  · exact V.pick [0] rfl (t_X12_goOn_156 hd_ h)
def j_X12_goOn_83  (v0 : Nat) (v2 : Int32) (s0 : Int32) (M : jM) : jO Int32 :=
  if s0 = 0 then
    j_X12_goOn_107 v0 M
  else
    (gR 11 M v0 32).bind fun r1 =>
    (ldI M r1 v2).bind fun x2 =>
    if x2 = 0 then
      j_X12_goOn_117 v0 v2 s0 M
    else
      (gR 11 M v0 32).bind fun r3 =>
      (ldI M r3 v2).bind fun x4 =>
      if x4 = s0 then
        j_X12_goOn_117 v0 v2 s0 M
      else
        j_X12_goOn_107 v0 M
theorem t_X12_goOn_83 {G : jG} {d : Nat} (hd_ : 1 ≤ d)  {v0 : Nat} {v2 : Int32} {s0 : Int32} {M : jM} {b : Int32 × jM} (h : j_X12_goOn_83  v0 v2 s0 M = some b) : V G m_X12_goOn d 83 [(0, .ref v0), (2, .int v2)] [.int s0] M (jQb cI b) := by
  unfold j_X12_goOn_83 at h
  refine v_istore_n (ls2 := [(3, .int s0), (0, .ref v0), (2, .int v2)]) dX12_goOn_83 rfl (by decide) rfl ?_
  refine v_iload_n dX12_goOn_84 rfl 0 rfl ?_
  refine x_if_eq (tgt := 107) dX12_goOn_85 (by decide) h (fun h => ?_) (fun h => ?_)
  · exact V.pick [1] rfl (t_X12_goOn_107 hd_ h)
  · refine v_aload_n dX12_goOn_88 rfl 1 rfl ?_
    refine x_gR dX12_goOn_89 kf_X12_71 rfl h (fun r1 h => ?_)
    refine v_iload_n dX12_goOn_92 rfl 2 rfl ?_
    refine x_ldI dX12_goOn_93 h (fun x2 h => ?_)
    refine x_if_eq (tgt := 117) dX12_goOn_94 (by decide) h (fun h => ?_) (fun h => ?_)
    · exact V.pick [1, 2, 0] rfl (t_X12_goOn_117 hd_ h)
    · refine v_aload_n dX12_goOn_97 rfl 1 rfl ?_
      refine x_gR dX12_goOn_98 kf_X12_71 rfl h (fun r3 h => ?_)
      refine v_iload_n dX12_goOn_101 rfl 2 rfl ?_
      refine x_ldI dX12_goOn_102 h (fun x4 h => ?_)
      refine v_iload_n dX12_goOn_103 rfl 0 rfl ?_
      refine x_ic_eq (tgt := 117) dX12_goOn_104 (by decide) h (fun h => ?_) (fun h => ?_)
      · exact V.pick [1, 2, 0] rfl (t_X12_goOn_117 hd_ h)
      · exact V.pick [1] rfl (t_X12_goOn_107 hd_ h)
def j_X12_goOn_62  (v0 : Nat) (v1 : Int32) (v2 : Int32) (M : jM) : jO Int32 :=
  if v1 = (nI 38) then
    j_X12_goOn_83 v0 v2 (nI 4) M
  else
    if v1 = (nI 124) then
      j_X12_goOn_83 v0 v2 (nI 5) M
    else
      j_X12_goOn_83 v0 v2 (nI 0) M
theorem t_X12_goOn_62 {G : jG} {d : Nat} (hd_ : 1 ≤ d)  {v0 : Nat} {v1 : Int32} {v2 : Int32} {M : jM} {b : Int32 × jM} (h : j_X12_goOn_62  v0 v1 v2 M = some b) : V G m_X12_goOn d 62 [(0, .ref v0), (1, .int v1), (2, .int v2)] [] M (jQb cI b) := by
  unfold j_X12_goOn_62 at h
  refine v_iload_n dX12_goOn_62 rfl 1 rfl ?_
  refine v_bipush dX12_goOn_63 bp_38 ?_
  refine x_ic_ne (tgt := 72) dX12_goOn_65 (by decide) h (fun h => ?_) (fun h => ?_)
  · refine v_iconst dX12_goOn_68 ic_4 ?_
    refine v_goto (tgt := 83) dX12_goOn_69 (by decide) ?_
    exact V.pick [0, 2] rfl (t_X12_goOn_83 hd_ h)
  · refine v_iload_n dX12_goOn_72 rfl 1 rfl ?_
    refine v_bipush dX12_goOn_73 bp_124 ?_
    refine x_ic_ne (tgt := 82) dX12_goOn_75 (by decide) h (fun h => ?_) (fun h => ?_)
    · refine v_iconst dX12_goOn_78 ic_5 ?_
      refine v_goto (tgt := 83) dX12_goOn_79 (by decide) ?_
      exact V.pick [0, 2] rfl (t_X12_goOn_83 hd_ h)
    · refine v_iconst dX12_goOn_82 ic_0 ?_
      exact V.pick [0, 2] rfl (t_X12_goOn_83 hd_ h)
def f_X12_goOn (v0 : Nat) (M : jM) : jO Int32 :=
  jb2 (jiv 11 M v0 (f_X12_here v0 M)) fun x2 M1 =>
  (gI 11 M1 v0 29).bind fun x3 =>
  (jv (x3 - (nI 1))).bind fun y4 =>
  if x2 = (nI 41) then
    (gI 11 M1 v0 29).bind fun x5 =>
    if x5 ≤ (nI 1) then
      j_X12_goOn_62 v0 x2 y4 M1
    else
      (gI 11 M1 v0 29).bind fun x6 =>
      (pI 11 M1 v0 29 (x6 - (nI 1))).bind fun M7 =>
      (gI 11 M7 v0 33).bind fun x8 =>
      (pI 11 M7 v0 33 (x8 - (nI 1))).bind fun M9 =>
      (gI 11 M9 v0 36).bind fun x10 =>
      (pI 11 M9 v0 36 (x10 + (nI 1))).bind fun M11 =>
      jb2 (jiv 11 M11 v0 (f_X12_partDone v0 M11)) fun _ M12 =>
      rZ (nI 0) M12
  else
    j_X12_goOn_62 v0 x2 y4 M1
theorem s_X12_goOn {G : jG} {d : Nat} (hd_ : 1 ≤ d) {v0 : Nat} {M : jM} {b : Int32 × jM} (h : f_X12_goOn  v0 M = some b) : V G m_X12_goOn d 0 [(0, .ref v0)] [] M (jQb cI b) := by
  unfold f_X12_goOn at h
  refine v_aload_n dX12_goOn_0 rfl 0 rfl ?_
  refine x_inv (cv := cI) (As := []) (rest := []) (ls2 := [(0, .ref v0)]) (ci := 11) (by omega) dX12_goOn_1 ke_X12_here kv_X12_249 rfl rfl (by decide) (Nat.le_of_ble_eq_true rfl) rfl rfl rfl rfl h (fun _ hq => s_X12_here (by omega) hq) (fun x2 M1 h => ?_)
  refine v_istore_n (ls2 := [(1, .int x2), (0, .ref v0)]) dX12_goOn_4 rfl (by decide) rfl ?_
  refine v_aload_n dX12_goOn_5 rfl 1 rfl ?_
  refine x_gI dX12_goOn_6 kf_X12_240 rfl h (fun x3 h => ?_)
  refine v_iconst dX12_goOn_9 ic_1 ?_
  refine v_isub dX12_goOn_10 ?_
  refine x_jvI h (fun y4 h => ?_)
  refine v_istore_n (ls2 := [(2, .int y4), (1, .int x2), (0, .ref v0)]) dX12_goOn_11 rfl (by decide) rfl ?_
  refine v_iload_n dX12_goOn_12 rfl 1 rfl ?_
  refine v_bipush dX12_goOn_13 bp_41 ?_
  refine x_ic_ne (tgt := 62) dX12_goOn_15 (by decide) h (fun h => ?_) (fun h => ?_)
  · refine v_aload_n dX12_goOn_18 rfl 2 rfl ?_
    refine x_gI dX12_goOn_19 kf_X12_240 rfl h (fun x5 h => ?_)
    refine v_iconst dX12_goOn_22 ic_1 ?_
    refine x_ic_le (tgt := 62) dX12_goOn_23 (by decide) h (fun h => ?_) (fun h => ?_)
    · exact V.pick [2, 1, 0] rfl (t_X12_goOn_62 hd_ h)
    · refine v_aload_n dX12_goOn_26 rfl 2 rfl ?_
      refine v_dup dX12_goOn_27 rfl ?_
      refine x_gI dX12_goOn_28 kf_X12_240 rfl h (fun x6 h => ?_)
      refine v_iconst dX12_goOn_31 ic_1 ?_
      refine v_isub dX12_goOn_32 ?_
      refine x_pI dX12_goOn_33 kf_X12_240 rfl (fun q => Bool.noConfusion q) h (fun M7 h => ?_)
      refine v_aload_n dX12_goOn_36 rfl 2 rfl ?_
      refine v_dup dX12_goOn_37 rfl ?_
      refine x_gI dX12_goOn_38 kf_X12_243 rfl h (fun x8 h => ?_)
      refine v_iconst dX12_goOn_41 ic_1 ?_
      refine v_isub dX12_goOn_42 ?_
      refine x_pI dX12_goOn_43 kf_X12_243 rfl (fun q => Bool.noConfusion q) h (fun M9 h => ?_)
      refine v_aload_n dX12_goOn_46 rfl 2 rfl ?_
      refine v_dup dX12_goOn_47 rfl ?_
      refine x_gI dX12_goOn_48 kf_X12_237 rfl h (fun x10 h => ?_)
      refine v_iconst dX12_goOn_51 ic_1 ?_
      refine v_iadd dX12_goOn_52 ?_
      refine x_pI dX12_goOn_53 kf_X12_237 rfl (fun q => Bool.noConfusion q) h (fun M11 h => ?_)
      refine v_aload_n dX12_goOn_56 rfl 2 rfl ?_
      refine x_inv (cv := cU) (As := []) (rest := []) (ls2 := [(0, .ref v0)]) (ci := 11) (by omega) dX12_goOn_57 ke_X12_partDone kv_X12_265 rfl rfl (by decide) (Nat.le_of_ble_eq_true rfl) rfl rfl rfl rfl h (fun _ hq => s_X12_partDone (by omega) hq) (fun _ M12 h => ?_)
      refine v_iconst dX12_goOn_60 ic_0 ?_
      exact x_zret dX12_goOn_61 rfl h
  · exact V.pick [2, 1, 0] rfl (t_X12_goOn_62 hd_ h)
def j_X12_parse_95 (k40 : Nat → Int32 → jM → jO Unit) (v0 : Nat) (v1 : Int32) (M : jM) : jO Unit :=
  (gI 11 M v0 37).bind fun x1 =>
  if 0 ≤ x1 then
    k40 v0 v1 M
  else
    jb2 (jiv 11 M v0 (f_X12_skip v0 M)) fun _ M2 =>
    k40 v0 v1 M2
theorem t_X12_parse_95 {G : jG} {d : Nat} (hd_ : 4 ≤ d) {k40 : Nat → Int32 → jM → jO Unit} (hk40 : ∀ (w0 : Nat) (w1 : Int32) (M : jM) (b : Unit × jM), k40 w0 w1 M = some b → V G m_X12_parse d 40 [(0, .ref w0), (1, .int w1)] [] M (jQb cU b)) {v0 : Nat} {v1 : Int32} {M : jM} {b : Unit × jM} (h : j_X12_parse_95 k40 v0 v1 M = some b) : V G m_X12_parse d 95 [(0, .ref v0), (1, .int v1)] [] M (jQb cU b) := by
  unfold j_X12_parse_95 at h
  refine v_aload_n dX12_parse_95 rfl 0 rfl ?_
  refine x_gI dX12_parse_96 kf_X12_256 rfl h (fun x1 h => ?_)
  refine x_if_ge (tgt := 40) dX12_parse_99 (by decide) h (fun h => ?_) (fun h => ?_)
  · exact hk40 _ _ _ _ h
  · refine v_aload_n dX12_parse_102 rfl 0 rfl ?_
    refine x_inv (cv := cU) (As := []) (rest := []) (ls2 := [(0, .ref v0)]) (ci := 11) (by omega) dX12_parse_103 ke_X12_skip kv_X12_246 rfl rfl (by decide) (Nat.le_of_ble_eq_true rfl) rfl rfl rfl rfl h (fun _ hq => s_X12_skip (by omega) hq) (fun _ M2 h => ?_)
    refine v_goto (tgt := 40) dX12_parse_106 (by decide) ?_
    exact hk40 _ _ _ _ h
def j_X12_parse_86 (k40 : Nat → Int32 → jM → jO Unit) (v0 : Nat) (s0 : Int32) (M : jM) : jO Unit :=
  j_X12_parse_95 k40 v0 s0 M
theorem t_X12_parse_86 {G : jG} {d : Nat} (hd_ : 4 ≤ d) {k40 : Nat → Int32 → jM → jO Unit} (hk40 : ∀ (w0 : Nat) (w1 : Int32) (M : jM) (b : Unit × jM), k40 w0 w1 M = some b → V G m_X12_parse d 40 [(0, .ref w0), (1, .int w1)] [] M (jQb cU b)) {v0 : Nat} {s0 : Int32} {M : jM} {b : Unit × jM} (h : j_X12_parse_86 k40 v0 s0 M = some b) : V G m_X12_parse d 86 [(0, .ref v0)] [.int s0] M (jQb cU b) := by
  unfold j_X12_parse_86 at h
  refine v_istore_n (ls2 := [(1, .int s0), (0, .ref v0)]) dX12_parse_86 rfl (by decide) rfl ?_
  refine v_goto (tgt := 95) dX12_parse_87 (by decide) ?_
  exact V.pick [1, 0] rfl (t_X12_parse_95 hd_ hk40 h)
def j_X12_parse_70 (k40 : Nat → Int32 → jM → jO Unit) (v0 : Nat) (v1 : Int32) (M : jM) : jO Unit :=
  if v1 = 0 then
    jb2 (jiv 11 M v0 (f_X12_goOn v0 M)) fun x2 M1 =>
    j_X12_parse_95 k40 v0 x2 M1
  else
    jb2 (jiv 11 M v0 (f_X12_beginPart v0 M)) fun x4 M3 =>
    if x4 = 0 then
      j_X12_parse_86 k40 v0 (nI 1) M3
    else
      j_X12_parse_86 k40 v0 (nI 0) M3
theorem t_X12_parse_70 {G : jG} {d : Nat} (hd_ : 4 ≤ d) {k40 : Nat → Int32 → jM → jO Unit} (hk40 : ∀ (w0 : Nat) (w1 : Int32) (M : jM) (b : Unit × jM), k40 w0 w1 M = some b → V G m_X12_parse d 40 [(0, .ref w0), (1, .int w1)] [] M (jQb cU b)) {v0 : Nat} {v1 : Int32} {M : jM} {b : Unit × jM} (h : j_X12_parse_70 k40 v0 v1 M = some b) : V G m_X12_parse d 70 [(0, .ref v0), (1, .int v1)] [] M (jQb cU b) := by
  unfold j_X12_parse_70 at h
  refine v_iload_n dX12_parse_70 rfl 1 rfl ?_
  refine x_if_eq (tgt := 90) dX12_parse_71 (by decide) h (fun h => ?_) (fun h => ?_)
  · refine v_aload_n dX12_parse_90 rfl 0 rfl ?_
    refine x_inv (cv := cI) (As := []) (rest := []) (ls2 := [(0, .ref v0)]) (ci := 11) (by omega) dX12_parse_91 ke_X12_goOn kv_X12_287 rfl rfl (by decide) (Nat.le_of_ble_eq_true rfl) rfl rfl rfl rfl h (fun _ hq => s_X12_goOn (by omega) hq) (fun x2 M1 h => ?_)
    refine v_istore_n (ls2 := [(1, .int x2), (0, .ref v0)]) dX12_parse_94 rfl (by decide) rfl ?_
    exact V.pick [1, 0] rfl (t_X12_parse_95 hd_ hk40 h)
  · refine v_aload_n dX12_parse_74 rfl 0 rfl ?_
    refine x_inv (cv := cI) (As := []) (rest := []) (ls2 := [(0, .ref v0)]) (ci := 11) (by omega) dX12_parse_75 ke_X12_beginPart kv_X12_284 rfl rfl (by decide) (Nat.le_of_ble_eq_true rfl) rfl rfl rfl rfl h (fun _ hq => s_X12_beginPart (by omega) hq) (fun x4 M3 h => ?_)
    refine x_if_ne (tgt := 85) dX12_parse_78 (by decide) h (fun h => ?_) (fun h => ?_)
    · refine v_iconst dX12_parse_81 ic_1 ?_
      refine v_goto (tgt := 86) dX12_parse_82 (by decide) ?_
      exact V.pick [0] rfl (t_X12_parse_86 hd_ hk40 h)
    · refine v_iconst dX12_parse_85 ic_0 ?_
      exact V.pick [0] rfl (t_X12_parse_86 hd_ hk40 h)
def b_X12_parse_40  (k40 : Nat → Int32 → jM → jO Unit) (v0 : Nat) (v1 : Int32) (M : jM) : jO Unit :=
  (gI 11 M v0 37).bind fun x1 =>
  if 0 ≤ x1 then
    rt () M
  else
    if v1 = 0 then
      (gI 11 M v0 29).bind fun x2 =>
      if (nI 1) < x2 then
        j_X12_parse_70 k40 v0 v1 M
      else
        (gI 11 M v0 36).bind fun x3 =>
        (gI 11 M v0 28).bind fun x4 =>
        if x4 ≤ x3 then
          rt () M
        else
          j_X12_parse_70 k40 v0 v1 M
    else
      j_X12_parse_70 k40 v0 v1 M
def l_X12_parse_40  : Nat → Nat → Int32 → jM → jO Unit
  | 0 => fun _ _ _ => none
  | n + 1 => b_X12_parse_40  (l_X12_parse_40  n)
theorem tb_X12_parse_40 {G : jG} {d : Nat} (hd_ : 4 ≤ d)  {k40 : Nat → Int32 → jM → jO Unit} (hk40 : ∀ (w0 : Nat) (w1 : Int32) (M : jM) (b : Unit × jM), k40 w0 w1 M = some b → V G m_X12_parse d 40 [(0, .ref w0), (1, .int w1)] [] M (jQb cU b)) {v0 : Nat} {v1 : Int32} {M : jM} {b : Unit × jM} (h : b_X12_parse_40  k40 v0 v1 M = some b) : V G m_X12_parse d 40 [(0, .ref v0), (1, .int v1)] [] M (jQb cU b) := by
  unfold b_X12_parse_40 at h
  refine v_aload_n dX12_parse_40 rfl 0 rfl ?_
  refine x_gI dX12_parse_41 kf_X12_256 rfl h (fun x1 h => ?_)
  refine x_if_ge (tgt := 109) dX12_parse_44 (by decide) h (fun h => ?_) (fun h => ?_)
  · exact x_vret dX12_parse_109 rfl h
  · refine v_iload_n dX12_parse_47 rfl 1 rfl ?_
    refine x_if_ne (tgt := 70) dX12_parse_48 (by decide) h (fun h => ?_) (fun h => ?_)
    · refine v_aload_n dX12_parse_51 rfl 0 rfl ?_
      refine x_gI dX12_parse_52 kf_X12_240 rfl h (fun x2 h => ?_)
      refine v_iconst dX12_parse_55 ic_1 ?_
      refine x_ic_gt (tgt := 70) dX12_parse_56 (by decide) h (fun h => ?_) (fun h => ?_)
      · exact t_X12_parse_70 hd_ hk40 h
      · refine v_aload_n dX12_parse_59 rfl 0 rfl ?_
        refine x_gI dX12_parse_60 kf_X12_237 rfl h (fun x3 h => ?_)
        refine v_aload_n dX12_parse_63 rfl 0 rfl ?_
        refine x_gI dX12_parse_64 kf_X12_231 rfl h (fun x4 h => ?_)
        refine x_ic_ge (tgt := 109) dX12_parse_67 (by decide) h (fun h => ?_) (fun h => ?_)
        · exact x_vret dX12_parse_109 rfl h
        · exact t_X12_parse_70 hd_ hk40 h
    · exact t_X12_parse_70 hd_ hk40 h
theorem t_X12_parse_40 {G : jG} {d : Nat} (hd_ : 4 ≤ d)  : ∀ (n : Nat) (v0 : Nat) (v1 : Int32) (M : jM) (b : Unit × jM), l_X12_parse_40  n v0 v1 M = some b → V G m_X12_parse d 40 [(0, .ref v0), (1, .int v1)] [] M (jQb cU b) := by
  intro n
  induction n with
  | zero => intro v0 v1 M b h; exact nomatch (show (none : jO Unit) = some b from h)
  | succ n ih => intro v0 v1 M b h; exact tb_X12_parse_40 hd_  ih h
def f_X12_parse (v0 : Nat) (M : jM) : jO Unit :=
  (pI 11 M v0 23 (nI 0)).bind fun M1 =>
  (pI 11 M1 v0 29 (nI 0)).bind fun M2 =>
  (pI 11 M2 v0 33 (nI 0)).bind fun M3 =>
  (pI 11 M3 v0 34 (nI 0)).bind fun M4 =>
  (pI 11 M4 v0 36 (nI 0)).bind fun M5 =>
  (pI 11 M5 v0 37 (-1 : Int32)).bind fun M6 =>
  jb2 (jiv 11 M6 v0 (f_X12_openFormula v0 M6)) fun _ M7 =>
  jb2 (jiv 11 M7 v0 (f_X12_skip v0 M7)) fun _ M8 =>
  l_X12_parse_40 jF0 v0 (nI 1) M8
theorem s_X12_parse {G : jG} {d : Nat} (hd_ : 4 ≤ d) {v0 : Nat} {M : jM} {b : Unit × jM} (h : f_X12_parse  v0 M = some b) : V G m_X12_parse d 0 [(0, .ref v0)] [] M (jQb cU b) := by
  unfold f_X12_parse at h
  refine v_aload_n dX12_parse_0 rfl 0 rfl ?_
  refine v_iconst dX12_parse_1 ic_0 ?_
  refine x_pI dX12_parse_2 kf_X12_234 rfl (fun q => Bool.noConfusion q) h (fun M1 h => ?_)
  refine v_aload_n dX12_parse_5 rfl 0 rfl ?_
  refine v_iconst dX12_parse_6 ic_0 ?_
  refine x_pI dX12_parse_7 kf_X12_240 rfl (fun q => Bool.noConfusion q) h (fun M2 h => ?_)
  refine v_aload_n dX12_parse_10 rfl 0 rfl ?_
  refine v_iconst dX12_parse_11 ic_0 ?_
  refine x_pI dX12_parse_12 kf_X12_243 rfl (fun q => Bool.noConfusion q) h (fun M3 h => ?_)
  refine v_aload_n dX12_parse_15 rfl 0 rfl ?_
  refine v_iconst dX12_parse_16 ic_0 ?_
  refine x_pI dX12_parse_17 kf_X12_253 rfl (fun q => Bool.noConfusion q) h (fun M4 h => ?_)
  refine v_aload_n dX12_parse_20 rfl 0 rfl ?_
  refine v_iconst dX12_parse_21 ic_0 ?_
  refine x_pI dX12_parse_22 kf_X12_237 rfl (fun q => Bool.noConfusion q) h (fun M5 h => ?_)
  refine v_aload_n dX12_parse_25 rfl 0 rfl ?_
  refine v_iconst dX12_parse_26 ic_m1 ?_
  refine x_pI dX12_parse_27 kf_X12_256 rfl (fun q => Bool.noConfusion q) h (fun M6 h => ?_)
  refine v_aload_n dX12_parse_30 rfl 0 rfl ?_
  refine x_inv (cv := cU) (As := []) (rest := []) (ls2 := [(0, .ref v0)]) (ci := 11) (by omega) dX12_parse_31 ke_X12_openFormula kv_X12_272 rfl rfl (by decide) (Nat.le_of_ble_eq_true rfl) rfl rfl rfl rfl h (fun _ hq => s_X12_openFormula (by omega) hq) (fun _ M7 h => ?_)
  refine v_iconst dX12_parse_34 ic_1 ?_
  refine v_istore_n (ls2 := [(1, .int (nI 1)), (0, .ref v0)]) dX12_parse_35 rfl (by decide) rfl ?_
  refine v_aload_n dX12_parse_36 rfl 1 rfl ?_
  refine x_inv (cv := cU) (As := []) (rest := []) (ls2 := [(0, .ref v0)]) (ci := 11) (by omega) dX12_parse_37 ke_X12_skip kv_X12_246 rfl rfl (by decide) (Nat.le_of_ble_eq_true rfl) rfl rfl rfl rfl h (fun _ hq => s_X12_skip (by omega) hq) (fun _ M8 h => ?_)
  exact V.pick [1, 0] rfl (t_X12_parse_40 hd_ _ _ _ _ _ h)
def j_X12_read_43   (M : jM) : jO Int32 :=
  rt (-4 : Int32) M
theorem t_X12_read_43 {G : jG} {d : Nat} (hd_ : 5 ≤ d)   {M : jM} {b : Int32 × jM} (h : j_X12_read_43   M = some b) : V G m_X12_read d 43 [] [] M (jQb cI b) := by
  unfold j_X12_read_43 at h
  refine v_bipush dX12_read_43 bp_m4 ?_
  refine v_goto (tgt := 52) dX12_read_45 (by decide) ?_
  exact x_iret dX12_read_52 rfl h
def f_X12_read (v0 : Nat) (M : jM) : jO Int32 :=
  jb2 (jiv 11 M v0 (f_X12_parse v0 M)) fun _ M1 =>
  (pI 11 M1 v0 28 (nI 0)).bind fun M2 =>
  (gI 11 M2 v0 37).bind fun x3 =>
  if x3 < 0 then
    (gI 11 M2 v0 23).bind fun x4 =>
    if (nI 600) < x4 then
      j_X12_read_43 M2
    else
      (gI 11 M2 v0 17).bind fun x5 =>
      if x5 = (nI 20) then
        j_X12_read_43 M2
      else
        jb2 (jiv 11 M2 v0 (f_X12_keep v0 M2)) fun x7 M6 =>
        rt x7 M6
  else
    (gI 11 M2 v0 37).bind fun x8 =>
    rt ((-20 : Int32) - x8) M2
theorem s_X12_read {G : jG} {d : Nat} (hd_ : 5 ≤ d) {v0 : Nat} {M : jM} {b : Int32 × jM} (h : f_X12_read  v0 M = some b) : V G m_X12_read d 0 [(0, .ref v0)] [] M (jQb cI b) := by
  unfold f_X12_read at h
  refine v_aload_n dX12_read_0 rfl 0 rfl ?_
  refine x_inv (cv := cU) (As := []) (rest := []) (ls2 := [(0, .ref v0)]) (ci := 11) (by omega) dX12_read_1 ke_X12_parse kv_X12_296 rfl rfl (by decide) (Nat.le_of_ble_eq_true rfl) rfl rfl rfl rfl h (fun _ hq => s_X12_parse (by omega) hq) (fun _ M1 h => ?_)
  refine v_aload_n dX12_read_4 rfl 0 rfl ?_
  refine v_iconst dX12_read_5 ic_0 ?_
  refine x_pI dX12_read_6 kf_X12_231 rfl (fun q => Bool.noConfusion q) h (fun M2 h => ?_)
  refine v_aload_n dX12_read_9 rfl 0 rfl ?_
  refine x_gI dX12_read_10 kf_X12_256 rfl h (fun x3 h => ?_)
  refine x_if_lt (tgt := 24) dX12_read_13 (by decide) h (fun h => ?_) (fun h => ?_)
  · refine v_aload_n dX12_read_24 rfl 0 rfl ?_
    refine x_gI dX12_read_25 kf_X12_234 rfl h (fun x4 h => ?_)
    refine v_sipush dX12_read_28 sp_600 ?_
    refine x_ic_gt (tgt := 43) dX12_read_31 (by decide) h (fun h => ?_) (fun h => ?_)
    · exact V.pick [] rfl (t_X12_read_43 hd_ h)
    · refine v_aload_n dX12_read_34 rfl 0 rfl ?_
      refine x_gI dX12_read_35 kf_X12_290 rfl h (fun x5 h => ?_)
      refine v_bipush dX12_read_38 bp_20 ?_
      refine x_ic_ne (tgt := 48) dX12_read_40 (by decide) h (fun h => ?_) (fun h => ?_)
      · exact V.pick [] rfl (t_X12_read_43 hd_ h)
      · refine v_aload_n dX12_read_48 rfl 0 rfl ?_
        refine x_inv (cv := cI) (As := []) (rest := []) (ls2 := [(0, .ref v0)]) (ci := 11) (by omega) dX12_read_49 ke_X12_keep kv_X12_299 rfl rfl (by decide) (Nat.le_of_ble_eq_true rfl) rfl rfl rfl rfl h (fun _ hq => s_X12_keep (by omega) hq) (fun x7 M6 h => ?_)
        exact x_iret dX12_read_52 rfl h
  · refine v_bipush dX12_read_16 bp_m20 ?_
    refine v_aload_n dX12_read_18 rfl 0 rfl ?_
    refine x_gI dX12_read_19 kf_X12_256 rfl h (fun x8 h => ?_)
    refine v_isub dX12_read_22 ?_
    exact x_iret dX12_read_23 rfl h
def j_X12_same_133 (k42 : Nat → Int32 → Int32 → Int32 → Int32 → jM → jO Int32) (v0 : Nat) (v1 : Int32) (v2 : Int32) (v4 : Int32) (s0 : Int32) (M : jM) : jO Int32 :=
  k42 v0 v1 v2 s0 (v4 + (nI 1)) M
theorem t_X12_same_133 {G : jG} {d : Nat} (hd_ : 2 ≤ d) {k42 : Nat → Int32 → Int32 → Int32 → Int32 → jM → jO Int32} (hk42 : ∀ (w0 : Nat) (w1 : Int32) (w2 : Int32) (w3 : Int32) (w4 : Int32) (M : jM) (b : Int32 × jM), k42 w0 w1 w2 w3 w4 M = some b → V G m_X12_same d 42 [(0, .ref w0), (1, .int w1), (2, .int w2), (3, .int w3), (4, .int w4)] [] M (jQb cI b)) {v0 : Nat} {v1 : Int32} {v2 : Int32} {v4 : Int32} {s0 : Int32} {M : jM} {b : Int32 × jM} (h : j_X12_same_133 k42 v0 v1 v2 v4 s0 M = some b) : V G m_X12_same d 133 [(0, .ref v0), (1, .int v1), (2, .int v2), (4, .int v4)] [.int s0] M (jQb cI b) := by
  unfold j_X12_same_133 at h
  refine v_istore_n (ls2 := [(3, .int s0), (0, .ref v0), (1, .int v1), (2, .int v2), (4, .int v4)]) dX12_same_133 rfl (by decide) rfl ?_
  refine v_iincC (ls2 := [(4, .int (v4 + (nI 1))), (3, .int s0), (0, .ref v0), (1, .int v1), (2, .int v2)]) dX12_same_134 ic_1 4 rfl (by decide) rfl ?_
  refine v_goto (tgt := 42) dX12_same_137 (by decide) ?_
  exact V.pick [2, 3, 4, 1, 0] rfl (hk42 _ _ _ _ _ _ _ h)
def j_X12_same_132 (k42 : Nat → Int32 → Int32 → Int32 → Int32 → jM → jO Int32) (v0 : Nat) (v1 : Int32) (v2 : Int32) (v4 : Int32) (M : jM) : jO Int32 :=
  j_X12_same_133 k42 v0 v1 v2 v4 (nI 0) M
theorem t_X12_same_132 {G : jG} {d : Nat} (hd_ : 2 ≤ d) {k42 : Nat → Int32 → Int32 → Int32 → Int32 → jM → jO Int32} (hk42 : ∀ (w0 : Nat) (w1 : Int32) (w2 : Int32) (w3 : Int32) (w4 : Int32) (M : jM) (b : Int32 × jM), k42 w0 w1 w2 w3 w4 M = some b → V G m_X12_same d 42 [(0, .ref w0), (1, .int w1), (2, .int w2), (3, .int w3), (4, .int w4)] [] M (jQb cI b)) {v0 : Nat} {v1 : Int32} {v2 : Int32} {v4 : Int32} {M : jM} {b : Int32 × jM} (h : j_X12_same_132 k42 v0 v1 v2 v4 M = some b) : V G m_X12_same d 132 [(0, .ref v0), (1, .int v1), (2, .int v2), (4, .int v4)] [] M (jQb cI b) := by
  unfold j_X12_same_132 at h
  refine v_iconst dX12_same_132 ic_0 ?_
  exact t_X12_same_133 hd_ hk42 h
def j_X12_same_140  (v3 : Int32) (M : jM) : jO Int32 :=
  if v3 = 0 then
    rt (nI 0) M
  else
    rt (nI 1) M
theorem t_X12_same_140 {G : jG} {d : Nat} (hd_ : 2 ≤ d)  {v3 : Int32} {M : jM} {b : Int32 × jM} (h : j_X12_same_140  v3 M = some b) : V G m_X12_same d 140 [(3, .int v3)] [] M (jQb cI b) := by
  unfold j_X12_same_140 at h
  refine v_iload_n dX12_same_140 rfl 0 rfl ?_
  refine x_if_eq (tgt := 148) dX12_same_141 (by decide) h (fun h => ?_) (fun h => ?_)
  · refine v_iconst dX12_same_148 ic_0 ?_
    exact x_iret dX12_same_149 rfl h
  · refine v_iconst dX12_same_144 ic_1 ?_
    refine v_goto (tgt := 149) dX12_same_145 (by decide) ?_
    exact x_iret dX12_same_149 rfl h
def b_X12_same_42  (k42 : Nat → Int32 → Int32 → Int32 → Int32 → jM → jO Int32) (v0 : Nat) (v1 : Int32) (v2 : Int32) (v3 : Int32) (v4 : Int32) (M : jM) : jO Int32 :=
  (gR 11 M v0 18).bind fun r1 =>
  (ldI M r1 v1).bind fun x2 =>
  if x2 ≤ v4 then
    j_X12_same_140 v3 M
  else
    if v3 = 0 then
      j_X12_same_140 v3 M
    else
      (jv (((nI 600) * v1) + v4)).bind fun y3 =>
      (jv (((nI 600) * v2) + v4)).bind fun y4 =>
      (gR 11 M v0 19).bind fun r5 =>
      (ldB M r5 y3).bind fun x6 =>
      (gR 11 M v0 19).bind fun r7 =>
      (ldB M r7 y4).bind fun x8 =>
      if x6 = x8 then
        (gR 11 M v0 20).bind fun r9 =>
        (ldI M r9 y3).bind fun x10 =>
        (gR 11 M v0 20).bind fun r11 =>
        (ldI M r11 y4).bind fun x12 =>
        if x10 = x12 then
          (gR 11 M v0 21).bind fun r13 =>
          (ldB M r13 y3).bind fun x14 =>
          (gR 11 M v0 21).bind fun r15 =>
          (ldB M r15 y4).bind fun x16 =>
          if x14 = x16 then
            j_X12_same_133 k42 v0 v1 v2 v4 (nI 1) M
          else
            j_X12_same_132 k42 v0 v1 v2 v4 M
        else
          j_X12_same_132 k42 v0 v1 v2 v4 M
      else
        j_X12_same_132 k42 v0 v1 v2 v4 M
def l_X12_same_42  : Nat → Nat → Int32 → Int32 → Int32 → Int32 → jM → jO Int32
  | 0 => fun _ _ _ _ _ _ => none
  | n + 1 => b_X12_same_42  (l_X12_same_42  n)
theorem tb_X12_same_42 {G : jG} {d : Nat} (hd_ : 2 ≤ d)  {k42 : Nat → Int32 → Int32 → Int32 → Int32 → jM → jO Int32} (hk42 : ∀ (w0 : Nat) (w1 : Int32) (w2 : Int32) (w3 : Int32) (w4 : Int32) (M : jM) (b : Int32 × jM), k42 w0 w1 w2 w3 w4 M = some b → V G m_X12_same d 42 [(0, .ref w0), (1, .int w1), (2, .int w2), (3, .int w3), (4, .int w4)] [] M (jQb cI b)) {v0 : Nat} {v1 : Int32} {v2 : Int32} {v3 : Int32} {v4 : Int32} {M : jM} {b : Int32 × jM} (h : b_X12_same_42  k42 v0 v1 v2 v3 v4 M = some b) : V G m_X12_same d 42 [(0, .ref v0), (1, .int v1), (2, .int v2), (3, .int v3), (4, .int v4)] [] M (jQb cI b) := by
  unfold b_X12_same_42 at h
  refine v_iload dX12_same_42 4 rfl ?_
  refine v_aload_n dX12_same_44 rfl 0 rfl ?_
  refine x_gR dX12_same_45 kf_X12_37 rfl h (fun r1 h => ?_)
  refine v_iload_n dX12_same_48 rfl 1 rfl ?_
  refine x_ldI dX12_same_49 h (fun x2 h => ?_)
  refine x_ic_ge (tgt := 140) dX12_same_50 (by decide) h (fun h => ?_) (fun h => ?_)
  · exact V.pick [3] rfl (t_X12_same_140 hd_ h)
  · refine v_iload_n dX12_same_53 rfl 3 rfl ?_
    refine x_if_eq (tgt := 140) dX12_same_54 (by decide) h (fun h => ?_) (fun h => ?_)
    · exact V.pick [3] rfl (t_X12_same_140 hd_ h)
    · refine v_sipush dX12_same_57 sp_600 ?_
      refine v_iload_n dX12_same_60 rfl 1 rfl ?_
      refine v_imul dX12_same_61 ?_
      refine v_iload dX12_same_62 4 rfl ?_
      refine v_iadd dX12_same_64 ?_
      refine x_jvI h (fun y3 h => ?_)
      refine v_istore (ls2 := [(5, .int y3), (0, .ref v0), (1, .int v1), (2, .int v2), (3, .int v3), (4, .int v4)]) dX12_same_65 (by decide) rfl ?_
      refine v_sipush dX12_same_67 sp_600 ?_
      refine v_iload_n dX12_same_70 rfl 3 rfl ?_
      refine v_imul dX12_same_71 ?_
      refine v_iload dX12_same_72 5 rfl ?_
      refine v_iadd dX12_same_74 ?_
      refine x_jvI h (fun y4 h => ?_)
      refine v_istore (ls2 := [(6, .int y4), (5, .int y3), (0, .ref v0), (1, .int v1), (2, .int v2), (3, .int v3), (4, .int v4)]) dX12_same_75 (by decide) rfl ?_
      refine v_aload_n dX12_same_77 rfl 2 rfl ?_
      refine x_gR dX12_same_78 kf_X12_40 rfl h (fun r5 h => ?_)
      refine v_iload dX12_same_81 1 rfl ?_
      refine x_ldB dX12_same_83 h (fun x6 h => ?_)
      refine v_aload_n dX12_same_84 rfl 2 rfl ?_
      refine x_gR dX12_same_85 kf_X12_40 rfl h (fun r7 h => ?_)
      refine v_iload dX12_same_88 0 rfl ?_
      refine x_ldB dX12_same_90 h (fun x8 h => ?_)
      refine x_ic_ne (tgt := 132) dX12_same_91 (by decide) h (fun h => ?_) (fun h => ?_)
      · refine v_aload_n dX12_same_94 rfl 2 rfl ?_
        refine x_gR dX12_same_95 kf_X12_44 rfl h (fun r9 h => ?_)
        refine v_iload dX12_same_98 1 rfl ?_
        refine x_ldI dX12_same_100 h (fun x10 h => ?_)
        refine v_aload_n dX12_same_101 rfl 2 rfl ?_
        refine x_gR dX12_same_102 kf_X12_44 rfl h (fun r11 h => ?_)
        refine v_iload dX12_same_105 0 rfl ?_
        refine x_ldI dX12_same_107 h (fun x12 h => ?_)
        refine x_ic_ne (tgt := 132) dX12_same_108 (by decide) h (fun h => ?_) (fun h => ?_)
        · refine v_aload_n dX12_same_111 rfl 2 rfl ?_
          refine x_gR dX12_same_112 kf_X12_47 rfl h (fun r13 h => ?_)
          refine v_iload dX12_same_115 1 rfl ?_
          refine x_ldB dX12_same_117 h (fun x14 h => ?_)
          refine v_aload_n dX12_same_118 rfl 2 rfl ?_
          refine x_gR dX12_same_119 kf_X12_47 rfl h (fun r15 h => ?_)
          refine v_iload dX12_same_122 0 rfl ?_
          refine x_ldB dX12_same_124 h (fun x16 h => ?_)
          refine x_ic_ne (tgt := 132) dX12_same_125 (by decide) h (fun h => ?_) (fun h => ?_)
          · refine v_iconst dX12_same_128 ic_1 ?_
            refine v_goto (tgt := 133) dX12_same_129 (by decide) ?_
            exact V.pick [2, 3, 4, 6] rfl (t_X12_same_133 hd_ hk42 h)
          · exact V.pick [2, 3, 4, 6] rfl (t_X12_same_132 hd_ hk42 h)
        · exact V.pick [2, 3, 4, 6] rfl (t_X12_same_132 hd_ hk42 h)
      · exact V.pick [2, 3, 4, 6] rfl (t_X12_same_132 hd_ hk42 h)
theorem t_X12_same_42 {G : jG} {d : Nat} (hd_ : 2 ≤ d)  : ∀ (n : Nat) (v0 : Nat) (v1 : Int32) (v2 : Int32) (v3 : Int32) (v4 : Int32) (M : jM) (b : Int32 × jM), l_X12_same_42  n v0 v1 v2 v3 v4 M = some b → V G m_X12_same d 42 [(0, .ref v0), (1, .int v1), (2, .int v2), (3, .int v3), (4, .int v4)] [] M (jQb cI b) := by
  intro n
  induction n with
  | zero => intro v0 v1 v2 v3 v4 M b h; exact nomatch (show (none : jO Int32) = some b from h)
  | succ n ih => intro v0 v1 v2 v3 v4 M b h; exact tb_X12_same_42 hd_  ih h
def j_X12_same_38  (v0 : Nat) (v1 : Int32) (v2 : Int32) (s0 : Int32) (M : jM) : jO Int32 :=
  l_X12_same_42 jF0 v0 v1 v2 s0 (nI 0) M
theorem t_X12_same_38 {G : jG} {d : Nat} (hd_ : 2 ≤ d)  {v0 : Nat} {v1 : Int32} {v2 : Int32} {s0 : Int32} {M : jM} {b : Int32 × jM} (h : j_X12_same_38  v0 v1 v2 s0 M = some b) : V G m_X12_same d 38 [(0, .ref v0), (1, .int v1), (2, .int v2)] [.int s0] M (jQb cI b) := by
  unfold j_X12_same_38 at h
  refine v_istore_n (ls2 := [(3, .int s0), (0, .ref v0), (1, .int v1), (2, .int v2)]) dX12_same_38 rfl (by decide) rfl ?_
  refine v_iconst dX12_same_39 ic_0 ?_
  refine v_istore (ls2 := [(4, .int (nI 0)), (3, .int s0), (0, .ref v0), (1, .int v1), (2, .int v2)]) dX12_same_40 (by decide) rfl ?_
  exact V.pick [2, 3, 4, 1, 0] rfl (t_X12_same_42 hd_ _ _ _ _ _ _ _ _ h)
def f_X12_same (v0 : Nat) (v1 : Int32) (v2 : Int32) (M : jM) : jO Int32 :=
  jb2 (jiv 11 M v0 (f_X12_noSentence v0 v1 M)) fun x2 M1 =>
  if x2 = 0 then
    jb2 (jiv 11 M1 v0 (f_X12_noSentence v0 v2 M1)) fun x4 M3 =>
    if x4 = 0 then
      (gR 11 M3 v0 18).bind fun r5 =>
      (ldI M3 r5 v1).bind fun x6 =>
      (gR 11 M3 v0 18).bind fun r7 =>
      (ldI M3 r7 v2).bind fun x8 =>
      if x6 = x8 then
        j_X12_same_38 v0 v1 v2 (nI 1) M3
      else
        j_X12_same_38 v0 v1 v2 (nI 0) M3
    else
      rt (-1 : Int32) M3
  else
    rt (-1 : Int32) M1
theorem s_X12_same {G : jG} {d : Nat} (hd_ : 2 ≤ d) {v0 : Nat} {v1 : Int32} {v2 : Int32} {M : jM} {b : Int32 × jM} (h : f_X12_same  v0 v1 v2 M = some b) : V G m_X12_same d 0 [(0, .ref v0), (1, .int v1), (2, .int v2)] [] M (jQb cI b) := by
  unfold f_X12_same at h
  refine v_aload_n dX12_same_0 rfl 0 rfl ?_
  refine v_iload_n dX12_same_1 rfl 1 rfl ?_
  refine x_inv (cv := cI) (As := [.int v1]) (rest := []) (ls2 := [(0, .ref v0), (1, .int v1)]) (ci := 11) (by omega) dX12_same_2 ke_X12_noSentence kv_X12_317 rfl rfl (by decide) (Nat.le_of_ble_eq_true rfl) rfl rfl rfl rfl h (fun _ hq => s_X12_noSentence (by omega) hq) (fun x2 M1 h => ?_)
  refine x_if_ne (tgt := 16) dX12_same_5 (by decide) h (fun h => ?_) (fun h => ?_)
  · refine v_aload_n dX12_same_8 rfl 0 rfl ?_
    refine v_iload_n dX12_same_9 rfl 2 rfl ?_
    refine x_inv (cv := cI) (As := [.int v2]) (rest := []) (ls2 := [(0, .ref v0), (1, .int v2)]) (ci := 11) (by omega) dX12_same_10 ke_X12_noSentence kv_X12_317 rfl rfl (by decide) (Nat.le_of_ble_eq_true rfl) rfl rfl rfl rfl h (fun _ hq => s_X12_noSentence (by omega) hq) (fun x4 M3 h => ?_)
    refine x_if_eq (tgt := 18) dX12_same_13 (by decide) h (fun h => ?_) (fun h => ?_)
    · refine v_aload_n dX12_same_18 rfl 0 rfl ?_
      refine x_gR dX12_same_19 kf_X12_37 rfl h (fun r5 h => ?_)
      refine v_iload_n dX12_same_22 rfl 1 rfl ?_
      refine x_ldI dX12_same_23 h (fun x6 h => ?_)
      refine v_aload_n dX12_same_24 rfl 0 rfl ?_
      refine x_gR dX12_same_25 kf_X12_37 rfl h (fun r7 h => ?_)
      refine v_iload_n dX12_same_28 rfl 2 rfl ?_
      refine x_ldI dX12_same_29 h (fun x8 h => ?_)
      refine x_ic_ne (tgt := 37) dX12_same_30 (by decide) h (fun h => ?_) (fun h => ?_)
      · refine v_iconst dX12_same_33 ic_1 ?_
        refine v_goto (tgt := 38) dX12_same_34 (by decide) ?_
        exact t_X12_same_38 hd_ h
      · refine v_iconst dX12_same_37 ic_0 ?_
        exact t_X12_same_38 hd_ h
    · refine v_iconst dX12_same_16 ic_m1 ?_
      exact x_iret dX12_same_17 rfl h
  · refine v_iconst dX12_same_16 ic_m1 ?_
    exact x_iret dX12_same_17 rfl h
def j_X12_depthOf_82 (k11 : Nat → Int32 → Int32 → Int32 → Int32 → jM → jO Int32) (k28 : Nat → Int32 → Int32 → Int32 → Int32 → Int32 → Int32 → jM → jO Int32) (v0 : Nat) (v1 : Int32) (v2 : Int32) (v3 : Int32) (v4 : Int32) (v6 : Int32) (s0 : Int32) (s1 : Int32) (M : jM) : jO Int32 :=
  (jv (s0 + s1)).bind fun y1 =>
  k28 v0 v1 v2 v3 v4 y1 (v6 + (nI 1)) M
theorem t_X12_depthOf_82 {G : jG} {d : Nat} (hd_ : 0 ≤ d) {k11 : Nat → Int32 → Int32 → Int32 → Int32 → jM → jO Int32} (hk11 : ∀ (w0 : Nat) (w1 : Int32) (w2 : Int32) (w3 : Int32) (w4 : Int32) (M : jM) (b : Int32 × jM), k11 w0 w1 w2 w3 w4 M = some b → V G m_X12_depthOf d 11 [(0, .ref w0), (1, .int w1), (2, .int w2), (3, .int w3), (4, .int w4)] [] M (jQb cI b)) {k28 : Nat → Int32 → Int32 → Int32 → Int32 → Int32 → Int32 → jM → jO Int32} (hk28 : ∀ (w0 : Nat) (w1 : Int32) (w2 : Int32) (w3 : Int32) (w4 : Int32) (w5 : Int32) (w6 : Int32) (M : jM) (b : Int32 × jM), k28 w0 w1 w2 w3 w4 w5 w6 M = some b → V G m_X12_depthOf d 28 [(0, .ref w0), (1, .int w1), (2, .int w2), (3, .int w3), (4, .int w4), (5, .int w5), (6, .int w6)] [] M (jQb cI b)) {v0 : Nat} {v1 : Int32} {v2 : Int32} {v3 : Int32} {v4 : Int32} {v6 : Int32} {s0 : Int32} {s1 : Int32} {M : jM} {b : Int32 × jM} (h : j_X12_depthOf_82 k11 k28 v0 v1 v2 v3 v4 v6 s0 s1 M = some b) : V G m_X12_depthOf d 82 [(0, .ref v0), (1, .int v1), (2, .int v2), (3, .int v3), (4, .int v4), (6, .int v6)] [.int s1, .int s0] M (jQb cI b) := by
  unfold j_X12_depthOf_82 at h
  refine v_iadd dX12_depthOf_82 ?_
  refine x_jvI h (fun y1 h => ?_)
  refine v_istore (ls2 := [(5, .int y1), (0, .ref v0), (1, .int v1), (2, .int v2), (3, .int v3), (4, .int v4), (6, .int v6)]) dX12_depthOf_83 (by decide) rfl ?_
  refine v_iincC (ls2 := [(6, .int (v6 + (nI 1))), (5, .int y1), (0, .ref v0), (1, .int v1), (2, .int v2), (3, .int v3), (4, .int v4)]) dX12_depthOf_85 ic_1 6 rfl (by decide) rfl ?_
  refine v_goto (tgt := 28) dX12_depthOf_88 (by decide) ?_
  exact V.pick [2, 3, 4, 5, 6, 1, 0] rfl (hk28 _ _ _ _ _ _ _ _ _ h)
def j_X12_depthOf_81 (k11 : Nat → Int32 → Int32 → Int32 → Int32 → jM → jO Int32) (k28 : Nat → Int32 → Int32 → Int32 → Int32 → Int32 → Int32 → jM → jO Int32) (v0 : Nat) (v1 : Int32) (v2 : Int32) (v3 : Int32) (v4 : Int32) (v6 : Int32) (s0 : Int32) (M : jM) : jO Int32 :=
  j_X12_depthOf_82 k11 k28 v0 v1 v2 v3 v4 v6 s0 (nI 0) M
theorem t_X12_depthOf_81 {G : jG} {d : Nat} (hd_ : 0 ≤ d) {k11 : Nat → Int32 → Int32 → Int32 → Int32 → jM → jO Int32} (hk11 : ∀ (w0 : Nat) (w1 : Int32) (w2 : Int32) (w3 : Int32) (w4 : Int32) (M : jM) (b : Int32 × jM), k11 w0 w1 w2 w3 w4 M = some b → V G m_X12_depthOf d 11 [(0, .ref w0), (1, .int w1), (2, .int w2), (3, .int w3), (4, .int w4)] [] M (jQb cI b)) {k28 : Nat → Int32 → Int32 → Int32 → Int32 → Int32 → Int32 → jM → jO Int32} (hk28 : ∀ (w0 : Nat) (w1 : Int32) (w2 : Int32) (w3 : Int32) (w4 : Int32) (w5 : Int32) (w6 : Int32) (M : jM) (b : Int32 × jM), k28 w0 w1 w2 w3 w4 w5 w6 M = some b → V G m_X12_depthOf d 28 [(0, .ref w0), (1, .int w1), (2, .int w2), (3, .int w3), (4, .int w4), (5, .int w5), (6, .int w6)] [] M (jQb cI b)) {v0 : Nat} {v1 : Int32} {v2 : Int32} {v3 : Int32} {v4 : Int32} {v6 : Int32} {s0 : Int32} {M : jM} {b : Int32 × jM} (h : j_X12_depthOf_81 k11 k28 v0 v1 v2 v3 v4 v6 s0 M = some b) : V G m_X12_depthOf d 81 [(0, .ref v0), (1, .int v1), (2, .int v2), (3, .int v3), (4, .int v4), (6, .int v6)] [.int s0] M (jQb cI b) := by
  unfold j_X12_depthOf_81 at h
  refine v_iconst dX12_depthOf_81 ic_0 ?_
  exact t_X12_depthOf_82 hd_ hk11 hk28 h
def j_X12_depthOf_63 (k11 : Nat → Int32 → Int32 → Int32 → Int32 → jM → jO Int32) (k28 : Nat → Int32 → Int32 → Int32 → Int32 → Int32 → Int32 → jM → jO Int32) (v0 : Nat) (v1 : Int32) (v2 : Int32) (v3 : Int32) (v4 : Int32) (v6 : Int32) (s0 : Int32) (M : jM) : jO Int32 :=
  (gR 11 M v0 22).bind fun r1 =>
  (ldI M r1 (v2 + v6)).bind fun x2 =>
  if x2 ≤ v4 then
    j_X12_depthOf_81 k11 k28 v0 v1 v2 v3 v4 v6 s0 M
  else
    j_X12_depthOf_82 k11 k28 v0 v1 v2 v3 v4 v6 s0 (nI 1) M
theorem t_X12_depthOf_63 {G : jG} {d : Nat} (hd_ : 0 ≤ d) {k11 : Nat → Int32 → Int32 → Int32 → Int32 → jM → jO Int32} (hk11 : ∀ (w0 : Nat) (w1 : Int32) (w2 : Int32) (w3 : Int32) (w4 : Int32) (M : jM) (b : Int32 × jM), k11 w0 w1 w2 w3 w4 M = some b → V G m_X12_depthOf d 11 [(0, .ref w0), (1, .int w1), (2, .int w2), (3, .int w3), (4, .int w4)] [] M (jQb cI b)) {k28 : Nat → Int32 → Int32 → Int32 → Int32 → Int32 → Int32 → jM → jO Int32} (hk28 : ∀ (w0 : Nat) (w1 : Int32) (w2 : Int32) (w3 : Int32) (w4 : Int32) (w5 : Int32) (w6 : Int32) (M : jM) (b : Int32 × jM), k28 w0 w1 w2 w3 w4 w5 w6 M = some b → V G m_X12_depthOf d 28 [(0, .ref w0), (1, .int w1), (2, .int w2), (3, .int w3), (4, .int w4), (5, .int w5), (6, .int w6)] [] M (jQb cI b)) {v0 : Nat} {v1 : Int32} {v2 : Int32} {v3 : Int32} {v4 : Int32} {v6 : Int32} {s0 : Int32} {M : jM} {b : Int32 × jM} (h : j_X12_depthOf_63 k11 k28 v0 v1 v2 v3 v4 v6 s0 M = some b) : V G m_X12_depthOf d 63 [(0, .ref v0), (1, .int v1), (2, .int v2), (3, .int v3), (4, .int v4), (6, .int v6)] [.int s0] M (jQb cI b) := by
  unfold j_X12_depthOf_63 at h
  refine v_aload_n dX12_depthOf_63 rfl 0 rfl ?_
  refine x_gR dX12_depthOf_64 kf_X12_50 rfl h (fun r1 h => ?_)
  refine v_iload_n dX12_depthOf_67 rfl 2 rfl ?_
  refine v_iload dX12_depthOf_68 5 rfl ?_
  refine v_iadd dX12_depthOf_70 ?_
  refine x_ldI dX12_depthOf_71 h (fun x2 h => ?_)
  refine v_iload dX12_depthOf_72 4 rfl ?_
  refine x_ic_le (tgt := 81) dX12_depthOf_74 (by decide) h (fun h => ?_) (fun h => ?_)
  · exact t_X12_depthOf_81 hd_ hk11 hk28 h
  · refine v_iconst dX12_depthOf_77 ic_1 ?_
    refine v_goto (tgt := 82) dX12_depthOf_78 (by decide) ?_
    exact t_X12_depthOf_82 hd_ hk11 hk28 h
def j_X12_depthOf_103 (k11 : Nat → Int32 → Int32 → Int32 → Int32 → jM → jO Int32) (v0 : Nat) (v1 : Int32) (v2 : Int32) (v4 : Int32) (s0 : Int32) (M : jM) : jO Int32 :=
  k11 v0 v1 v2 s0 (v4 + (nI 1)) M
theorem t_X12_depthOf_103 {G : jG} {d : Nat} (hd_ : 0 ≤ d) {k11 : Nat → Int32 → Int32 → Int32 → Int32 → jM → jO Int32} (hk11 : ∀ (w0 : Nat) (w1 : Int32) (w2 : Int32) (w3 : Int32) (w4 : Int32) (M : jM) (b : Int32 × jM), k11 w0 w1 w2 w3 w4 M = some b → V G m_X12_depthOf d 11 [(0, .ref w0), (1, .int w1), (2, .int w2), (3, .int w3), (4, .int w4)] [] M (jQb cI b)) {v0 : Nat} {v1 : Int32} {v2 : Int32} {v4 : Int32} {s0 : Int32} {M : jM} {b : Int32 × jM} (h : j_X12_depthOf_103 k11 v0 v1 v2 v4 s0 M = some b) : V G m_X12_depthOf d 103 [(0, .ref v0), (1, .int v1), (2, .int v2), (4, .int v4)] [.int s0] M (jQb cI b) := by
  unfold j_X12_depthOf_103 at h
  refine v_istore_n (ls2 := [(3, .int s0), (0, .ref v0), (1, .int v1), (2, .int v2), (4, .int v4)]) dX12_depthOf_103 rfl (by decide) rfl ?_
  refine v_iincC (ls2 := [(4, .int (v4 + (nI 1))), (3, .int s0), (0, .ref v0), (1, .int v1), (2, .int v2)]) dX12_depthOf_104 ic_1 4 rfl (by decide) rfl ?_
  refine v_goto (tgt := 11) dX12_depthOf_107 (by decide) ?_
  exact V.pick [2, 3, 4, 1, 0] rfl (hk11 _ _ _ _ _ _ _ h)
def b_X12_depthOf_28 (k11 : Nat → Int32 → Int32 → Int32 → Int32 → jM → jO Int32) (k28 : Nat → Int32 → Int32 → Int32 → Int32 → Int32 → Int32 → jM → jO Int32) (v0 : Nat) (v1 : Int32) (v2 : Int32) (v3 : Int32) (v4 : Int32) (v5 : Int32) (v6 : Int32) (M : jM) : jO Int32 :=
  if v4 < v6 then
    if v5 ≤ v3 then
      j_X12_depthOf_103 k11 v0 v1 v2 v4 v3 M
    else
      j_X12_depthOf_103 k11 v0 v1 v2 v4 v5 M
  else
    (gR 11 M v0 19).bind fun r1 =>
    (ldB M r1 (v2 + v6)).bind fun x2 =>
    if x2 = (nI 2) then
      j_X12_depthOf_63 k11 k28 v0 v1 v2 v3 v4 v6 v5 M
    else
      (gR 11 M v0 19).bind fun r3 =>
      (ldB M r3 (v2 + v6)).bind fun x4 =>
      if x4 = (nI 3) then
        j_X12_depthOf_63 k11 k28 v0 v1 v2 v3 v4 v6 v5 M
      else
        j_X12_depthOf_81 k11 k28 v0 v1 v2 v3 v4 v6 v5 M
def l_X12_depthOf_28 (k11 : Nat → Int32 → Int32 → Int32 → Int32 → jM → jO Int32) : Nat → Nat → Int32 → Int32 → Int32 → Int32 → Int32 → Int32 → jM → jO Int32
  | 0 => fun _ _ _ _ _ _ _ _ => none
  | n + 1 => b_X12_depthOf_28 k11 (l_X12_depthOf_28 k11 n)
theorem tb_X12_depthOf_28 {G : jG} {d : Nat} (hd_ : 0 ≤ d) {k11 : Nat → Int32 → Int32 → Int32 → Int32 → jM → jO Int32} (hk11 : ∀ (w0 : Nat) (w1 : Int32) (w2 : Int32) (w3 : Int32) (w4 : Int32) (M : jM) (b : Int32 × jM), k11 w0 w1 w2 w3 w4 M = some b → V G m_X12_depthOf d 11 [(0, .ref w0), (1, .int w1), (2, .int w2), (3, .int w3), (4, .int w4)] [] M (jQb cI b)) {k28 : Nat → Int32 → Int32 → Int32 → Int32 → Int32 → Int32 → jM → jO Int32} (hk28 : ∀ (w0 : Nat) (w1 : Int32) (w2 : Int32) (w3 : Int32) (w4 : Int32) (w5 : Int32) (w6 : Int32) (M : jM) (b : Int32 × jM), k28 w0 w1 w2 w3 w4 w5 w6 M = some b → V G m_X12_depthOf d 28 [(0, .ref w0), (1, .int w1), (2, .int w2), (3, .int w3), (4, .int w4), (5, .int w5), (6, .int w6)] [] M (jQb cI b)) {v0 : Nat} {v1 : Int32} {v2 : Int32} {v3 : Int32} {v4 : Int32} {v5 : Int32} {v6 : Int32} {M : jM} {b : Int32 × jM} (h : b_X12_depthOf_28 k11 k28 v0 v1 v2 v3 v4 v5 v6 M = some b) : V G m_X12_depthOf d 28 [(0, .ref v0), (1, .int v1), (2, .int v2), (3, .int v3), (4, .int v4), (5, .int v5), (6, .int v6)] [] M (jQb cI b) := by
  unfold b_X12_depthOf_28 at h
  refine v_iload dX12_depthOf_28 6 rfl ?_
  refine v_iload dX12_depthOf_30 4 rfl ?_
  refine x_ic_gt (tgt := 91) dX12_depthOf_32 (by decide) h (fun h => ?_) (fun h => ?_)
  · refine v_iload dX12_depthOf_91 5 rfl ?_
    refine v_iload_n dX12_depthOf_93 rfl 3 rfl ?_
    refine x_ic_le (tgt := 102) dX12_depthOf_94 (by decide) h (fun h => ?_) (fun h => ?_)
    · refine v_iload_n dX12_depthOf_102 rfl 3 rfl ?_
      exact V.pick [0, 1, 2, 4] rfl (t_X12_depthOf_103 hd_ hk11 h)
    · refine v_iload dX12_depthOf_97 5 rfl ?_
      refine v_goto (tgt := 103) dX12_depthOf_99 (by decide) ?_
      exact V.pick [0, 1, 2, 4] rfl (t_X12_depthOf_103 hd_ hk11 h)
  · refine v_iload dX12_depthOf_35 5 rfl ?_
    refine v_aload_n dX12_depthOf_37 rfl 0 rfl ?_
    refine x_gR dX12_depthOf_38 kf_X12_40 rfl h (fun r1 h => ?_)
    refine v_iload_n dX12_depthOf_41 rfl 2 rfl ?_
    refine v_iload dX12_depthOf_42 6 rfl ?_
    refine v_iadd dX12_depthOf_44 ?_
    refine x_ldB dX12_depthOf_45 h (fun x2 h => ?_)
    refine v_iconst dX12_depthOf_46 ic_2 ?_
    refine x_ic_eq (tgt := 63) dX12_depthOf_47 (by decide) h (fun h => ?_) (fun h => ?_)
    · exact V.pick [0, 1, 2, 3, 4, 6] rfl (t_X12_depthOf_63 hd_ hk11 hk28 h)
    · refine v_aload_n dX12_depthOf_50 rfl 0 rfl ?_
      refine x_gR dX12_depthOf_51 kf_X12_40 rfl h (fun r3 h => ?_)
      refine v_iload_n dX12_depthOf_54 rfl 2 rfl ?_
      refine v_iload dX12_depthOf_55 6 rfl ?_
      refine v_iadd dX12_depthOf_57 ?_
      refine x_ldB dX12_depthOf_58 h (fun x4 h => ?_)
      refine v_iconst dX12_depthOf_59 ic_3 ?_
      refine x_ic_ne (tgt := 81) dX12_depthOf_60 (by decide) h (fun h => ?_) (fun h => ?_)
      · exact V.pick [0, 1, 2, 3, 4, 6] rfl (t_X12_depthOf_63 hd_ hk11 hk28 h)
      · exact V.pick [0, 1, 2, 3, 4, 6] rfl (t_X12_depthOf_81 hd_ hk11 hk28 h)
theorem t_X12_depthOf_28 {G : jG} {d : Nat} (hd_ : 0 ≤ d) {k11 : Nat → Int32 → Int32 → Int32 → Int32 → jM → jO Int32} (hk11 : ∀ (w0 : Nat) (w1 : Int32) (w2 : Int32) (w3 : Int32) (w4 : Int32) (M : jM) (b : Int32 × jM), k11 w0 w1 w2 w3 w4 M = some b → V G m_X12_depthOf d 11 [(0, .ref w0), (1, .int w1), (2, .int w2), (3, .int w3), (4, .int w4)] [] M (jQb cI b)) : ∀ (n : Nat) (v0 : Nat) (v1 : Int32) (v2 : Int32) (v3 : Int32) (v4 : Int32) (v5 : Int32) (v6 : Int32) (M : jM) (b : Int32 × jM), l_X12_depthOf_28 k11 n v0 v1 v2 v3 v4 v5 v6 M = some b → V G m_X12_depthOf d 28 [(0, .ref v0), (1, .int v1), (2, .int v2), (3, .int v3), (4, .int v4), (5, .int v5), (6, .int v6)] [] M (jQb cI b) := by
  intro n
  induction n with
  | zero => intro v0 v1 v2 v3 v4 v5 v6 M b h; exact nomatch (show (none : jO Int32) = some b from h)
  | succ n ih => intro v0 v1 v2 v3 v4 v5 v6 M b h; exact tb_X12_depthOf_28 hd_ hk11 ih h
def b_X12_depthOf_11  (k11 : Nat → Int32 → Int32 → Int32 → Int32 → jM → jO Int32) (v0 : Nat) (v1 : Int32) (v2 : Int32) (v3 : Int32) (v4 : Int32) (M : jM) : jO Int32 :=
  (gR 11 M v0 18).bind fun r1 =>
  (ldI M r1 v1).bind fun x2 =>
  if x2 ≤ v4 then
    rt v3 M
  else
    l_X12_depthOf_28 k11 jF0 v0 v1 v2 v3 v4 (nI 0) (nI 0) M
def l_X12_depthOf_11  : Nat → Nat → Int32 → Int32 → Int32 → Int32 → jM → jO Int32
  | 0 => fun _ _ _ _ _ _ => none
  | n + 1 => b_X12_depthOf_11  (l_X12_depthOf_11  n)
theorem tb_X12_depthOf_11 {G : jG} {d : Nat} (hd_ : 0 ≤ d)  {k11 : Nat → Int32 → Int32 → Int32 → Int32 → jM → jO Int32} (hk11 : ∀ (w0 : Nat) (w1 : Int32) (w2 : Int32) (w3 : Int32) (w4 : Int32) (M : jM) (b : Int32 × jM), k11 w0 w1 w2 w3 w4 M = some b → V G m_X12_depthOf d 11 [(0, .ref w0), (1, .int w1), (2, .int w2), (3, .int w3), (4, .int w4)] [] M (jQb cI b)) {v0 : Nat} {v1 : Int32} {v2 : Int32} {v3 : Int32} {v4 : Int32} {M : jM} {b : Int32 × jM} (h : b_X12_depthOf_11  k11 v0 v1 v2 v3 v4 M = some b) : V G m_X12_depthOf d 11 [(0, .ref v0), (1, .int v1), (2, .int v2), (3, .int v3), (4, .int v4)] [] M (jQb cI b) := by
  unfold b_X12_depthOf_11 at h
  refine v_iload dX12_depthOf_11 4 rfl ?_
  refine v_aload_n dX12_depthOf_13 rfl 0 rfl ?_
  refine x_gR dX12_depthOf_14 kf_X12_37 rfl h (fun r1 h => ?_)
  refine v_iload_n dX12_depthOf_17 rfl 1 rfl ?_
  refine x_ldI dX12_depthOf_18 h (fun x2 h => ?_)
  refine x_ic_ge (tgt := 110) dX12_depthOf_19 (by decide) h (fun h => ?_) (fun h => ?_)
  · refine v_iload_n dX12_depthOf_110 rfl 3 rfl ?_
    exact x_iret dX12_depthOf_111 rfl h
  · refine v_iconst dX12_depthOf_22 ic_0 ?_
    refine v_istore (ls2 := [(5, .int (nI 0)), (0, .ref v0), (1, .int v1), (2, .int v2), (3, .int v3), (4, .int v4)]) dX12_depthOf_23 (by decide) rfl ?_
    refine v_iconst dX12_depthOf_25 ic_0 ?_
    refine v_istore (ls2 := [(6, .int (nI 0)), (5, .int (nI 0)), (0, .ref v0), (1, .int v1), (2, .int v2), (3, .int v3), (4, .int v4)]) dX12_depthOf_26 (by decide) rfl ?_
    exact V.pick [2, 3, 4, 5, 6, 1, 0] rfl (t_X12_depthOf_28 hd_ hk11 _ _ _ _ _ _ _ _ _ _ h)
theorem t_X12_depthOf_11 {G : jG} {d : Nat} (hd_ : 0 ≤ d)  : ∀ (n : Nat) (v0 : Nat) (v1 : Int32) (v2 : Int32) (v3 : Int32) (v4 : Int32) (M : jM) (b : Int32 × jM), l_X12_depthOf_11  n v0 v1 v2 v3 v4 M = some b → V G m_X12_depthOf d 11 [(0, .ref v0), (1, .int v1), (2, .int v2), (3, .int v3), (4, .int v4)] [] M (jQb cI b) := by
  intro n
  induction n with
  | zero => intro v0 v1 v2 v3 v4 M b h; exact nomatch (show (none : jO Int32) = some b from h)
  | succ n ih => intro v0 v1 v2 v3 v4 M b h; exact tb_X12_depthOf_11 hd_  ih h
def f_X12_depthOf (v0 : Nat) (v1 : Int32) (M : jM) : jO Int32 :=
  (jv ((nI 600) * v1)).bind fun y1 =>
  l_X12_depthOf_11 jF0 v0 v1 y1 (nI 0) (nI 0) M
theorem s_X12_depthOf {G : jG} {d : Nat} (hd_ : 0 ≤ d) {v0 : Nat} {v1 : Int32} {M : jM} {b : Int32 × jM} (h : f_X12_depthOf  v0 v1 M = some b) : V G m_X12_depthOf d 0 [(0, .ref v0), (1, .int v1)] [] M (jQb cI b) := by
  unfold f_X12_depthOf at h
  refine v_sipush dX12_depthOf_0 sp_600 ?_
  refine v_iload_n dX12_depthOf_3 rfl 1 rfl ?_
  refine v_imul dX12_depthOf_4 ?_
  refine x_jvI h (fun y1 h => ?_)
  refine v_istore_n (ls2 := [(2, .int y1), (0, .ref v0), (1, .int v1)]) dX12_depthOf_5 rfl (by decide) rfl ?_
  refine v_iconst dX12_depthOf_6 ic_0 ?_
  refine v_istore_n (ls2 := [(3, .int (nI 0)), (2, .int y1), (0, .ref v0), (1, .int v1)]) dX12_depthOf_7 rfl (by decide) rfl ?_
  refine v_iconst dX12_depthOf_8 ic_0 ?_
  refine v_istore (ls2 := [(4, .int (nI 0)), (3, .int (nI 0)), (2, .int y1), (0, .ref v0), (1, .int v1)]) dX12_depthOf_9 (by decide) rfl ?_
  exact V.pick [3, 4, 2, 1, 0] rfl (t_X12_depthOf_11 hd_ _ _ _ _ _ _ _ _ h)
def f_X12_write (v0 : Nat) (v1 : Int32) (M : jM) : jO Unit :=
  (gR 11 M v0 43).bind fun r1 =>
  (gI 11 M v0 42).bind fun x2 =>
  (stB M r1 x2 (Int8.toInt32 (Int32.toInt8 v1))).bind fun M3 =>
  (gI 11 M3 v0 42).bind fun x4 =>
  (pI 11 M3 v0 42 (x4 + (nI 1))).bind fun M5 =>
  rt () M5
theorem s_X12_write {G : jG} {d : Nat} (hd_ : 0 ≤ d) {v0 : Nat} {v1 : Int32} {M : jM} {b : Unit × jM} (h : f_X12_write  v0 v1 M = some b) : V G m_X12_write d 0 [(0, .ref v0), (1, .int v1)] [] M (jQb cU b) := by
  unfold f_X12_write at h
  refine v_aload_n dX12_write_0 rfl 0 rfl ?_
  refine x_gR dX12_write_1 kf_X12_86 rfl h (fun r1 h => ?_)
  refine v_aload_n dX12_write_4 rfl 0 rfl ?_
  refine x_gI dX12_write_5 kf_X12_302 rfl h (fun x2 h => ?_)
  refine v_iload_n dX12_write_8 rfl 1 rfl ?_
  refine v_i2b dX12_write_9 ?_
  refine x_stB dX12_write_10 h (fun M3 h => ?_)
  refine v_aload_n dX12_write_11 rfl 0 rfl ?_
  refine v_dup dX12_write_12 rfl ?_
  refine x_gI dX12_write_13 kf_X12_302 rfl h (fun x4 h => ?_)
  refine v_iconst dX12_write_16 ic_1 ?_
  refine v_iadd dX12_write_17 ?_
  refine x_pI dX12_write_18 kf_X12_302 rfl (fun q => Bool.noConfusion q) h (fun M5 h => ?_)
  exact x_vret dX12_write_21 rfl h
def j_X12_writeAtom_99  (v0 : Nat) (v1 : Int32) (M : jM) : jO Unit :=
  (gR 11 M v0 21).bind fun r1 =>
  (ldB M r1 v1).bind fun x2 =>
  jb2 (jiv 11 M v0 (f_X12_write v0 ((nI 97) + x2) M)) fun _ M3 =>
  rt () M3
theorem t_X12_writeAtom_99 {G : jG} {d : Nat} (hd_ : 1 ≤ d)  {v0 : Nat} {v1 : Int32} {M : jM} {b : Unit × jM} (h : j_X12_writeAtom_99  v0 v1 M = some b) : V G m_X12_writeAtom d 99 [(0, .ref v0), (1, .int v1)] [] M (jQb cU b) := by
  unfold j_X12_writeAtom_99 at h
  refine v_aload_n dX12_writeAtom_99 rfl 0 rfl ?_
  refine v_bipush dX12_writeAtom_100 bp_97 ?_
  refine v_aload_n dX12_writeAtom_102 rfl 0 rfl ?_
  refine x_gR dX12_writeAtom_103 kf_X12_47 rfl h (fun r1 h => ?_)
  refine v_iload_n dX12_writeAtom_106 rfl 1 rfl ?_
  refine x_ldB dX12_writeAtom_107 h (fun x2 h => ?_)
  refine v_iadd dX12_writeAtom_108 ?_
  refine x_inv (cv := cU) (As := [.int ((nI 97) + x2)]) (rest := []) (ls2 := [(0, .ref v0), (1, .int ((nI 97) + x2))]) (ci := 11) (by omega) dX12_writeAtom_109 ke_X12_write kv_X12_305 rfl rfl (by decide) (Nat.le_of_ble_eq_true rfl) rfl rfl rfl rfl h (fun _ hq => s_X12_write (by omega) hq) (fun _ M3 h => ?_)
  exact x_vret dX12_writeAtom_112 rfl h
def j_X12_writeAtom_87  (v0 : Nat) (v1 : Int32) (v2 : Int32) (M : jM) : jO Unit :=
  if v2 = (nI 8) then
    j_X12_writeAtom_99 v0 v1 M
  else
    if v2 = (nI 9) then
      j_X12_writeAtom_99 v0 v1 M
    else
      rt () M
theorem t_X12_writeAtom_87 {G : jG} {d : Nat} (hd_ : 1 ≤ d)  {v0 : Nat} {v1 : Int32} {v2 : Int32} {M : jM} {b : Unit × jM} (h : j_X12_writeAtom_87  v0 v1 v2 M = some b) : V G m_X12_writeAtom d 87 [(0, .ref v0), (1, .int v1), (2, .int v2)] [] M (jQb cU b) := by
  unfold j_X12_writeAtom_87 at h
  refine v_iload_n dX12_writeAtom_87 rfl 2 rfl ?_
  refine v_bipush dX12_writeAtom_88 bp_8 ?_
  refine x_ic_eq (tgt := 99) dX12_writeAtom_90 (by decide) h (fun h => ?_) (fun h => ?_)
  · exact V.pick [0, 1] rfl (t_X12_writeAtom_99 hd_ h)
  · refine v_iload_n dX12_writeAtom_93 rfl 2 rfl ?_
    refine v_bipush dX12_writeAtom_94 bp_9 ?_
    refine x_ic_ne (tgt := 112) dX12_writeAtom_96 (by decide) h (fun h => ?_) (fun h => ?_)
    · exact V.pick [0, 1] rfl (t_X12_writeAtom_99 hd_ h)
    · exact x_vret dX12_writeAtom_112 rfl h
def j_X12_writeAtom_65  (v0 : Nat) (v1 : Int32) (v2 : Int32) (s0 : Nat) (s1 : Int32) (M : jM) : jO Unit :=
  jb2 (jiv 11 M s0 (f_X12_write s0 s1 M)) fun _ M1 =>
  if (nI 10) ≤ v2 then
    j_X12_writeAtom_87 v0 v1 v2 M1
  else
    (gR 11 M1 v0 20).bind fun r2 =>
    (ldI M1 r2 v1).bind fun x3 =>
    jb2 (jiv 11 M1 v0 (f_X12_write v0 ((nI 97) + x3) M1)) fun _ M4 =>
    j_X12_writeAtom_87 v0 v1 v2 M4
theorem t_X12_writeAtom_65 {G : jG} {d : Nat} (hd_ : 1 ≤ d)  {v0 : Nat} {v1 : Int32} {v2 : Int32} {s0 : Nat} {s1 : Int32} {M : jM} {b : Unit × jM} (h : j_X12_writeAtom_65  v0 v1 v2 s0 s1 M = some b) : V G m_X12_writeAtom d 65 [(0, .ref v0), (1, .int v1), (2, .int v2)] [.int s1, .ref s0] M (jQb cU b) := by
  unfold j_X12_writeAtom_65 at h
  refine x_inv (cv := cU) (As := [.int s1]) (rest := []) (ls2 := [(0, .ref s0), (1, .int s1)]) (ci := 11) (by omega) dX12_writeAtom_65 ke_X12_write kv_X12_305 rfl rfl (by decide) (Nat.le_of_ble_eq_true rfl) rfl rfl rfl rfl h (fun _ hq => s_X12_write (by omega) hq) (fun _ M1 h => ?_)
  refine v_iload_n dX12_writeAtom_68 rfl 2 rfl ?_
  refine v_bipush dX12_writeAtom_69 bp_10 ?_
  refine x_ic_ge (tgt := 87) dX12_writeAtom_71 (by decide) h (fun h => ?_) (fun h => ?_)
  · exact t_X12_writeAtom_87 hd_ h
  · refine v_aload_n dX12_writeAtom_74 rfl 0 rfl ?_
    refine v_bipush dX12_writeAtom_75 bp_97 ?_
    refine v_aload_n dX12_writeAtom_77 rfl 0 rfl ?_
    refine x_gR dX12_writeAtom_78 kf_X12_44 rfl h (fun r2 h => ?_)
    refine v_iload_n dX12_writeAtom_81 rfl 1 rfl ?_
    refine x_ldI dX12_writeAtom_82 h (fun x3 h => ?_)
    refine v_iadd dX12_writeAtom_83 ?_
    refine x_inv (cv := cU) (As := [.int ((nI 97) + x3)]) (rest := []) (ls2 := [(0, .ref v0), (1, .int ((nI 97) + x3))]) (ci := 11) (by omega) dX12_writeAtom_84 ke_X12_write kv_X12_305 rfl rfl (by decide) (Nat.le_of_ble_eq_true rfl) rfl rfl rfl rfl h (fun _ hq => s_X12_write (by omega) hq) (fun _ M4 h => ?_)
    exact t_X12_writeAtom_87 hd_ h
def f_X12_writeAtom (v0 : Nat) (v1 : Int32) (M : jM) : jO Unit :=
  (gR 11 M v0 19).bind fun r1 =>
  (ldB M r1 v1).bind fun x2 =>
  if x2 = (nI 6) then
    j_X12_writeAtom_65 v0 v1 x2 v0 (nI 65) M
  else
    if x2 = (nI 7) then
      j_X12_writeAtom_65 v0 v1 x2 v0 (nI 66) M
    else
      if x2 = (nI 8) then
        j_X12_writeAtom_65 v0 v1 x2 v0 (nI 69) M
      else
        if x2 = (nI 9) then
          j_X12_writeAtom_65 v0 v1 x2 v0 (nI 61) M
        else
          if x2 = (nI 10) then
            j_X12_writeAtom_65 v0 v1 x2 v0 (nI 84) M
          else
            j_X12_writeAtom_65 v0 v1 x2 v0 (nI 70) M
theorem s_X12_writeAtom {G : jG} {d : Nat} (hd_ : 1 ≤ d) {v0 : Nat} {v1 : Int32} {M : jM} {b : Unit × jM} (h : f_X12_writeAtom  v0 v1 M = some b) : V G m_X12_writeAtom d 0 [(0, .ref v0), (1, .int v1)] [] M (jQb cU b) := by
  unfold f_X12_writeAtom at h
  refine v_aload_n dX12_writeAtom_0 rfl 0 rfl ?_
  refine x_gR dX12_writeAtom_1 kf_X12_40 rfl h (fun r1 h => ?_)
  refine v_iload_n dX12_writeAtom_4 rfl 1 rfl ?_
  refine x_ldB dX12_writeAtom_5 h (fun x2 h => ?_)
  refine v_istore_n (ls2 := [(2, .int x2), (0, .ref v0), (1, .int v1)]) dX12_writeAtom_6 rfl (by decide) rfl ?_
  refine v_aload_n dX12_writeAtom_7 rfl 1 rfl ?_
  refine v_iload_n dX12_writeAtom_8 rfl 0 rfl ?_
  refine v_bipush dX12_writeAtom_9 bp_6 ?_
  refine x_ic_ne (tgt := 19) dX12_writeAtom_11 (by decide) h (fun h => ?_) (fun h => ?_)
  · refine v_bipush dX12_writeAtom_14 bp_65 ?_
    refine v_goto (tgt := 65) dX12_writeAtom_16 (by decide) ?_
    exact V.pick [1, 2, 0] rfl (t_X12_writeAtom_65 hd_ h)
  · refine v_iload_n dX12_writeAtom_19 rfl 0 rfl ?_
    refine v_bipush dX12_writeAtom_20 bp_7 ?_
    refine x_ic_ne (tgt := 30) dX12_writeAtom_22 (by decide) h (fun h => ?_) (fun h => ?_)
    · refine v_bipush dX12_writeAtom_25 bp_66 ?_
      refine v_goto (tgt := 65) dX12_writeAtom_27 (by decide) ?_
      exact V.pick [1, 2, 0] rfl (t_X12_writeAtom_65 hd_ h)
    · refine v_iload_n dX12_writeAtom_30 rfl 0 rfl ?_
      refine v_bipush dX12_writeAtom_31 bp_8 ?_
      refine x_ic_ne (tgt := 41) dX12_writeAtom_33 (by decide) h (fun h => ?_) (fun h => ?_)
      · refine v_bipush dX12_writeAtom_36 bp_69 ?_
        refine v_goto (tgt := 65) dX12_writeAtom_38 (by decide) ?_
        exact V.pick [1, 2, 0] rfl (t_X12_writeAtom_65 hd_ h)
      · refine v_iload_n dX12_writeAtom_41 rfl 0 rfl ?_
        refine v_bipush dX12_writeAtom_42 bp_9 ?_
        refine x_ic_ne (tgt := 52) dX12_writeAtom_44 (by decide) h (fun h => ?_) (fun h => ?_)
        · refine v_bipush dX12_writeAtom_47 bp_61 ?_
          refine v_goto (tgt := 65) dX12_writeAtom_49 (by decide) ?_
          exact V.pick [1, 2, 0] rfl (t_X12_writeAtom_65 hd_ h)
        · refine v_iload_n dX12_writeAtom_52 rfl 0 rfl ?_
          refine v_bipush dX12_writeAtom_53 bp_10 ?_
          refine x_ic_ne (tgt := 63) dX12_writeAtom_55 (by decide) h (fun h => ?_) (fun h => ?_)
          · refine v_bipush dX12_writeAtom_58 bp_84 ?_
            refine v_goto (tgt := 65) dX12_writeAtom_60 (by decide) ?_
            exact V.pick [1, 2, 0] rfl (t_X12_writeAtom_65 hd_ h)
          · refine v_bipush dX12_writeAtom_63 bp_70 ?_
            exact V.pick [1, 2, 0] rfl (t_X12_writeAtom_65 hd_ h)
def j_X12_writeBehind_118  (v0 : Nat) (v2 : Int32) (v3 : Int32) (s0 : Nat) (s1 : Int32) (M : jM) : jO Unit :=
  jb2 (jiv 11 M s0 (f_X12_write s0 s1 M)) fun _ M1 =>
  (gR 11 M1 v0 41).bind fun r2 =>
  (gI 11 M1 v0 38).bind fun x3 =>
  (gR 11 M1 v0 22).bind fun r4 =>
  (ldI M1 r4 (v3 + v2)).bind fun x5 =>
  (stI M1 r2 (x3 - (nI 1)) x5).bind fun M6 =>
  rt () M6
theorem t_X12_writeBehind_118 {G : jG} {d : Nat} (hd_ : 1 ≤ d)  {v0 : Nat} {v2 : Int32} {v3 : Int32} {s0 : Nat} {s1 : Int32} {M : jM} {b : Unit × jM} (h : j_X12_writeBehind_118  v0 v2 v3 s0 s1 M = some b) : V G m_X12_writeBehind d 118 [(0, .ref v0), (2, .int v2), (3, .int v3)] [.int s1, .ref s0] M (jQb cU b) := by
  unfold j_X12_writeBehind_118 at h
  refine x_inv (cv := cU) (As := [.int s1]) (rest := []) (ls2 := [(0, .ref s0), (1, .int s1)]) (ci := 11) (by omega) dX12_writeBehind_118 ke_X12_write kv_X12_305 rfl rfl (by decide) (Nat.le_of_ble_eq_true rfl) rfl rfl rfl rfl h (fun _ hq => s_X12_write (by omega) hq) (fun _ M1 h => ?_)
  refine v_aload_n dX12_writeBehind_121 rfl 0 rfl ?_
  refine x_gR dX12_writeBehind_122 kf_X12_83 rfl h (fun r2 h => ?_)
  refine v_aload_n dX12_writeBehind_125 rfl 0 rfl ?_
  refine x_gI dX12_writeBehind_126 kf_X12_308 rfl h (fun x3 h => ?_)
  refine v_iconst dX12_writeBehind_129 ic_1 ?_
  refine v_isub dX12_writeBehind_130 ?_
  refine v_aload_n dX12_writeBehind_131 rfl 0 rfl ?_
  refine x_gR dX12_writeBehind_132 kf_X12_50 rfl h (fun r4 h => ?_)
  refine v_iload_n dX12_writeBehind_135 rfl 2 rfl ?_
  refine v_iload_n dX12_writeBehind_136 rfl 1 rfl ?_
  refine v_iadd dX12_writeBehind_137 ?_
  refine x_ldI dX12_writeBehind_138 h (fun x5 h => ?_)
  refine x_stI dX12_writeBehind_139 h (fun M6 h => ?_)
  exact x_vret dX12_writeBehind_140 rfl h
def j_X12_writeBehind_66  (v0 : Nat) (v2 : Int32) (v3 : Int32) (M : jM) : jO Unit :=
  (gI 11 M v0 38).bind fun x1 =>
  if x1 ≤ 0 then
    rt () M
  else
    (gR 11 M v0 41).bind fun r2 =>
    (gI 11 M v0 38).bind fun x3 =>
    (ldI M r2 (x3 - (nI 1))).bind fun x4 =>
    if x4 = v2 then
      (gR 11 M v0 19).bind fun r5 =>
      (gR 11 M v0 39).bind fun r6 =>
      (gI 11 M v0 38).bind fun x7 =>
      (ldI M r6 (x7 - (nI 1))).bind fun x8 =>
      (ldB M r5 (v3 + x8)).bind fun x9 =>
      if x9 = (nI 4) then
        j_X12_writeBehind_118 v0 v2 v3 v0 (nI 38) M
      else
        j_X12_writeBehind_118 v0 v2 v3 v0 (nI 124) M
    else
      rt () M
theorem t_X12_writeBehind_66 {G : jG} {d : Nat} (hd_ : 1 ≤ d)  {v0 : Nat} {v2 : Int32} {v3 : Int32} {M : jM} {b : Unit × jM} (h : j_X12_writeBehind_66  v0 v2 v3 M = some b) : V G m_X12_writeBehind d 66 [(0, .ref v0), (2, .int v2), (3, .int v3)] [] M (jQb cU b) := by
  unfold j_X12_writeBehind_66 at h
  refine v_aload_n dX12_writeBehind_66 rfl 0 rfl ?_
  refine x_gI dX12_writeBehind_67 kf_X12_308 rfl h (fun x1 h => ?_)
  refine x_if_le (tgt := 140) dX12_writeBehind_70 (by decide) h (fun h => ?_) (fun h => ?_)
  · exact x_vret dX12_writeBehind_140 rfl h
  · refine v_aload_n dX12_writeBehind_73 rfl 0 rfl ?_
    refine x_gR dX12_writeBehind_74 kf_X12_83 rfl h (fun r2 h => ?_)
    refine v_aload_n dX12_writeBehind_77 rfl 0 rfl ?_
    refine x_gI dX12_writeBehind_78 kf_X12_308 rfl h (fun x3 h => ?_)
    refine v_iconst dX12_writeBehind_81 ic_1 ?_
    refine v_isub dX12_writeBehind_82 ?_
    refine x_ldI dX12_writeBehind_83 h (fun x4 h => ?_)
    refine v_iload_n dX12_writeBehind_84 rfl 1 rfl ?_
    refine x_ic_ne (tgt := 140) dX12_writeBehind_85 (by decide) h (fun h => ?_) (fun h => ?_)
    · refine v_aload_n dX12_writeBehind_88 rfl 0 rfl ?_
      refine v_aload_n dX12_writeBehind_89 rfl 0 rfl ?_
      refine x_gR dX12_writeBehind_90 kf_X12_40 rfl h (fun r5 h => ?_)
      refine v_iload_n dX12_writeBehind_93 rfl 2 rfl ?_
      refine v_aload_n dX12_writeBehind_94 rfl 0 rfl ?_
      refine x_gR dX12_writeBehind_95 kf_X12_77 rfl h (fun r6 h => ?_)
      refine v_aload_n dX12_writeBehind_98 rfl 0 rfl ?_
      refine x_gI dX12_writeBehind_99 kf_X12_308 rfl h (fun x7 h => ?_)
      refine v_iconst dX12_writeBehind_102 ic_1 ?_
      refine v_isub dX12_writeBehind_103 ?_
      refine x_ldI dX12_writeBehind_104 h (fun x8 h => ?_)
      refine v_iadd dX12_writeBehind_105 ?_
      refine x_ldB dX12_writeBehind_106 h (fun x9 h => ?_)
      refine v_iconst dX12_writeBehind_107 ic_4 ?_
      refine x_ic_ne (tgt := 116) dX12_writeBehind_108 (by decide) h (fun h => ?_) (fun h => ?_)
      · refine v_bipush dX12_writeBehind_111 bp_38 ?_
        refine v_goto (tgt := 118) dX12_writeBehind_113 (by decide) ?_
        exact t_X12_writeBehind_118 hd_ h
      · refine v_bipush dX12_writeBehind_116 bp_124 ?_
        exact t_X12_writeBehind_118 hd_ h
    · exact x_vret dX12_writeBehind_140 rfl h
def b_X12_writeBehind_6  (k6 : Nat → Int32 → Int32 → jM → jO Unit) (v0 : Nat) (v2 : Int32) (v3 : Int32) (M : jM) : jO Unit :=
  (gI 11 M v0 38).bind fun x1 =>
  if x1 ≤ 0 then
    j_X12_writeBehind_66 v0 v2 v3 M
  else
    (gR 11 M v0 22).bind fun r2 =>
    (gR 11 M v0 39).bind fun r3 =>
    (gI 11 M v0 38).bind fun x4 =>
    (ldI M r3 (x4 - (nI 1))).bind fun x5 =>
    (ldI M r2 (v3 + x5)).bind fun x6 =>
    if x6 = v2 then
      (gI 11 M v0 38).bind fun x7 =>
      (pI 11 M v0 38 (x7 - (nI 1))).bind fun M8 =>
      (gR 11 M8 v0 39).bind fun r9 =>
      (gI 11 M8 v0 38).bind fun x10 =>
      (ldI M8 r9 x10).bind fun x11 =>
      if x11 ≤ 0 then
        k6 v0 v2 v3 M8
      else
        jb2 (jiv 11 M8 v0 (f_X12_write v0 (nI 41) M8)) fun _ M12 =>
        k6 v0 v2 v3 M12
    else
      j_X12_writeBehind_66 v0 v2 v3 M
def l_X12_writeBehind_6  : Nat → Nat → Int32 → Int32 → jM → jO Unit
  | 0 => fun _ _ _ _ => none
  | n + 1 => b_X12_writeBehind_6  (l_X12_writeBehind_6  n)
theorem tb_X12_writeBehind_6 {G : jG} {d : Nat} (hd_ : 1 ≤ d)  {k6 : Nat → Int32 → Int32 → jM → jO Unit} (hk6 : ∀ (w0 : Nat) (w2 : Int32) (w3 : Int32) (M : jM) (b : Unit × jM), k6 w0 w2 w3 M = some b → V G m_X12_writeBehind d 6 [(0, .ref w0), (2, .int w2), (3, .int w3)] [] M (jQb cU b)) {v0 : Nat} {v2 : Int32} {v3 : Int32} {M : jM} {b : Unit × jM} (h : b_X12_writeBehind_6  k6 v0 v2 v3 M = some b) : V G m_X12_writeBehind d 6 [(0, .ref v0), (2, .int v2), (3, .int v3)] [] M (jQb cU b) := by
  unfold b_X12_writeBehind_6 at h
  refine v_aload_n dX12_writeBehind_6 rfl 0 rfl ?_
  refine x_gI dX12_writeBehind_7 kf_X12_308 rfl h (fun x1 h => ?_)
  refine x_if_le (tgt := 66) dX12_writeBehind_10 (by decide) h (fun h => ?_) (fun h => ?_)
  · exact t_X12_writeBehind_66 hd_ h
  · refine v_aload_n dX12_writeBehind_13 rfl 0 rfl ?_
    refine x_gR dX12_writeBehind_14 kf_X12_50 rfl h (fun r2 h => ?_)
    refine v_iload_n dX12_writeBehind_17 rfl 2 rfl ?_
    refine v_aload_n dX12_writeBehind_18 rfl 0 rfl ?_
    refine x_gR dX12_writeBehind_19 kf_X12_77 rfl h (fun r3 h => ?_)
    refine v_aload_n dX12_writeBehind_22 rfl 0 rfl ?_
    refine x_gI dX12_writeBehind_23 kf_X12_308 rfl h (fun x4 h => ?_)
    refine v_iconst dX12_writeBehind_26 ic_1 ?_
    refine v_isub dX12_writeBehind_27 ?_
    refine x_ldI dX12_writeBehind_28 h (fun x5 h => ?_)
    refine v_iadd dX12_writeBehind_29 ?_
    refine x_ldI dX12_writeBehind_30 h (fun x6 h => ?_)
    refine v_iload_n dX12_writeBehind_31 rfl 1 rfl ?_
    refine x_ic_ne (tgt := 66) dX12_writeBehind_32 (by decide) h (fun h => ?_) (fun h => ?_)
    · refine v_aload_n dX12_writeBehind_35 rfl 0 rfl ?_
      refine v_dup dX12_writeBehind_36 rfl ?_
      refine x_gI dX12_writeBehind_37 kf_X12_308 rfl h (fun x7 h => ?_)
      refine v_iconst dX12_writeBehind_40 ic_1 ?_
      refine v_isub dX12_writeBehind_41 ?_
      refine x_pI dX12_writeBehind_42 kf_X12_308 rfl (fun q => Bool.noConfusion q) h (fun M8 h => ?_)
      refine v_aload_n dX12_writeBehind_45 rfl 0 rfl ?_
      refine x_gR dX12_writeBehind_46 kf_X12_77 rfl h (fun r9 h => ?_)
      refine v_aload_n dX12_writeBehind_49 rfl 0 rfl ?_
      refine x_gI dX12_writeBehind_50 kf_X12_308 rfl h (fun x10 h => ?_)
      refine x_ldI dX12_writeBehind_53 h (fun x11 h => ?_)
      refine x_if_le (tgt := 6) dX12_writeBehind_54 (by decide) h (fun h => ?_) (fun h => ?_)
      · exact hk6 _ _ _ _ _ h
      · refine v_aload_n dX12_writeBehind_57 rfl 0 rfl ?_
        refine v_bipush dX12_writeBehind_58 bp_41 ?_
        refine x_inv (cv := cU) (As := [.int (nI 41)]) (rest := []) (ls2 := [(0, .ref v0), (1, .int (nI 41))]) (ci := 11) (by omega) dX12_writeBehind_60 ke_X12_write kv_X12_305 rfl rfl (by decide) (Nat.le_of_ble_eq_true rfl) rfl rfl rfl rfl h (fun _ hq => s_X12_write (by omega) hq) (fun _ M12 h => ?_)
        refine v_goto (tgt := 6) dX12_writeBehind_63 (by decide) ?_
        exact hk6 _ _ _ _ _ h
    · exact t_X12_writeBehind_66 hd_ h
theorem t_X12_writeBehind_6 {G : jG} {d : Nat} (hd_ : 1 ≤ d)  : ∀ (n : Nat) (v0 : Nat) (v2 : Int32) (v3 : Int32) (M : jM) (b : Unit × jM), l_X12_writeBehind_6  n v0 v2 v3 M = some b → V G m_X12_writeBehind d 6 [(0, .ref v0), (2, .int v2), (3, .int v3)] [] M (jQb cU b) := by
  intro n
  induction n with
  | zero => intro v0 v2 v3 M b h; exact nomatch (show (none : jO Unit) = some b from h)
  | succ n ih => intro v0 v2 v3 M b h; exact tb_X12_writeBehind_6 hd_  ih h
def f_X12_writeBehind (v0 : Nat) (v1 : Int32) (v2 : Int32) (M : jM) : jO Unit :=
  (jv ((nI 600) * v1)).bind fun y1 =>
  l_X12_writeBehind_6 jF0 v0 v2 y1 M
theorem s_X12_writeBehind {G : jG} {d : Nat} (hd_ : 1 ≤ d) {v0 : Nat} {v1 : Int32} {v2 : Int32} {M : jM} {b : Unit × jM} (h : f_X12_writeBehind  v0 v1 v2 M = some b) : V G m_X12_writeBehind d 0 [(0, .ref v0), (1, .int v1), (2, .int v2)] [] M (jQb cU b) := by
  unfold f_X12_writeBehind at h
  refine v_sipush dX12_writeBehind_0 sp_600 ?_
  refine v_iload_n dX12_writeBehind_3 rfl 1 rfl ?_
  refine v_imul dX12_writeBehind_4 ?_
  refine x_jvI h (fun y1 h => ?_)
  refine v_istore_n (ls2 := [(3, .int y1), (0, .ref v0), (1, .int v1), (2, .int v2)]) dX12_writeBehind_5 rfl (by decide) rfl ?_
  exact V.pick [1, 3, 0] rfl (t_X12_writeBehind_6 hd_ _ _ _ _ _ _ h)
def j_X12_writeAll_191 (k18 : Nat → Int32 → Int32 → Int32 → jM → jO Unit) (v0 : Nat) (v1 : Int32) (v2 : Int32) (v3 : Int32) (M : jM) : jO Unit :=
  k18 v0 v1 v2 (v3 + (nI 1)) M
theorem t_X12_writeAll_191 {G : jG} {d : Nat} (hd_ : 2 ≤ d) {k18 : Nat → Int32 → Int32 → Int32 → jM → jO Unit} (hk18 : ∀ (w0 : Nat) (w1 : Int32) (w2 : Int32) (w3 : Int32) (M : jM) (b : Unit × jM), k18 w0 w1 w2 w3 M = some b → V G m_X12_writeAll d 18 [(0, .ref w0), (1, .int w1), (2, .int w2), (3, .int w3)] [] M (jQb cU b)) {v0 : Nat} {v1 : Int32} {v2 : Int32} {v3 : Int32} {M : jM} {b : Unit × jM} (h : j_X12_writeAll_191 k18 v0 v1 v2 v3 M = some b) : V G m_X12_writeAll d 191 [(0, .ref v0), (1, .int v1), (2, .int v2), (3, .int v3)] [] M (jQb cU b) := by
  unfold j_X12_writeAll_191 at h
  refine v_iincC (ls2 := [(3, .int (v3 + (nI 1))), (0, .ref v0), (1, .int v1), (2, .int v2)]) dX12_writeAll_191 ic_1 3 rfl (by decide) rfl ?_
  refine v_goto (tgt := 18) dX12_writeAll_194 (by decide) ?_
  exact V.pick [1, 2, 3, 0] rfl (hk18 _ _ _ _ _ _ h)
def j_X12_writeAll_65 (k18 : Nat → Int32 → Int32 → Int32 → jM → jO Unit) (v0 : Nat) (v1 : Int32) (v2 : Int32) (v3 : Int32) (M : jM) : jO Unit :=
  (gR 11 M v0 39).bind fun r1 =>
  (gI 11 M v0 38).bind fun x2 =>
  (stI M r1 x2 v3).bind fun M3 =>
  (gR 11 M3 v0 41).bind fun r4 =>
  (gI 11 M3 v0 38).bind fun x5 =>
  (gR 11 M3 v0 22).bind fun r6 =>
  (ldI M3 r6 ((v2 + v3) + (nI 1))).bind fun x7 =>
  (stI M3 r4 x5 x7).bind fun M8 =>
  (gI 11 M8 v0 38).bind fun x9 =>
  (pI 11 M8 v0 38 (x9 + (nI 1))).bind fun M10 =>
  j_X12_writeAll_191 k18 v0 v1 v2 v3 M10
theorem t_X12_writeAll_65 {G : jG} {d : Nat} (hd_ : 2 ≤ d) {k18 : Nat → Int32 → Int32 → Int32 → jM → jO Unit} (hk18 : ∀ (w0 : Nat) (w1 : Int32) (w2 : Int32) (w3 : Int32) (M : jM) (b : Unit × jM), k18 w0 w1 w2 w3 M = some b → V G m_X12_writeAll d 18 [(0, .ref w0), (1, .int w1), (2, .int w2), (3, .int w3)] [] M (jQb cU b)) {v0 : Nat} {v1 : Int32} {v2 : Int32} {v3 : Int32} {M : jM} {b : Unit × jM} (h : j_X12_writeAll_65 k18 v0 v1 v2 v3 M = some b) : V G m_X12_writeAll d 65 [(0, .ref v0), (1, .int v1), (2, .int v2), (3, .int v3)] [] M (jQb cU b) := by
  unfold j_X12_writeAll_65 at h
  refine v_aload_n dX12_writeAll_65 rfl 0 rfl ?_
  refine x_gR dX12_writeAll_66 kf_X12_77 rfl h (fun r1 h => ?_)
  refine v_aload_n dX12_writeAll_69 rfl 0 rfl ?_
  refine x_gI dX12_writeAll_70 kf_X12_308 rfl h (fun x2 h => ?_)
  refine v_iload_n dX12_writeAll_73 rfl 3 rfl ?_
  refine x_stI dX12_writeAll_74 h (fun M3 h => ?_)
  refine v_aload_n dX12_writeAll_75 rfl 0 rfl ?_
  refine x_gR dX12_writeAll_76 kf_X12_83 rfl h (fun r4 h => ?_)
  refine v_aload_n dX12_writeAll_79 rfl 0 rfl ?_
  refine x_gI dX12_writeAll_80 kf_X12_308 rfl h (fun x5 h => ?_)
  refine v_aload_n dX12_writeAll_83 rfl 0 rfl ?_
  refine x_gR dX12_writeAll_84 kf_X12_50 rfl h (fun r6 h => ?_)
  refine v_iload_n dX12_writeAll_87 rfl 2 rfl ?_
  refine v_iload_n dX12_writeAll_88 rfl 3 rfl ?_
  refine v_iadd dX12_writeAll_89 ?_
  refine v_iconst dX12_writeAll_90 ic_1 ?_
  refine v_iadd dX12_writeAll_91 ?_
  refine x_ldI dX12_writeAll_92 h (fun x7 h => ?_)
  refine x_stI dX12_writeAll_93 h (fun M8 h => ?_)
  refine v_aload_n dX12_writeAll_94 rfl 0 rfl ?_
  refine v_dup dX12_writeAll_95 rfl ?_
  refine x_gI dX12_writeAll_96 kf_X12_308 rfl h (fun x9 h => ?_)
  refine v_iconst dX12_writeAll_99 ic_1 ?_
  refine v_iadd dX12_writeAll_100 ?_
  refine x_pI dX12_writeAll_101 kf_X12_308 rfl (fun q => Bool.noConfusion q) h (fun M10 h => ?_)
  refine v_goto (tgt := 191) dX12_writeAll_104 (by decide) ?_
  exact t_X12_writeAll_191 hd_ hk18 h
def j_X12_writeAll_55 (k18 : Nat → Int32 → Int32 → Int32 → jM → jO Unit) (v0 : Nat) (v1 : Int32) (v2 : Int32) (v3 : Int32) (M : jM) : jO Unit :=
  if v3 ≤ 0 then
    j_X12_writeAll_65 k18 v0 v1 v2 v3 M
  else
    jb2 (jiv 11 M v0 (f_X12_write v0 (nI 40) M)) fun _ M1 =>
    j_X12_writeAll_65 k18 v0 v1 v2 v3 M1
theorem t_X12_writeAll_55 {G : jG} {d : Nat} (hd_ : 2 ≤ d) {k18 : Nat → Int32 → Int32 → Int32 → jM → jO Unit} (hk18 : ∀ (w0 : Nat) (w1 : Int32) (w2 : Int32) (w3 : Int32) (M : jM) (b : Unit × jM), k18 w0 w1 w2 w3 M = some b → V G m_X12_writeAll d 18 [(0, .ref w0), (1, .int w1), (2, .int w2), (3, .int w3)] [] M (jQb cU b)) {v0 : Nat} {v1 : Int32} {v2 : Int32} {v3 : Int32} {M : jM} {b : Unit × jM} (h : j_X12_writeAll_55 k18 v0 v1 v2 v3 M = some b) : V G m_X12_writeAll d 55 [(0, .ref v0), (1, .int v1), (2, .int v2), (3, .int v3)] [] M (jQb cU b) := by
  unfold j_X12_writeAll_55 at h
  refine v_iload_n dX12_writeAll_55 rfl 3 rfl ?_
  refine x_if_le (tgt := 65) dX12_writeAll_56 (by decide) h (fun h => ?_) (fun h => ?_)
  · exact t_X12_writeAll_65 hd_ hk18 h
  · refine v_aload_n dX12_writeAll_59 rfl 0 rfl ?_
    refine v_bipush dX12_writeAll_60 bp_40 ?_
    refine x_inv (cv := cU) (As := [.int (nI 40)]) (rest := []) (ls2 := [(0, .ref v0), (1, .int (nI 40))]) (ci := 11) (by omega) dX12_writeAll_62 ke_X12_write kv_X12_305 rfl rfl (by decide) (Nat.le_of_ble_eq_true rfl) rfl rfl rfl rfl h (fun _ hq => s_X12_write (by omega) hq) (fun _ M1 h => ?_)
    exact t_X12_writeAll_65 hd_ hk18 h
def j_X12_writeAll_157 (k18 : Nat → Int32 → Int32 → Int32 → jM → jO Unit) (v0 : Nat) (v1 : Int32) (v2 : Int32) (v3 : Int32) (v4 : Int32) (s0 : Nat) (s1 : Int32) (M : jM) : jO Unit :=
  jb2 (jiv 11 M s0 (f_X12_write s0 s1 M)) fun _ M1 =>
  (gR 11 M1 v0 20).bind fun r2 =>
  (ldI M1 r2 v4).bind fun x3 =>
  jb2 (jiv 11 M1 v0 (f_X12_write v0 ((nI 97) + x3) M1)) fun _ M4 =>
  j_X12_writeAll_191 k18 v0 v1 v2 v3 M4
theorem t_X12_writeAll_157 {G : jG} {d : Nat} (hd_ : 2 ≤ d) {k18 : Nat → Int32 → Int32 → Int32 → jM → jO Unit} (hk18 : ∀ (w0 : Nat) (w1 : Int32) (w2 : Int32) (w3 : Int32) (M : jM) (b : Unit × jM), k18 w0 w1 w2 w3 M = some b → V G m_X12_writeAll d 18 [(0, .ref w0), (1, .int w1), (2, .int w2), (3, .int w3)] [] M (jQb cU b)) {v0 : Nat} {v1 : Int32} {v2 : Int32} {v3 : Int32} {v4 : Int32} {s0 : Nat} {s1 : Int32} {M : jM} {b : Unit × jM} (h : j_X12_writeAll_157 k18 v0 v1 v2 v3 v4 s0 s1 M = some b) : V G m_X12_writeAll d 157 [(0, .ref v0), (1, .int v1), (2, .int v2), (3, .int v3), (4, .int v4)] [.int s1, .ref s0] M (jQb cU b) := by
  unfold j_X12_writeAll_157 at h
  refine x_inv (cv := cU) (As := [.int s1]) (rest := []) (ls2 := [(0, .ref s0), (1, .int s1)]) (ci := 11) (by omega) dX12_writeAll_157 ke_X12_write kv_X12_305 rfl rfl (by decide) (Nat.le_of_ble_eq_true rfl) rfl rfl rfl rfl h (fun _ hq => s_X12_write (by omega) hq) (fun _ M1 h => ?_)
  refine v_aload_n dX12_writeAll_160 rfl 0 rfl ?_
  refine v_bipush dX12_writeAll_161 bp_97 ?_
  refine v_aload_n dX12_writeAll_163 rfl 0 rfl ?_
  refine x_gR dX12_writeAll_164 kf_X12_44 rfl h (fun r2 h => ?_)
  refine v_iload dX12_writeAll_167 4 rfl ?_
  refine x_ldI dX12_writeAll_169 h (fun x3 h => ?_)
  refine v_iadd dX12_writeAll_170 ?_
  refine x_inv (cv := cU) (As := [.int ((nI 97) + x3)]) (rest := []) (ls2 := [(0, .ref v0), (1, .int ((nI 97) + x3))]) (ci := 11) (by omega) dX12_writeAll_171 ke_X12_write kv_X12_305 rfl rfl (by decide) (Nat.le_of_ble_eq_true rfl) rfl rfl rfl rfl h (fun _ hq => s_X12_write (by omega) hq) (fun _ M4 h => ?_)
  refine v_goto (tgt := 191) dX12_writeAll_174 (by decide) ?_
  exact V.pick [0, 1, 2, 3] rfl (t_X12_writeAll_191 hd_ hk18 h)
def b_X12_writeAll_18  (k18 : Nat → Int32 → Int32 → Int32 → jM → jO Unit) (v0 : Nat) (v1 : Int32) (v2 : Int32) (v3 : Int32) (M : jM) : jO Unit :=
  (gR 11 M v0 18).bind fun r1 =>
  (ldI M r1 v1).bind fun x2 =>
  if x2 ≤ v3 then
    rt () M
  else
    (jv (v2 + v3)).bind fun y3 =>
    (gR 11 M v0 19).bind fun r4 =>
    (ldB M r4 y3).bind fun x5 =>
    if x5 = (nI 4) then
      j_X12_writeAll_55 k18 v0 v1 v2 v3 M
    else
      (gR 11 M v0 19).bind fun r6 =>
      (ldB M r6 y3).bind fun x7 =>
      if x7 = (nI 5) then
        j_X12_writeAll_55 k18 v0 v1 v2 v3 M
      else
        (gR 11 M v0 19).bind fun r8 =>
        (ldB M r8 y3).bind fun x9 =>
        if x9 = (nI 1) then
          jb2 (jiv 11 M v0 (f_X12_write v0 (nI 45) M)) fun _ M10 =>
          j_X12_writeAll_191 k18 v0 v1 v2 v3 M10
        else
          (gR 11 M v0 19).bind fun r11 =>
          (ldB M r11 y3).bind fun x12 =>
          if (nI 4) ≤ x12 then
            jb2 (jiv 11 M v0 (f_X12_writeAtom v0 y3 M)) fun _ M13 =>
            jb2 (jiv 11 M13 v0 (f_X12_writeBehind v0 v1 (v3 + (nI 1)) M13)) fun _ M14 =>
            j_X12_writeAll_191 k18 v0 v1 v2 v3 M14
          else
            (gR 11 M v0 19).bind fun r15 =>
            (ldB M r15 y3).bind fun x16 =>
            if x16 = (nI 2) then
              j_X12_writeAll_157 k18 v0 v1 v2 v3 y3 v0 (nI 64) M
            else
              j_X12_writeAll_157 k18 v0 v1 v2 v3 y3 v0 (nI 63) M
def l_X12_writeAll_18  : Nat → Nat → Int32 → Int32 → Int32 → jM → jO Unit
  | 0 => fun _ _ _ _ _ => none
  | n + 1 => b_X12_writeAll_18  (l_X12_writeAll_18  n)
theorem tb_X12_writeAll_18 {G : jG} {d : Nat} (hd_ : 2 ≤ d)  {k18 : Nat → Int32 → Int32 → Int32 → jM → jO Unit} (hk18 : ∀ (w0 : Nat) (w1 : Int32) (w2 : Int32) (w3 : Int32) (M : jM) (b : Unit × jM), k18 w0 w1 w2 w3 M = some b → V G m_X12_writeAll d 18 [(0, .ref w0), (1, .int w1), (2, .int w2), (3, .int w3)] [] M (jQb cU b)) {v0 : Nat} {v1 : Int32} {v2 : Int32} {v3 : Int32} {M : jM} {b : Unit × jM} (h : b_X12_writeAll_18  k18 v0 v1 v2 v3 M = some b) : V G m_X12_writeAll d 18 [(0, .ref v0), (1, .int v1), (2, .int v2), (3, .int v3)] [] M (jQb cU b) := by
  unfold b_X12_writeAll_18 at h
  refine v_iload_n dX12_writeAll_18 rfl 3 rfl ?_
  refine v_aload_n dX12_writeAll_19 rfl 0 rfl ?_
  refine x_gR dX12_writeAll_20 kf_X12_37 rfl h (fun r1 h => ?_)
  refine v_iload_n dX12_writeAll_23 rfl 1 rfl ?_
  refine x_ldI dX12_writeAll_24 h (fun x2 h => ?_)
  refine x_ic_ge (tgt := 197) dX12_writeAll_25 (by decide) h (fun h => ?_) (fun h => ?_)
  · exact x_vret dX12_writeAll_197 rfl h
  · refine v_iload_n dX12_writeAll_28 rfl 2 rfl ?_
    refine v_iload_n dX12_writeAll_29 rfl 3 rfl ?_
    refine v_iadd dX12_writeAll_30 ?_
    refine x_jvI h (fun y3 h => ?_)
    refine v_istore (ls2 := [(4, .int y3), (0, .ref v0), (1, .int v1), (2, .int v2), (3, .int v3)]) dX12_writeAll_31 (by decide) rfl ?_
    refine v_aload_n dX12_writeAll_33 rfl 1 rfl ?_
    refine x_gR dX12_writeAll_34 kf_X12_40 rfl h (fun r4 h => ?_)
    refine v_iload dX12_writeAll_37 0 rfl ?_
    refine x_ldB dX12_writeAll_39 h (fun x5 h => ?_)
    refine v_iconst dX12_writeAll_40 ic_4 ?_
    refine x_ic_eq (tgt := 55) dX12_writeAll_41 (by decide) h (fun h => ?_) (fun h => ?_)
    · exact V.pick [1, 2, 3, 4] rfl (t_X12_writeAll_55 hd_ hk18 h)
    · refine v_aload_n dX12_writeAll_44 rfl 1 rfl ?_
      refine x_gR dX12_writeAll_45 kf_X12_40 rfl h (fun r6 h => ?_)
      refine v_iload dX12_writeAll_48 0 rfl ?_
      refine x_ldB dX12_writeAll_50 h (fun x7 h => ?_)
      refine v_iconst dX12_writeAll_51 ic_5 ?_
      refine x_ic_ne (tgt := 107) dX12_writeAll_52 (by decide) h (fun h => ?_) (fun h => ?_)
      · exact V.pick [1, 2, 3, 4] rfl (t_X12_writeAll_55 hd_ hk18 h)
      · refine v_aload_n dX12_writeAll_107 rfl 1 rfl ?_
        refine x_gR dX12_writeAll_108 kf_X12_40 rfl h (fun r8 h => ?_)
        refine v_iload dX12_writeAll_111 0 rfl ?_
        refine x_ldB dX12_writeAll_113 h (fun x9 h => ?_)
        refine v_iconst dX12_writeAll_114 ic_1 ?_
        refine x_ic_ne (tgt := 127) dX12_writeAll_115 (by decide) h (fun h => ?_) (fun h => ?_)
        · refine v_aload_n dX12_writeAll_118 rfl 1 rfl ?_
          refine v_bipush dX12_writeAll_119 bp_45 ?_
          refine x_inv (cv := cU) (As := [.int (nI 45)]) (rest := []) (ls2 := [(0, .ref v0), (1, .int (nI 45))]) (ci := 11) (by omega) dX12_writeAll_121 ke_X12_write kv_X12_305 rfl rfl (by decide) (Nat.le_of_ble_eq_true rfl) rfl rfl rfl rfl h (fun _ hq => s_X12_write (by omega) hq) (fun _ M10 h => ?_)
          refine v_goto (tgt := 191) dX12_writeAll_124 (by decide) ?_
          exact V.pick [1, 2, 3, 4] rfl (t_X12_writeAll_191 hd_ hk18 h)
        · refine v_aload_n dX12_writeAll_127 rfl 1 rfl ?_
          refine x_gR dX12_writeAll_128 kf_X12_40 rfl h (fun r11 h => ?_)
          refine v_iload dX12_writeAll_131 0 rfl ?_
          refine x_ldB dX12_writeAll_133 h (fun x12 h => ?_)
          refine v_iconst dX12_writeAll_134 ic_4 ?_
          refine x_ic_ge (tgt := 177) dX12_writeAll_135 (by decide) h (fun h => ?_) (fun h => ?_)
          · refine v_aload_n dX12_writeAll_177 rfl 1 rfl ?_
            refine v_iload dX12_writeAll_178 0 rfl ?_
            refine x_inv (cv := cU) (As := [.int y3]) (rest := []) (ls2 := [(0, .ref v0), (1, .int y3)]) (ci := 11) (by omega) dX12_writeAll_180 ke_X12_writeAtom kv_X12_311 rfl rfl (by decide) (Nat.le_of_ble_eq_true rfl) rfl rfl rfl rfl h (fun _ hq => s_X12_writeAtom (by omega) hq) (fun _ M13 h => ?_)
            refine v_aload_n dX12_writeAll_183 rfl 1 rfl ?_
            refine v_iload_n dX12_writeAll_184 rfl 2 rfl ?_
            refine v_iload_n dX12_writeAll_185 rfl 4 rfl ?_
            refine v_iconst dX12_writeAll_186 ic_1 ?_
            refine v_iadd dX12_writeAll_187 ?_
            refine x_inv (cv := cU) (As := [.int v1, .int (v3 + (nI 1))]) (rest := []) (ls2 := [(0, .ref v0), (1, .int v1), (2, .int (v3 + (nI 1)))]) (ci := 11) (by omega) dX12_writeAll_188 ke_X12_writeBehind kv_X12_314 rfl rfl (by decide) (Nat.le_of_ble_eq_true rfl) rfl rfl rfl rfl h (fun _ hq => s_X12_writeBehind (by omega) hq) (fun _ M14 h => ?_)
            exact V.pick [1, 2, 3, 4] rfl (t_X12_writeAll_191 hd_ hk18 h)
          · refine v_aload_n dX12_writeAll_138 rfl 1 rfl ?_
            refine v_aload_n dX12_writeAll_139 rfl 1 rfl ?_
            refine x_gR dX12_writeAll_140 kf_X12_40 rfl h (fun r15 h => ?_)
            refine v_iload dX12_writeAll_143 0 rfl ?_
            refine x_ldB dX12_writeAll_145 h (fun x16 h => ?_)
            refine v_iconst dX12_writeAll_146 ic_2 ?_
            refine x_ic_ne (tgt := 155) dX12_writeAll_147 (by decide) h (fun h => ?_) (fun h => ?_)
            · refine v_bipush dX12_writeAll_150 bp_64 ?_
              refine v_goto (tgt := 157) dX12_writeAll_152 (by decide) ?_
              exact V.pick [1, 2, 3, 4, 0] rfl (t_X12_writeAll_157 hd_ hk18 h)
            · refine v_bipush dX12_writeAll_155 bp_63 ?_
              exact V.pick [1, 2, 3, 4, 0] rfl (t_X12_writeAll_157 hd_ hk18 h)
theorem t_X12_writeAll_18 {G : jG} {d : Nat} (hd_ : 2 ≤ d)  : ∀ (n : Nat) (v0 : Nat) (v1 : Int32) (v2 : Int32) (v3 : Int32) (M : jM) (b : Unit × jM), l_X12_writeAll_18  n v0 v1 v2 v3 M = some b → V G m_X12_writeAll d 18 [(0, .ref v0), (1, .int v1), (2, .int v2), (3, .int v3)] [] M (jQb cU b) := by
  intro n
  induction n with
  | zero => intro v0 v1 v2 v3 M b h; exact nomatch (show (none : jO Unit) = some b from h)
  | succ n ih => intro v0 v1 v2 v3 M b h; exact tb_X12_writeAll_18 hd_  ih h
def f_X12_writeAll (v0 : Nat) (v1 : Int32) (M : jM) : jO Unit :=
  (jv ((nI 600) * v1)).bind fun y1 =>
  (pI 11 M v0 42 (nI 0)).bind fun M2 =>
  (pI 11 M2 v0 38 (nI 0)).bind fun M3 =>
  l_X12_writeAll_18 jF0 v0 v1 y1 (nI 0) M3
theorem s_X12_writeAll {G : jG} {d : Nat} (hd_ : 2 ≤ d) {v0 : Nat} {v1 : Int32} {M : jM} {b : Unit × jM} (h : f_X12_writeAll  v0 v1 M = some b) : V G m_X12_writeAll d 0 [(0, .ref v0), (1, .int v1)] [] M (jQb cU b) := by
  unfold f_X12_writeAll at h
  refine v_sipush dX12_writeAll_0 sp_600 ?_
  refine v_iload_n dX12_writeAll_3 rfl 1 rfl ?_
  refine v_imul dX12_writeAll_4 ?_
  refine x_jvI h (fun y1 h => ?_)
  refine v_istore_n (ls2 := [(2, .int y1), (0, .ref v0), (1, .int v1)]) dX12_writeAll_5 rfl (by decide) rfl ?_
  refine v_aload_n dX12_writeAll_6 rfl 1 rfl ?_
  refine v_iconst dX12_writeAll_7 ic_0 ?_
  refine x_pI dX12_writeAll_8 kf_X12_302 rfl (fun q => Bool.noConfusion q) h (fun M2 h => ?_)
  refine v_aload_n dX12_writeAll_11 rfl 1 rfl ?_
  refine v_iconst dX12_writeAll_12 ic_0 ?_
  refine x_pI dX12_writeAll_13 kf_X12_308 rfl (fun q => Bool.noConfusion q) h (fun M3 h => ?_)
  refine v_iconst dX12_writeAll_16 ic_0 ?_
  refine v_istore_n (ls2 := [(3, .int (nI 0)), (2, .int y1), (0, .ref v0), (1, .int v1)]) dX12_writeAll_17 rfl (by decide) rfl ?_
  exact V.pick [2, 3, 1, 0] rfl (t_X12_writeAll_18 hd_ _ _ _ _ _ _ _ h)
