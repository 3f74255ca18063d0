def f_X12_add (v0 : Nat) (v1 : Int32) (v2 : Int32) (M : jM) : jO Unit :=
  (gR 11 M v0 8).bind fun r1 =>
  (gI 11 M v0 7).bind fun x2 =>
  (stI M r1 x2 v1).bind fun M3 =>
  (gR 11 M3 v0 9).bind fun r4 =>
  (gI 11 M3 v0 7).bind fun x5 =>
  (stI M3 r4 x5 v2).bind fun M6 =>
  (gI 11 M6 v0 7).bind fun x7 =>
  (pI 11 M6 v0 7 (x7 + (nI 1))).bind fun M8 =>
  rt () M8
theorem s_X12_add {G : jG} {d : Nat} (hd_ : 0 ≤ d) {v0 : Nat} {v1 : Int32} {v2 : Int32} {M : jM} {b : Unit × jM} (h : f_X12_add  v0 v1 v2 M = some b) : V G m_X12_add d 0 [(0, .ref v0), (1, .int v1), (2, .int v2)] [] M (jQb cU b) := by
  unfold f_X12_add at h
  refine v_aload_n dX12_add_0 rfl 0 rfl ?_
  refine x_gR dX12_add_1 kf_X12_25 rfl h (fun r1 h => ?_)
  refine v_aload_n dX12_add_4 rfl 0 rfl ?_
  refine x_gI dX12_add_5 kf_X12_169 rfl h (fun x2 h => ?_)
  refine v_iload_n dX12_add_8 rfl 1 rfl ?_
  refine x_stI dX12_add_9 h (fun M3 h => ?_)
  refine v_aload_n dX12_add_10 rfl 0 rfl ?_
  refine x_gR dX12_add_11 kf_X12_28 rfl h (fun r4 h => ?_)
  refine v_aload_n dX12_add_14 rfl 0 rfl ?_
  refine x_gI dX12_add_15 kf_X12_169 rfl h (fun x5 h => ?_)
  refine v_iload_n dX12_add_18 rfl 2 rfl ?_
  refine x_stI dX12_add_19 h (fun M6 h => ?_)
  refine v_aload_n dX12_add_20 rfl 0 rfl ?_
  refine v_dup dX12_add_21 rfl ?_
  refine x_gI dX12_add_22 kf_X12_169 rfl h (fun x7 h => ?_)
  refine v_iconst dX12_add_25 ic_1 ?_
  refine v_iadd dX12_add_26 ?_
  refine x_pI dX12_add_27 kf_X12_169 rfl (fun q => Bool.noConfusion q) h (fun M8 h => ?_)
  exact x_vret dX12_add_30 rfl h
def f_X12_begin (v0 : Nat) (v1 : Int32) (v2 : Int32) (M : jM) : jO Unit :=
  (pI 11 M v0 5 v1).bind fun M1 =>
  (pI 11 M1 v0 6 v2).bind fun M2 =>
  (pI 11 M2 v0 7 (nI 0)).bind fun M3 =>
  rt () M3
theorem s_X12_begin {G : jG} {d : Nat} (hd_ : 0 ≤ d) {v0 : Nat} {v1 : Int32} {v2 : Int32} {M : jM} {b : Unit × jM} (h : f_X12_begin  v0 v1 v2 M = some b) : V G m_X12_begin d 0 [(0, .ref v0), (1, .int v1), (2, .int v2)] [] M (jQb cU b) := by
  unfold f_X12_begin at h
  refine v_aload_n dX12_begin_0 rfl 0 rfl ?_
  refine v_iload_n dX12_begin_1 rfl 1 rfl ?_
  refine x_pI dX12_begin_2 kf_X12_163 rfl (fun q => Bool.noConfusion q) h (fun M1 h => ?_)
  refine v_aload_n dX12_begin_5 rfl 0 rfl ?_
  refine v_iload_n dX12_begin_6 rfl 2 rfl ?_
  refine x_pI dX12_begin_7 kf_X12_166 rfl (fun q => Bool.noConfusion q) h (fun M2 h => ?_)
  refine v_aload_n dX12_begin_10 rfl 0 rfl ?_
  refine v_iconst dX12_begin_11 ic_0 ?_
  refine x_pI dX12_begin_12 kf_X12_169 rfl (fun q => Bool.noConfusion q) h (fun M3 h => ?_)
  exact x_vret dX12_begin_15 rfl h
def b_X12_layPlay_10  (k10 : Nat → Int32 → jM → jO Unit) (v0 : Nat) (v1 : Int32) (M : jM) : jO Unit :=
  (gI 11 M v0 12).bind fun x1 =>
  if x1 ≤ v1 then
    rt () M
  else
    (gR 11 M v0 13).bind fun r2 =>
    (ldI M r2 v1).bind fun x3 =>
    (gR 11 M v0 14).bind fun r4 =>
    (ldI M r4 v1).bind fun x5 =>
    jb2 (jiv 11 M v0 (f_X12_add v0 x3 x5 M)) fun _ M6 =>
    k10 v0 (v1 + (nI 1)) M6
def l_X12_layPlay_10  : Nat → Nat → Int32 → jM → jO Unit
  | 0 => fun _ _ _ => none
  | n + 1 => b_X12_layPlay_10  (l_X12_layPlay_10  n)
theorem tb_X12_layPlay_10 {G : jG} {d : Nat} (hd_ : 1 ≤ d)  {k10 : Nat → Int32 → jM → jO Unit} (hk10 : ∀ (w0 : Nat) (w1 : Int32) (M : jM) (b : Unit × jM), k10 w0 w1 M = some b → V G m_X12_layPlay d 10 [(0, .ref w0), (1, .int w1)] [] M (jQb cU b)) {v0 : Nat} {v1 : Int32} {M : jM} {b : Unit × jM} (h : b_X12_layPlay_10  k10 v0 v1 M = some b) : V G m_X12_layPlay d 10 [(0, .ref v0), (1, .int v1)] [] M (jQb cU b) := by
  unfold b_X12_layPlay_10 at h
  refine v_iload_n dX12_layPlay_10 rfl 1 rfl ?_
  refine v_aload_n dX12_layPlay_11 rfl 0 rfl ?_
  refine x_gI dX12_layPlay_12 kf_X12_207 rfl h (fun x1 h => ?_)
  refine x_ic_ge (tgt := 40) dX12_layPlay_15 (by decide) h (fun h => ?_) (fun h => ?_)
  · exact x_vret dX12_layPlay_40 rfl h
  · refine v_aload_n dX12_layPlay_18 rfl 0 rfl ?_
    refine v_aload_n dX12_layPlay_19 rfl 0 rfl ?_
    refine x_gR dX12_layPlay_20 kf_X12_31 rfl h (fun r2 h => ?_)
    refine v_iload_n dX12_layPlay_23 rfl 1 rfl ?_
    refine x_ldI dX12_layPlay_24 h (fun x3 h => ?_)
    refine v_aload_n dX12_layPlay_25 rfl 0 rfl ?_
    refine x_gR dX12_layPlay_26 kf_X12_34 rfl h (fun r4 h => ?_)
    refine v_iload_n dX12_layPlay_29 rfl 1 rfl ?_
    refine x_ldI dX12_layPlay_30 h (fun x5 h => ?_)
    refine x_inv (cv := cU) (As := [.int x3, .int x5]) (rest := []) (ls2 := [(0, .ref v0), (1, .int x3), (2, .int x5)]) (ci := 11) (by omega) dX12_layPlay_31 ke_X12_add kv_X12_175 rfl rfl (by decide) (Nat.le_of_ble_eq_true rfl) rfl rfl rfl rfl h (fun _ hq => s_X12_add (by omega) hq) (fun _ M6 h => ?_)
    refine v_iincC (ls2 := [(1, .int (v1 + (nI 1))), (0, .ref v0)]) dX12_layPlay_34 ic_1 1 rfl (by decide) rfl ?_
    refine v_goto (tgt := 10) dX12_layPlay_37 (by decide) ?_
    exact V.pick [1, 0] rfl (hk10 _ _ _ _ h)
theorem t_X12_layPlay_10 {G : jG} {d : Nat} (hd_ : 1 ≤ d)  : ∀ (n : Nat) (v0 : Nat) (v1 : Int32) (M : jM) (b : Unit × jM), l_X12_layPlay_10  n v0 v1 M = some b → V G m_X12_layPlay d 10 [(0, .ref v0), (1, .int v1)] [] M (jQb cU b) := by
  intro n
  induction n with
  | zero => intro v0 v1 M b h; exact nomatch (show (none : jO Unit) = some b from h)
  | succ n ih => intro v0 v1 M b h; exact tb_X12_layPlay_10 hd_  ih h
def f_X12_layPlay (v0 : Nat) (M : jM) : jO Unit :=
  jb2 (jiv 11 M v0 (f_X12_begin v0 (nI 6) (nI 7) M)) fun _ M1 =>
  l_X12_layPlay_10 jF0 v0 (nI 0) M1
theorem s_X12_layPlay {G : jG} {d : Nat} (hd_ : 1 ≤ d) {v0 : Nat} {M : jM} {b : Unit × jM} (h : f_X12_layPlay  v0 M = some b) : V G m_X12_layPlay d 0 [(0, .ref v0)] [] M (jQb cU b) := by
  unfold f_X12_layPlay at h
  refine v_aload_n dX12_layPlay_0 rfl 0 rfl ?_
  refine v_bipush dX12_layPlay_1 bp_6 ?_
  refine v_bipush dX12_layPlay_3 bp_7 ?_
  refine x_inv (cv := cU) (As := [.int (nI 6), .int (nI 7)]) (rest := []) (ls2 := [(0, .ref v0), (1, .int (nI 6)), (2, .int (nI 7))]) (ci := 11) (by omega) dX12_layPlay_5 ke_X12_begin kv_X12_198 rfl rfl (by decide) (Nat.le_of_ble_eq_true rfl) rfl rfl rfl rfl h (fun _ hq => s_X12_begin (by omega) hq) (fun _ M1 h => ?_)
  refine v_iconst dX12_layPlay_8 ic_0 ?_
  refine v_istore_n (ls2 := [(1, .int (nI 0)), (0, .ref v0)]) dX12_layPlay_9 rfl (by decide) rfl ?_
  exact V.pick [1, 0] rfl (t_X12_layPlay_10 hd_ _ _ _ _ _ h)
def j_X12_judge_28  (s0 : Nat) (s1 : Int32) (M : jM) : jO Unit :=
  (pI 11 M s0 10 s1).bind fun M1 =>
  rt () M1
theorem t_X12_judge_28 {G : jG} {d : Nat} (hd_ : 3 ≤ d)  {s0 : Nat} {s1 : Int32} {M : jM} {b : Unit × jM} (h : j_X12_judge_28  s0 s1 M = some b) : V G m_X12_judge d 28 [] [.int s1, .ref s0] M (jQb cU b) := by
  unfold j_X12_judge_28 at h
  refine x_pI dX12_judge_28 kf_X12_126 rfl (fun q => Bool.noConfusion q) h (fun M1 h => ?_)
  exact x_vret dX12_judge_31 rfl h
def f_X12_judge (v0 : Nat) (M : jM) : jO Unit :=
  jb2 (jiv 11 M v0 (f_X12_layPlay v0 M)) fun _ M1 =>
  jb2 (jiv 11 M1 v0 (f_X12_areAlike v0 M1)) fun x3 M2 =>
  if x3 = 0 then
    j_X12_judge_28 v0 (nI 4) M2
  else
    (gI 11 M2 v0 11).bind fun x4 =>
    if x4 = 0 then
      j_X12_judge_28 v0 (nI 3) M2
    else
      j_X12_judge_28 v0 (nI 1) M2
theorem s_X12_judge {G : jG} {d : Nat} (hd_ : 3 ≤ d) {v0 : Nat} {M : jM} {b : Unit × jM} (h : f_X12_judge  v0 M = some b) : V G m_X12_judge d 0 [(0, .ref v0)] [] M (jQb cU b) := by
  unfold f_X12_judge at h
  refine v_aload_n dX12_judge_0 rfl 0 rfl ?_
  refine x_inv (cv := cU) (As := []) (rest := []) (ls2 := [(0, .ref v0)]) (ci := 11) (by omega) dX12_judge_1 ke_X12_layPlay kv_X12_210 rfl rfl (by decide) (Nat.le_of_ble_eq_true rfl) rfl rfl rfl rfl h (fun _ hq => s_X12_layPlay (by omega) hq) (fun _ M1 h => ?_)
  refine v_aload_n dX12_judge_4 rfl 0 rfl ?_
  refine v_aload_n dX12_judge_5 rfl 0 rfl ?_
  refine x_inv (cv := cI) (As := []) (rest := [.ref v0]) (ls2 := [(0, .ref v0)]) (ci := 11) (by omega) dX12_judge_6 ke_X12_areAlike kv_X12_178 rfl rfl (by decide) (Nat.le_of_ble_eq_true rfl) rfl rfl rfl rfl h (fun _ hq => s_X12_areAlike (by omega) hq) (fun x3 M2 h => ?_)
  refine x_if_ne (tgt := 16) dX12_judge_9 (by decide) h (fun h => ?_) (fun h => ?_)
  · refine v_iconst dX12_judge_12 ic_4 ?_
    refine v_goto (tgt := 28) dX12_judge_13 (by decide) ?_
    exact V.pick [] rfl (t_X12_judge_28 hd_ h)
  · refine v_aload_n dX12_judge_16 rfl 0 rfl ?_
    refine x_gI dX12_judge_17 kf_X12_213 rfl h (fun x4 h => ?_)
    refine x_if_ne (tgt := 27) dX12_judge_20 (by decide) h (fun h => ?_) (fun h => ?_)
    · refine v_iconst dX12_judge_23 ic_3 ?_
      refine v_goto (tgt := 28) dX12_judge_24 (by decide) ?_
      exact V.pick [] rfl (t_X12_judge_28 hd_ h)
    · refine v_iconst dX12_judge_27 ic_1 ?_
      exact V.pick [] rfl (t_X12_judge_28 hd_ h)
def j_X12_answer_83  (v0 : Nat) (s0 : Nat) (s1 : Int32) (s2 : Int32) (M : jM) : jO Int32 :=
  (stI M s0 s1 s2).bind fun M1 =>
  (gI 11 M1 v0 12).bind fun x2 =>
  (pI 11 M1 v0 12 (x2 + (nI 1))).bind fun M3 =>
  (gI 11 M3 v0 11).bind fun x4 =>
  (pI 11 M3 v0 11 (x4 - (nI 1))).bind fun M5 =>
  jb2 (jiv 11 M5 v0 (f_X12_judge v0 M5)) fun _ M6 =>
  rt (nI 1) M6
theorem t_X12_answer_83 {G : jG} {d : Nat} (hd_ : 4 ≤ d)  {v0 : Nat} {s0 : Nat} {s1 : Int32} {s2 : Int32} {M : jM} {b : Int32 × jM} (h : j_X12_answer_83  v0 s0 s1 s2 M = some b) : V G m_X12_answer d 83 [(0, .ref v0)] [.int s2, .int s1, .ref s0] M (jQb cI b) := by
  unfold j_X12_answer_83 at h
  refine x_stI dX12_answer_83 h (fun M1 h => ?_)
  refine v_aload_n dX12_answer_84 rfl 0 rfl ?_
  refine v_dup dX12_answer_85 rfl ?_
  refine x_gI dX12_answer_86 kf_X12_207 rfl h (fun x2 h => ?_)
  refine v_iconst dX12_answer_89 ic_1 ?_
  refine v_iadd dX12_answer_90 ?_
  refine x_pI dX12_answer_91 kf_X12_207 rfl (fun q => Bool.noConfusion q) h (fun M3 h => ?_)
  refine v_aload_n dX12_answer_94 rfl 0 rfl ?_
  refine v_dup dX12_answer_95 rfl ?_
  refine x_gI dX12_answer_96 kf_X12_213 rfl h (fun x4 h => ?_)
  refine v_iconst dX12_answer_99 ic_1 ?_
  refine v_isub dX12_answer_100 ?_
  refine x_pI dX12_answer_101 kf_X12_213 rfl (fun q => Bool.noConfusion q) h (fun M5 h => ?_)
  refine v_aload_n dX12_answer_104 rfl 0 rfl ?_
  refine x_inv (cv := cU) (As := []) (rest := []) (ls2 := [(0, .ref v0)]) (ci := 11) (by omega) dX12_answer_105 ke_X12_judge kv_X12_219 rfl rfl (by decide) (Nat.le_of_ble_eq_true rfl) rfl rfl rfl rfl h (fun _ hq => s_X12_judge (by omega) hq) (fun _ M6 h => ?_)
  refine v_iconst dX12_answer_108 ic_1 ?_
  exact x_iret dX12_answer_109 rfl h
def j_X12_answer_59  (v0 : Nat) (v1 : Int32) (s0 : Nat) (s1 : Int32) (s2 : Int32) (M : jM) : jO Int32 :=
  (stI M s0 s1 s2).bind fun M1 =>
  (gR 11 M1 v0 14).bind fun r2 =>
  (gI 11 M1 v0 12).bind fun x3 =>
  (gI 11 M1 v0 15).bind fun x4 =>
  if x4 = 0 then
    j_X12_answer_83 v0 r2 x3 v1 M1
  else
    (gI 11 M1 v0 16).bind fun x5 =>
    j_X12_answer_83 v0 r2 x3 x5 M1
theorem t_X12_answer_59 {G : jG} {d : Nat} (hd_ : 4 ≤ d)  {v0 : Nat} {v1 : Int32} {s0 : Nat} {s1 : Int32} {s2 : Int32} {M : jM} {b : Int32 × jM} (h : j_X12_answer_59  v0 v1 s0 s1 s2 M = some b) : V G m_X12_answer d 59 [(0, .ref v0), (1, .int v1)] [.int s2, .int s1, .ref s0] M (jQb cI b) := by
  unfold j_X12_answer_59 at h
  refine x_stI dX12_answer_59 h (fun M1 h => ?_)
  refine v_aload_n dX12_answer_60 rfl 0 rfl ?_
  refine x_gR dX12_answer_61 kf_X12_34 rfl h (fun r2 h => ?_)
  refine v_aload_n dX12_answer_64 rfl 0 rfl ?_
  refine x_gI dX12_answer_65 kf_X12_207 rfl h (fun x3 h => ?_)
  refine v_aload_n dX12_answer_68 rfl 0 rfl ?_
  refine x_gI dX12_answer_69 kf_X12_222 rfl h (fun x4 h => ?_)
  refine x_if_ne (tgt := 79) dX12_answer_72 (by decide) h (fun h => ?_) (fun h => ?_)
  · refine v_iload_n dX12_answer_75 rfl 1 rfl ?_
    refine v_goto (tgt := 83) dX12_answer_76 (by decide) ?_
    exact V.pick [0] rfl (t_X12_answer_83 hd_ h)
  · refine v_aload_n dX12_answer_79 rfl 0 rfl ?_
    refine x_gI dX12_answer_80 kf_X12_225 rfl h (fun x5 h => ?_)
    exact V.pick [0] rfl (t_X12_answer_83 hd_ h)
def f_X12_answer (v0 : Nat) (v1 : Int32) (M : jM) : jO Int32 :=
  (gI 11 M v0 10).bind fun x1 =>
  if x1 = (nI 2) then
    (gR 11 M v0 0).bind fun r2 =>
    (gI 11 M v0 15).bind fun x3 =>
    (ldI M r2 ((nI 7) - x3)).bind fun x4 =>
    jb2 (f_X12_in v1 (nI 0) (x4 - (nI 1)) M) fun x6 M5 =>
    if x6 = 0 then
      rt (-2 : Int32) M5
    else
      (gR 11 M5 v0 13).bind fun r7 =>
      (gI 11 M5 v0 12).bind fun x8 =>
      (gI 11 M5 v0 15).bind fun x9 =>
      if x9 = 0 then
        (gI 11 M5 v0 16).bind fun x10 =>
        j_X12_answer_59 v0 v1 r7 x8 x10 M5
      else
        j_X12_answer_59 v0 v1 r7 x8 v1 M5
  else
    rt (-3 : Int32) M
theorem s_X12_answer {G : jG} {d : Nat} (hd_ : 4 ≤ d) {v0 : Nat} {v1 : Int32} {M : jM} {b : Int32 × jM} (h : f_X12_answer  v0 v1 M = some b) : V G m_X12_answer d 0 [(0, .ref v0), (1, .int v1)] [] M (jQb cI b) := by
  unfold f_X12_answer at h
  refine v_aload_n dX12_answer_0 rfl 0 rfl ?_
  refine x_gI dX12_answer_1 kf_X12_126 rfl h (fun x1 h => ?_)
  refine v_iconst dX12_answer_4 ic_2 ?_
  refine x_ic_eq (tgt := 11) dX12_answer_5 (by decide) h (fun h => ?_) (fun h => ?_)
  · refine v_iload_n dX12_answer_11 rfl 1 rfl ?_
    refine v_iconst dX12_answer_12 ic_0 ?_
    refine v_aload_n dX12_answer_13 rfl 0 rfl ?_
    refine x_gR dX12_answer_14 kf_X12_7 rfl h (fun r2 h => ?_)
    refine v_bipush dX12_answer_17 bp_7 ?_
    refine v_aload_n dX12_answer_19 rfl 0 rfl ?_
    refine x_gI dX12_answer_20 kf_X12_222 rfl h (fun x3 h => ?_)
    refine v_isub dX12_answer_23 ?_
    refine x_ldI dX12_answer_24 h (fun x4 h => ?_)
    refine v_iconst dX12_answer_25 ic_1 ?_
    refine v_isub dX12_answer_26 ?_
    refine x_invs (cv := cI) (As := [.int v1, .int (nI 0), .int (x4 - (nI 1))]) (rest := []) (ls2 := [(0, .int v1), (1, .int (nI 0)), (2, .int (x4 - (nI 1)))]) (by omega) dX12_answer_27 ke_X12_in ks_X12_133 (Nat.le_of_ble_eq_true rfl) rfl rfl rfl rfl h (fun _ hq => s_X12_in (by omega) hq) (fun x6 M5 h => ?_)
    refine x_if_ne (tgt := 36) dX12_answer_30 (by decide) h (fun h => ?_) (fun h => ?_)
    · refine v_bipush dX12_answer_33 bp_m2 ?_
      exact x_iret dX12_answer_35 rfl h
    · refine v_aload_n dX12_answer_36 rfl 0 rfl ?_
      refine x_gR dX12_answer_37 kf_X12_31 rfl h (fun r7 h => ?_)
      refine v_aload_n dX12_answer_40 rfl 0 rfl ?_
      refine x_gI dX12_answer_41 kf_X12_207 rfl h (fun x8 h => ?_)
      refine v_aload_n dX12_answer_44 rfl 0 rfl ?_
      refine x_gI dX12_answer_45 kf_X12_222 rfl h (fun x9 h => ?_)
      refine x_if_ne (tgt := 58) dX12_answer_48 (by decide) h (fun h => ?_) (fun h => ?_)
      · refine v_aload_n dX12_answer_51 rfl 0 rfl ?_
        refine x_gI dX12_answer_52 kf_X12_225 rfl h (fun x10 h => ?_)
        refine v_goto (tgt := 59) dX12_answer_55 (by decide) ?_
        exact t_X12_answer_59 hd_ h
      · refine v_iload_n dX12_answer_58 rfl 1 rfl ?_
        exact t_X12_answer_59 hd_ h
  · refine v_bipush dX12_answer_8 bp_m3 ?_
    exact x_iret dX12_answer_10 rfl h
def f_X12_asked (v0 : Nat) (M : jM) : jO Int32 :=
  (gI 11 M v0 44).bind fun x1 =>
  rt x1 M
theorem s_X12_asked {G : jG} {d : Nat} (hd_ : 0 ≤ d) {v0 : Nat} {M : jM} {b : Int32 × jM} (h : f_X12_asked  v0 M = some b) : V G m_X12_asked d 0 [(0, .ref v0)] [] M (jQb cI b) := by
  unfold f_X12_asked at h
  refine v_aload_n dX12_asked_0 rfl 0 rfl ?_
  refine x_gI dX12_asked_1 kf_X12_341 rfl h (fun x1 h => ?_)
  exact x_iret dX12_asked_4 rfl h
def f_X12_addPick (v0 : Nat) (v1 : Int32) (v2 : Int32) (v3 : Int32) (M : jM) : jO Unit :=
  if v1 = 0 then
    jb2 (jiv 11 M v0 (f_X12_add v0 v2 v3 M)) fun _ M1 =>
    rt () M1
  else
    jb2 (jiv 11 M v0 (f_X12_add v0 v3 v2 M)) fun _ M2 =>
    rt () M2
theorem s_X12_addPick {G : jG} {d : Nat} (hd_ : 1 ≤ d) {v0 : Nat} {v1 : Int32} {v2 : Int32} {v3 : Int32} {M : jM} {b : Unit × jM} (h : f_X12_addPick  v0 v1 v2 v3 M = some b) : V G m_X12_addPick d 0 [(0, .ref v0), (1, .int v1), (2, .int v2), (3, .int v3)] [] M (jQb cU b) := by
  unfold f_X12_addPick at h
  refine v_iload_n dX12_addPick_0 rfl 1 rfl ?_
  refine x_if_ne (tgt := 13) dX12_addPick_1 (by decide) h (fun h => ?_) (fun h => ?_)
  · refine v_aload_n dX12_addPick_4 rfl 0 rfl ?_
    refine v_iload_n dX12_addPick_5 rfl 2 rfl ?_
    refine v_iload_n dX12_addPick_6 rfl 3 rfl ?_
    refine x_inv (cv := cU) (As := [.int v2, .int v3]) (rest := []) (ls2 := [(0, .ref v0), (1, .int v2), (2, .int v3)]) (ci := 11) (by omega) dX12_addPick_7 ke_X12_add kv_X12_175 rfl rfl (by decide) (Nat.le_of_ble_eq_true rfl) rfl rfl rfl rfl h (fun _ hq => s_X12_add (by omega) hq) (fun _ M1 h => ?_)
    refine v_goto (tgt := 19) dX12_addPick_10 (by decide) ?_
    exact x_vret dX12_addPick_19 rfl h
  · refine v_aload_n dX12_addPick_13 rfl 0 rfl ?_
    refine v_iload_n dX12_addPick_14 rfl 3 rfl ?_
    refine v_iload_n dX12_addPick_15 rfl 2 rfl ?_
    refine x_inv (cv := cU) (As := [.int v3, .int v2]) (rest := []) (ls2 := [(0, .ref v0), (1, .int v3), (2, .int v2)]) (ci := 11) (by omega) dX12_addPick_16 ke_X12_add kv_X12_175 rfl rfl (by decide) (Nat.le_of_ble_eq_true rfl) rfl rfl rfl rfl h (fun _ hq => s_X12_add (by omega) hq) (fun _ M2 h => ?_)
    exact x_vret dX12_addPick_19 rfl h
def j_X12_manyOf_19  (s0 : Nat) (s1 : Int32) (M : jM) : jO Int32 :=
  (ldI M s0 s1).bind fun x1 =>
  rt x1 M
theorem t_X12_manyOf_19 {G : jG} {d : Nat} (hd_ : 0 ≤ d)  {s0 : Nat} {s1 : Int32} {M : jM} {b : Int32 × jM} (h : j_X12_manyOf_19  s0 s1 M = some b) : V G m_X12_manyOf d 19 [] [.int s1, .ref s0] M (jQb cI b) := by
  unfold j_X12_manyOf_19 at h
  refine x_ldI dX12_manyOf_19 h (fun x1 h => ?_)
  exact x_iret dX12_manyOf_20 rfl h
def f_X12_manyOf (v0 : Nat) (v1 : Int32) (M : jM) : jO Int32 :=
  (gR 11 M v0 0).bind fun r1 =>
  if v1 = 0 then
    (gI 11 M v0 5).bind fun x2 =>
    j_X12_manyOf_19 r1 x2 M
  else
    (gI 11 M v0 6).bind fun x3 =>
    j_X12_manyOf_19 r1 x3 M
theorem s_X12_manyOf {G : jG} {d : Nat} (hd_ : 0 ≤ d) {v0 : Nat} {v1 : Int32} {M : jM} {b : Int32 × jM} (h : f_X12_manyOf  v0 v1 M = some b) : V G m_X12_manyOf d 0 [(0, .ref v0), (1, .int v1)] [] M (jQb cI b) := by
  unfold f_X12_manyOf at h
  refine v_aload_n dX12_manyOf_0 rfl 0 rfl ?_
  refine x_gR dX12_manyOf_1 kf_X12_7 rfl h (fun r1 h => ?_)
  refine v_iload_n dX12_manyOf_4 rfl 1 rfl ?_
  refine x_if_ne (tgt := 15) dX12_manyOf_5 (by decide) h (fun h => ?_) (fun h => ?_)
  · refine v_aload_n dX12_manyOf_8 rfl 0 rfl ?_
    refine x_gI dX12_manyOf_9 kf_X12_163 rfl h (fun x2 h => ?_)
    refine v_goto (tgt := 19) dX12_manyOf_12 (by decide) ?_
    exact V.pick [] rfl (t_X12_manyOf_19 hd_ h)
  · refine v_aload_n dX12_manyOf_15 rfl 0 rfl ?_
    refine x_gI dX12_manyOf_16 kf_X12_166 rfl h (fun x3 h => ?_)
    exact V.pick [] rfl (t_X12_manyOf_19 hd_ h)
def j_X12_keeps1_83 (k7 : Nat → Int32 → Int32 → jM → jO Int32) (k14 : Nat → Int32 → Int32 → Int32 → jM → jO Int32) (v0 : Nat) (v1 : Int32) (v2 : Int32) (v3 : Int32) (M : jM) : jO Int32 :=
  k14 v0 v1 v2 (v3 + (nI 1)) M
theorem t_X12_keeps1_83 {G : jG} {d : Nat} (hd_ : 3 ≤ d) {k7 : Nat → Int32 → Int32 → jM → jO Int32} (hk7 : ∀ (w0 : Nat) (w1 : Int32) (w2 : Int32) (M : jM) (b : Int32 × jM), k7 w0 w1 w2 M = some b → V G m_X12_keeps1 d 7 [(0, .ref w0), (1, .int w1), (2, .int w2)] [] M (jQb cI b)) {k14 : Nat → Int32 → Int32 → Int32 → jM → jO Int32} (hk14 : ∀ (w0 : Nat) (w1 : Int32) (w2 : Int32) (w3 : Int32) (M : jM) (b : Int32 × jM), k14 w0 w1 w2 w3 M = some b → V G m_X12_keeps1 d 14 [(0, .ref w0), (1, .int w1), (2, .int w2), (3, .int w3)] [] M (jQb cI b)) {v0 : Nat} {v1 : Int32} {v2 : Int32} {v3 : Int32} {M : jM} {b : Int32 × jM} (h : j_X12_keeps1_83 k7 k14 v0 v1 v2 v3 M = some b) : V G m_X12_keeps1 d 83 [(0, .ref v0), (1, .int v1), (2, .int v2), (3, .int v3)] [] M (jQb cI b) := by
  unfold j_X12_keeps1_83 at h
  refine v_iincC (ls2 := [(3, .int (v3 + (nI 1))), (0, .ref v0), (1, .int v1), (2, .int v2)]) dX12_keeps1_83 ic_1 3 rfl (by decide) rfl ?_
  refine v_goto (tgt := 14) dX12_keeps1_86 (by decide) ?_
  exact V.pick [1, 2, 3, 0] rfl (hk14 _ _ _ _ _ _ h)
def b_X12_keeps1_32 (k7 : Nat → Int32 → Int32 → jM → jO Int32) (k14 : Nat → Int32 → Int32 → Int32 → jM → jO Int32) (k32 : Nat → Int32 → Int32 → Int32 → Int32 → jM → jO Int32) (v0 : Nat) (v1 : Int32) (v2 : Int32) (v3 : Int32) (v4 : Int32) (M : jM) : jO Int32 :=
  jb2 (jiv 11 M v0 (f_X12_manyOf v0 ((nI 1) - v2) M)) fun x2 M1 =>
  if x2 ≤ v4 then
    j_X12_keeps1_83 k7 k14 v0 v1 v2 v3 M1
  else
    if v1 = 0 then
      jb2 (jiv 11 M1 v0 (f_X12_addPick v0 v2 v3 v4 M1)) fun _ M3 =>
      (gI 11 M3 v0 7).bind fun x4 =>
      jb2 (jiv 11 M3 v0 (f_X12_isPlaceAlike v0 (x4 - (nI 1)) M3)) fun x6 M5 =>
      (gI 11 M5 v0 7).bind fun x7 =>
      (pI 11 M5 v0 7 (x7 - (nI 1))).bind fun M8 =>
      k32 v0 x6 v2 v3 (v4 + (nI 1)) M8
    else
      j_X12_keeps1_83 k7 k14 v0 v1 v2 v3 M1
def l_X12_keeps1_32 (k7 : Nat → Int32 → Int32 → jM → jO Int32) (k14 : Nat → Int32 → Int32 → Int32 → jM → jO Int32) : Nat → Nat → Int32 → Int32 → Int32 → Int32 → jM → jO Int32
  | 0 => fun _ _ _ _ _ _ => none
  | n + 1 => b_X12_keeps1_32 k7 k14 (l_X12_keeps1_32 k7 k14 n)
theorem tb_X12_keeps1_32 {G : jG} {d : Nat} (hd_ : 3 ≤ d) {k7 : Nat → Int32 → Int32 → jM → jO Int32} (hk7 : ∀ (w0 : Nat) (w1 : Int32) (w2 : Int32) (M : jM) (b : Int32 × jM), k7 w0 w1 w2 M = some b → V G m_X12_keeps1 d 7 [(0, .ref w0), (1, .int w1), (2, .int w2)] [] M (jQb cI b)) {k14 : Nat → Int32 → Int32 → Int32 → jM → jO Int32} (hk14 : ∀ (w0 : Nat) (w1 : Int32) (w2 : Int32) (w3 : Int32) (M : jM) (b : Int32 × jM), k14 w0 w1 w2 w3 M = some b → V G m_X12_keeps1 d 14 [(0, .ref w0), (1, .int w1), (2, .int w2), (3, .int w3)] [] M (jQb cI b)) {k32 : Nat → Int32 → Int32 → Int32 → Int32 → jM → jO Int32} (hk32 : ∀ (w0 : Nat) (w1 : Int32) (w2 : Int32) (w3 : Int32) (w4 : Int32) (M : jM) (b : Int32 × jM), k32 w0 w1 w2 w3 w4 M = some b → V G m_X12_keeps1 d 32 [(0, .ref w0), (1, .int w1), (2, .int w2), (3, .int w3), (4, .int w4)] [] M (jQb cI b)) {v0 : Nat} {v1 : Int32} {v2 : Int32} {v3 : Int32} {v4 : Int32} {M : jM} {b : Int32 × jM} (h : b_X12_keeps1_32 k7 k14 k32 v0 v1 v2 v3 v4 M = some b) : V G m_X12_keeps1 d 32 [(0, .ref v0), (1, .int v1), (2, .int v2), (3, .int v3), (4, .int v4)] [] M (jQb cI b) := by
  unfold b_X12_keeps1_32 at h
  refine v_iload dX12_keeps1_32 4 rfl ?_
  refine v_aload_n dX12_keeps1_34 rfl 0 rfl ?_
  refine v_iconst dX12_keeps1_35 ic_1 ?_
  refine v_iload_n dX12_keeps1_36 rfl 2 rfl ?_
  refine v_isub dX12_keeps1_37 ?_
  refine x_inv (cv := cI) (As := [.int ((nI 1) - v2)]) (rest := [.int v4]) (ls2 := [(0, .ref v0), (1, .int ((nI 1) - v2))]) (ci := 11) (by omega) dX12_keeps1_38 ke_X12_manyOf kv_X12_182 rfl rfl (by decide) (Nat.le_of_ble_eq_true rfl) rfl rfl rfl rfl h (fun _ hq => s_X12_manyOf (by omega) hq) (fun x2 M1 h => ?_)
  refine x_ic_ge (tgt := 83) dX12_keeps1_41 (by decide) h (fun h => ?_) (fun h => ?_)
  · exact V.pick [0, 1, 2, 3] rfl (t_X12_keeps1_83 hd_ hk7 hk14 h)
  · refine v_iload_n dX12_keeps1_44 rfl 1 rfl ?_
    refine x_if_ne (tgt := 83) dX12_keeps1_45 (by decide) h (fun h => ?_) (fun h => ?_)
    · refine v_aload_n dX12_keeps1_48 rfl 0 rfl ?_
      refine v_iload_n dX12_keeps1_49 rfl 2 rfl ?_
      refine v_iload_n dX12_keeps1_50 rfl 3 rfl ?_
      refine v_iload dX12_keeps1_51 4 rfl ?_
      refine x_inv (cv := cU) (As := [.int v2, .int v3, .int v4]) (rest := []) (ls2 := [(0, .ref v0), (1, .int v2), (2, .int v3), (3, .int v4)]) (ci := 11) (by omega) dX12_keeps1_53 ke_X12_addPick kv_X12_185 rfl rfl (by decide) (Nat.le_of_ble_eq_true rfl) rfl rfl rfl rfl h (fun _ hq => s_X12_addPick (by omega) hq) (fun _ M3 h => ?_)
      refine v_aload_n dX12_keeps1_56 rfl 0 rfl ?_
      refine v_aload_n dX12_keeps1_57 rfl 0 rfl ?_
      refine x_gI dX12_keeps1_58 kf_X12_169 rfl h (fun x4 h => ?_)
      refine v_iconst dX12_keeps1_61 ic_1 ?_
      refine v_isub dX12_keeps1_62 ?_
      refine x_inv (cv := cI) (As := [.int (x4 - (nI 1))]) (rest := []) (ls2 := [(0, .ref v0), (1, .int (x4 - (nI 1)))]) (ci := 11) (by omega) dX12_keeps1_63 ke_X12_isPlaceAlike kv_X12_172 rfl rfl (by decide) (Nat.le_of_ble_eq_true rfl) rfl rfl rfl rfl h (fun _ hq => s_X12_isPlaceAlike (by omega) hq) (fun x6 M5 h => ?_)
      refine v_istore_n (ls2 := [(1, .int x6), (0, .ref v0), (2, .int v2), (3, .int v3), (4, .int v4)]) dX12_keeps1_66 rfl (by decide) rfl ?_
      refine v_aload_n dX12_keeps1_67 rfl 1 rfl ?_
      refine v_dup dX12_keeps1_68 rfl ?_
      refine x_gI dX12_keeps1_69 kf_X12_169 rfl h (fun x7 h => ?_)
      refine v_iconst dX12_keeps1_72 ic_1 ?_
      refine v_isub dX12_keeps1_73 ?_
      refine x_pI dX12_keeps1_74 kf_X12_169 rfl (fun q => Bool.noConfusion q) h (fun M8 h => ?_)
      refine v_iincC (ls2 := [(4, .int (v4 + (nI 1))), (1, .int x6), (0, .ref v0), (2, .int v2), (3, .int v3)]) dX12_keeps1_77 ic_1 4 rfl (by decide) rfl ?_
      refine v_goto (tgt := 32) dX12_keeps1_80 (by decide) ?_
      exact V.pick [2, 1, 3, 4, 0] rfl (hk32 _ _ _ _ _ _ _ h)
    · exact V.pick [0, 1, 2, 3] rfl (t_X12_keeps1_83 hd_ hk7 hk14 h)
theorem t_X12_keeps1_32 {G : jG} {d : Nat} (hd_ : 3 ≤ d) {k7 : Nat → Int32 → Int32 → jM → jO Int32} (hk7 : ∀ (w0 : Nat) (w1 : Int32) (w2 : Int32) (M : jM) (b : Int32 × jM), k7 w0 w1 w2 M = some b → V G m_X12_keeps1 d 7 [(0, .ref w0), (1, .int w1), (2, .int w2)] [] M (jQb cI b)) {k14 : Nat → Int32 → Int32 → Int32 → jM → jO Int32} (hk14 : ∀ (w0 : Nat) (w1 : Int32) (w2 : Int32) (w3 : Int32) (M : jM) (b : Int32 × jM), k14 w0 w1 w2 w3 M = some b → V G m_X12_keeps1 d 14 [(0, .ref w0), (1, .int w1), (2, .int w2), (3, .int w3)] [] M (jQb cI b)) : ∀ (n : Nat) (v0 : Nat) (v1 : Int32) (v2 : Int32) (v3 : Int32) (v4 : Int32) (M : jM) (b : Int32 × jM), l_X12_keeps1_32 k7 k14 n v0 v1 v2 v3 v4 M = some b → V G m_X12_keeps1 d 32 [(0, .ref v0), (1, .int v1), (2, .int v2), (3, .int v3), (4, .int v4)] [] M (jQb cI b) := by
  intro n
  induction n with
  | zero => intro v0 v1 v2 v3 v4 M b h; exact nomatch (show (none : jO Int32) = some b from h)
  | succ n ih => intro v0 v1 v2 v3 v4 M b h; exact tb_X12_keeps1_32 hd_ hk7 hk14 ih h
def j_X12_keeps1_89 (k7 : Nat → Int32 → Int32 → jM → jO Int32) (v0 : Nat) (v1 : Int32) (v2 : Int32) (M : jM) : jO Int32 :=
  k7 v0 v1 (v2 + (nI 1)) M
theorem t_X12_keeps1_89 {G : jG} {d : Nat} (hd_ : 3 ≤ d) {k7 : Nat → Int32 → Int32 → jM → jO Int32} (hk7 : ∀ (w0 : Nat) (w1 : Int32) (w2 : Int32) (M : jM) (b : Int32 × jM), k7 w0 w1 w2 M = some b → V G m_X12_keeps1 d 7 [(0, .ref w0), (1, .int w1), (2, .int w2)] [] M (jQb cI b)) {v0 : Nat} {v1 : Int32} {v2 : Int32} {M : jM} {b : Int32 × jM} (h : j_X12_keeps1_89 k7 v0 v1 v2 M = some b) : V G m_X12_keeps1 d 89 [(0, .ref v0), (1, .int v1), (2, .int v2)] [] M (jQb cI b) := by
  unfold j_X12_keeps1_89 at h
  refine v_iincC (ls2 := [(2, .int (v2 + (nI 1))), (0, .ref v0), (1, .int v1)]) dX12_keeps1_89 ic_1 2 rfl (by decide) rfl ?_
  refine v_goto (tgt := 7) dX12_keeps1_92 (by decide) ?_
  exact V.pick [1, 2, 0] rfl (hk7 _ _ _ _ _ h)
def b_X12_keeps1_14 (k7 : Nat → Int32 → Int32 → jM → jO Int32) (k14 : Nat → Int32 → Int32 → Int32 → jM → jO Int32) (v0 : Nat) (v1 : Int32) (v2 : Int32) (v3 : Int32) (M : jM) : jO Int32 :=
  jb2 (jiv 11 M v0 (f_X12_manyOf v0 v2 M)) fun x2 M1 =>
  if x2 ≤ v3 then
    j_X12_keeps1_89 k7 v0 v1 v2 M1
  else
    if v1 = 0 then
      j_X12_keeps1_89 k7 v0 v1 v2 M1
    else
      l_X12_keeps1_32 k7 k14 jF0 v0 (nI 0) v2 v3 (nI 0) M1
def l_X12_keeps1_14 (k7 : Nat → Int32 → Int32 → jM → jO Int32) : Nat → Nat → Int32 → Int32 → Int32 → jM → jO Int32
  | 0 => fun _ _ _ _ _ => none
  | n + 1 => b_X12_keeps1_14 k7 (l_X12_keeps1_14 k7 n)
theorem tb_X12_keeps1_14 {G : jG} {d : Nat} (hd_ : 3 ≤ d) {k7 : Nat → Int32 → Int32 → jM → jO Int32} (hk7 : ∀ (w0 : Nat) (w1 : Int32) (w2 : Int32) (M : jM) (b : Int32 × jM), k7 w0 w1 w2 M = some b → V G m_X12_keeps1 d 7 [(0, .ref w0), (1, .int w1), (2, .int w2)] [] M (jQb cI b)) {k14 : Nat → Int32 → Int32 → Int32 → jM → jO Int32} (hk14 : ∀ (w0 : Nat) (w1 : Int32) (w2 : Int32) (w3 : Int32) (M : jM) (b : Int32 × jM), k14 w0 w1 w2 w3 M = some b → V G m_X12_keeps1 d 14 [(0, .ref w0), (1, .int w1), (2, .int w2), (3, .int w3)] [] M (jQb cI b)) {v0 : Nat} {v1 : Int32} {v2 : Int32} {v3 : Int32} {M : jM} {b : Int32 × jM} (h : b_X12_keeps1_14 k7 k14 v0 v1 v2 v3 M = some b) : V G m_X12_keeps1 d 14 [(0, .ref v0), (1, .int v1), (2, .int v2), (3, .int v3)] [] M (jQb cI b) := by
  unfold b_X12_keeps1_14 at h
  refine v_iload_n dX12_keeps1_14 rfl 3 rfl ?_
  refine v_aload_n dX12_keeps1_15 rfl 0 rfl ?_
  refine v_iload_n dX12_keeps1_16 rfl 2 rfl ?_
  refine x_inv (cv := cI) (As := [.int v2]) (rest := [.int v3]) (ls2 := [(0, .ref v0), (1, .int v2)]) (ci := 11) (by omega) dX12_keeps1_17 ke_X12_manyOf kv_X12_182 rfl rfl (by decide) (Nat.le_of_ble_eq_true rfl) rfl rfl rfl rfl h (fun _ hq => s_X12_manyOf (by omega) hq) (fun x2 M1 h => ?_)
  refine x_ic_ge (tgt := 89) dX12_keeps1_20 (by decide) h (fun h => ?_) (fun h => ?_)
  · exact V.pick [0, 1, 2] rfl (t_X12_keeps1_89 hd_ hk7 h)
  · refine v_iload_n dX12_keeps1_23 rfl 1 rfl ?_
    refine x_if_eq (tgt := 89) dX12_keeps1_24 (by decide) h (fun h => ?_) (fun h => ?_)
    · exact V.pick [0, 1, 2] rfl (t_X12_keeps1_89 hd_ hk7 h)
    · refine v_iconst dX12_keeps1_27 ic_0 ?_
      refine v_istore_n (ls2 := [(1, .int (nI 0)), (0, .ref v0), (2, .int v2), (3, .int v3)]) dX12_keeps1_28 rfl (by decide) rfl ?_
      refine v_iconst dX12_keeps1_29 ic_0 ?_
      refine v_istore (ls2 := [(4, .int (nI 0)), (1, .int (nI 0)), (0, .ref v0), (2, .int v2), (3, .int v3)]) dX12_keeps1_30 (by decide) rfl ?_
      exact V.pick [2, 1, 3, 4, 0] rfl (t_X12_keeps1_32 hd_ hk7 hk14 _ _ _ _ _ _ _ _ h)
theorem t_X12_keeps1_14 {G : jG} {d : Nat} (hd_ : 3 ≤ d) {k7 : Nat → Int32 → Int32 → jM → jO Int32} (hk7 : ∀ (w0 : Nat) (w1 : Int32) (w2 : Int32) (M : jM) (b : Int32 × jM), k7 w0 w1 w2 M = some b → V G m_X12_keeps1 d 7 [(0, .ref w0), (1, .int w1), (2, .int w2)] [] M (jQb cI b)) : ∀ (n : Nat) (v0 : Nat) (v1 : Int32) (v2 : Int32) (v3 : Int32) (M : jM) (b : Int32 × jM), l_X12_keeps1_14 k7 n v0 v1 v2 v3 M = some b → V G m_X12_keeps1 d 14 [(0, .ref v0), (1, .int v1), (2, .int v2), (3, .int v3)] [] M (jQb cI b) := by
  intro n
  induction n with
  | zero => intro v0 v1 v2 v3 M b h; exact nomatch (show (none : jO Int32) = some b from h)
  | succ n ih => intro v0 v1 v2 v3 M b h; exact tb_X12_keeps1_14 hd_ hk7 ih h
def b_X12_keeps1_7  (k7 : Nat → Int32 → Int32 → jM → jO Int32) (v0 : Nat) (v1 : Int32) (v2 : Int32) (M : jM) : jO Int32 :=
  if (nI 2) ≤ v2 then
    rZ v1 M
  else
    l_X12_keeps1_14 k7 jF0 v0 v1 v2 (nI 0) M
def l_X12_keeps1_7  : Nat → Nat → Int32 → Int32 → jM → jO Int32
  | 0 => fun _ _ _ _ => none
  | n + 1 => b_X12_keeps1_7  (l_X12_keeps1_7  n)
theorem tb_X12_keeps1_7 {G : jG} {d : Nat} (hd_ : 3 ≤ d)  {k7 : Nat → Int32 → Int32 → jM → jO Int32} (hk7 : ∀ (w0 : Nat) (w1 : Int32) (w2 : Int32) (M : jM) (b : Int32 × jM), k7 w0 w1 w2 M = some b → V G m_X12_keeps1 d 7 [(0, .ref w0), (1, .int w1), (2, .int w2)] [] M (jQb cI b)) {v0 : Nat} {v1 : Int32} {v2 : Int32} {M : jM} {b : Int32 × jM} (h : b_X12_keeps1_7  k7 v0 v1 v2 M = some b) : V G m_X12_keeps1 d 7 [(0, .ref v0), (1, .int v1), (2, .int v2)] [] M (jQb cI b) := by
  unfold b_X12_keeps1_7 at h
  refine v_iload_n dX12_keeps1_7 rfl 2 rfl ?_
  refine v_iconst dX12_keeps1_8 ic_2 ?_
  refine x_ic_ge (tgt := 95) dX12_keeps1_9 (by decide) h (fun h => ?_) (fun h => ?_)
  · refine v_iload_n dX12_keeps1_95 rfl 1 rfl ?_
    exact x_zret dX12_keeps1_96 rfl h
  · refine v_iconst dX12_keeps1_12 ic_0 ?_
    refine v_istore_n (ls2 := [(3, .int (nI 0)), (0, .ref v0), (1, .int v1), (2, .int v2)]) dX12_keeps1_13 rfl (by decide) rfl ?_
    exact V.pick [1, 2, 3, 0] rfl (t_X12_keeps1_14 hd_ hk7 _ _ _ _ _ _ _ h)
theorem t_X12_keeps1_7 {G : jG} {d : Nat} (hd_ : 3 ≤ d)  : ∀ (n : Nat) (v0 : Nat) (v1 : Int32) (v2 : Int32) (M : jM) (b : Int32 × jM), l_X12_keeps1_7  n v0 v1 v2 M = some b → V G m_X12_keeps1 d 7 [(0, .ref v0), (1, .int v1), (2, .int v2)] [] M (jQb cI b) := by
  intro n
  induction n with
  | zero => intro v0 v1 v2 M b h; exact nomatch (show (none : jO Int32) = some b from h)
  | succ n ih => intro v0 v1 v2 M b h; exact tb_X12_keeps1_7 hd_  ih h
def f_X12_keeps1 (v0 : Nat) (M : jM) : jO Int32 :=
  jb2 (jiv 11 M v0 (f_X12_areAlike v0 M)) fun x2 M1 =>
  l_X12_keeps1_7 jF0 v0 x2 (nI 0) M1
theorem s_X12_keeps1 {G : jG} {d : Nat} (hd_ : 3 ≤ d) {v0 : Nat} {M : jM} {b : Int32 × jM} (h : f_X12_keeps1  v0 M = some b) : V G m_X12_keeps1 d 0 [(0, .ref v0)] [] M (jQb cI b) := by
  unfold f_X12_keeps1 at h
  refine v_aload_n dX12_keeps1_0 rfl 0 rfl ?_
  refine x_inv (cv := cI) (As := []) (rest := []) (ls2 := [(0, .ref v0)]) (ci := 11) (by omega) dX12_keeps1_1 ke_X12_areAlike kv_X12_178 rfl rfl (by decide) (Nat.le_of_ble_eq_true rfl) rfl rfl rfl rfl h (fun _ hq => s_X12_areAlike (by omega) hq) (fun x2 M1 h => ?_)
  refine v_istore_n (ls2 := [(1, .int x2), (0, .ref v0)]) dX12_keeps1_4 rfl (by decide) rfl ?_
  refine v_iconst dX12_keeps1_5 ic_0 ?_
  refine v_istore_n (ls2 := [(2, .int (nI 0)), (1, .int x2), (0, .ref v0)]) dX12_keeps1_6 rfl (by decide) rfl ?_
  exact V.pick [2, 1, 0] rfl (t_X12_keeps1_7 hd_ _ _ _ _ _ _ h)
def j_X12_keeps2_81 (k7 : Nat → Int32 → Int32 → jM → jO Int32) (k14 : Nat → Int32 → Int32 → Int32 → jM → jO Int32) (k32 : Nat → Int32 → Int32 → Int32 → Int32 → jM → jO Int32) (v0 : Nat) (v2 : Int32) (v3 : Int32) (v4 : Int32) (s0 : Int32) (M : jM) : jO Int32 :=
  (gI 11 M v0 7).bind fun x1 =>
  (pI 11 M v0 7 (x1 - (nI 1))).bind fun M2 =>
  k32 v0 s0 v2 v3 (v4 + (nI 1)) M2
theorem t_X12_keeps2_81 {G : jG} {d : Nat} (hd_ : 4 ≤ d) {k7 : Nat → Int32 → Int32 → jM → jO Int32} (hk7 : ∀ (w0 : Nat) (w1 : Int32) (w2 : Int32) (M : jM) (b : Int32 × jM), k7 w0 w1 w2 M = some b → V G m_X12_keeps2 d 7 [(0, .ref w0), (1, .int w1), (2, .int w2)] [] M (jQb cI b)) {k14 : Nat → Int32 → Int32 → Int32 → jM → jO Int32} (hk14 : ∀ (w0 : Nat) (w1 : Int32) (w2 : Int32) (w3 : Int32) (M : jM) (b : Int32 × jM), k14 w0 w1 w2 w3 M = some b → V G m_X12_keeps2 d 14 [(0, .ref w0), (1, .int w1), (2, .int w2), (3, .int w3)] [] M (jQb cI b)) {k32 : Nat → Int32 → Int32 → Int32 → Int32 → jM → jO Int32} (hk32 : ∀ (w0 : Nat) (w1 : Int32) (w2 : Int32) (w3 : Int32) (w4 : Int32) (M : jM) (b : Int32 × jM), k32 w0 w1 w2 w3 w4 M = some b → V G m_X12_keeps2 d 32 [(0, .ref w0), (1, .int w1), (2, .int w2), (3, .int w3), (4, .int w4)] [] M (jQb cI b)) {v0 : Nat} {v2 : Int32} {v3 : Int32} {v4 : Int32} {s0 : Int32} {M : jM} {b : Int32 × jM} (h : j_X12_keeps2_81 k7 k14 k32 v0 v2 v3 v4 s0 M = some b) : V G m_X12_keeps2 d 81 [(0, .ref v0), (2, .int v2), (3, .int v3), (4, .int v4)] [.int s0] M (jQb cI b) := by
  unfold j_X12_keeps2_81 at h
  refine v_istore_n (ls2 := [(1, .int s0), (0, .ref v0), (2, .int v2), (3, .int v3), (4, .int v4)]) dX12_keeps2_81 rfl (by decide) rfl ?_
  refine v_aload_n dX12_keeps2_82 rfl 1 rfl ?_
  refine v_dup dX12_keeps2_83 rfl ?_
  refine x_gI dX12_keeps2_84 kf_X12_169 rfl h (fun x1 h => ?_)
  refine v_iconst dX12_keeps2_87 ic_1 ?_
  refine v_isub dX12_keeps2_88 ?_
  refine x_pI dX12_keeps2_89 kf_X12_169 rfl (fun q => Bool.noConfusion q) h (fun M2 h => ?_)
  refine v_iincC (ls2 := [(4, .int (v4 + (nI 1))), (1, .int s0), (0, .ref v0), (2, .int v2), (3, .int v3)]) dX12_keeps2_92 ic_1 4 rfl (by decide) rfl ?_
  refine v_goto (tgt := 32) dX12_keeps2_95 (by decide) ?_
  exact V.pick [2, 1, 3, 4, 0] rfl (hk32 _ _ _ _ _ _ _ h)
def j_X12_keeps2_80 (k7 : Nat → Int32 → Int32 → jM → jO Int32) (k14 : Nat → Int32 → Int32 → Int32 → jM → jO Int32) (k32 : Nat → Int32 → Int32 → Int32 → Int32 → jM → jO Int32) (v0 : Nat) (v2 : Int32) (v3 : Int32) (v4 : Int32) (M : jM) : jO Int32 :=
  j_X12_keeps2_81 k7 k14 k32 v0 v2 v3 v4 (nI 0) M
theorem t_X12_keeps2_80 {G : jG} {d : Nat} (hd_ : 4 ≤ d) {k7 : Nat → Int32 → Int32 → jM → jO Int32} (hk7 : ∀ (w0 : Nat) (w1 : Int32) (w2 : Int32) (M : jM) (b : Int32 × jM), k7 w0 w1 w2 M = some b → V G m_X12_keeps2 d 7 [(0, .ref w0), (1, .int w1), (2, .int w2)] [] M (jQb cI b)) {k14 : Nat → Int32 → Int32 → Int32 → jM → jO Int32} (hk14 : ∀ (w0 : Nat) (w1 : Int32) (w2 : Int32) (w3 : Int32) (M : jM) (b : Int32 × jM), k14 w0 w1 w2 w3 M = some b → V G m_X12_keeps2 d 14 [(0, .ref w0), (1, .int w1), (2, .int w2), (3, .int w3)] [] M (jQb cI b)) {k32 : Nat → Int32 → Int32 → Int32 → Int32 → jM → jO Int32} (hk32 : ∀ (w0 : Nat) (w1 : Int32) (w2 : Int32) (w3 : Int32) (w4 : Int32) (M : jM) (b : Int32 × jM), k32 w0 w1 w2 w3 w4 M = some b → V G m_X12_keeps2 d 32 [(0, .ref w0), (1, .int w1), (2, .int w2), (3, .int w3), (4, .int w4)] [] M (jQb cI b)) {v0 : Nat} {v2 : Int32} {v3 : Int32} {v4 : Int32} {M : jM} {b : Int32 × jM} (h : j_X12_keeps2_80 k7 k14 k32 v0 v2 v3 v4 M = some b) : V G m_X12_keeps2 d 80 [(0, .ref v0), (2, .int v2), (3, .int v3), (4, .int v4)] [] M (jQb cI b) := by
  unfold j_X12_keeps2_80 at h
  refine v_iconst dX12_keeps2_80 ic_0 ?_
  exact t_X12_keeps2_81 hd_ hk7 hk14 hk32 h
def j_X12_keeps2_98 (k7 : Nat → Int32 → Int32 → jM → jO Int32) (k14 : Nat → Int32 → Int32 → Int32 → jM → jO Int32) (v0 : Nat) (v1 : Int32) (v2 : Int32) (v3 : Int32) (M : jM) : jO Int32 :=
  k14 v0 v1 v2 (v3 + (nI 1)) M
theorem t_X12_keeps2_98 {G : jG} {d : Nat} (hd_ : 4 ≤ d) {k7 : Nat → Int32 → Int32 → jM → jO Int32} (hk7 : ∀ (w0 : Nat) (w1 : Int32) (w2 : Int32) (M : jM) (b : Int32 × jM), k7 w0 w1 w2 M = some b → V G m_X12_keeps2 d 7 [(0, .ref w0), (1, .int w1), (2, .int w2)] [] M (jQb cI b)) {k14 : Nat → Int32 → Int32 → Int32 → jM → jO Int32} (hk14 : ∀ (w0 : Nat) (w1 : Int32) (w2 : Int32) (w3 : Int32) (M : jM) (b : Int32 × jM), k14 w0 w1 w2 w3 M = some b → V G m_X12_keeps2 d 14 [(0, .ref w0), (1, .int w1), (2, .int w2), (3, .int w3)] [] M (jQb cI b)) {v0 : Nat} {v1 : Int32} {v2 : Int32} {v3 : Int32} {M : jM} {b : Int32 × jM} (h : j_X12_keeps2_98 k7 k14 v0 v1 v2 v3 M = some b) : V G m_X12_keeps2 d 98 [(0, .ref v0), (1, .int v1), (2, .int v2), (3, .int v3)] [] M (jQb cI b) := by
  unfold j_X12_keeps2_98 at h
  refine v_iincC (ls2 := [(3, .int (v3 + (nI 1))), (0, .ref v0), (1, .int v1), (2, .int v2)]) dX12_keeps2_98 ic_1 3 rfl (by decide) rfl ?_
  refine v_goto (tgt := 14) dX12_keeps2_101 (by decide) ?_
  exact V.pick [1, 2, 3, 0] rfl (hk14 _ _ _ _ _ _ h)
def b_X12_keeps2_32 (k7 : Nat → Int32 → Int32 → jM → jO Int32) (k14 : Nat → Int32 → Int32 → Int32 → jM → jO Int32) (k32 : Nat → Int32 → Int32 → Int32 → Int32 → jM → jO Int32) (v0 : Nat) (v1 : Int32) (v2 : Int32) (v3 : Int32) (v4 : Int32) (M : jM) : jO Int32 :=
  jb2 (jiv 11 M v0 (f_X12_manyOf v0 ((nI 1) - v2) M)) fun x2 M1 =>
  if x2 ≤ v4 then
    j_X12_keeps2_98 k7 k14 v0 v1 v2 v3 M1
  else
    if v1 = 0 then
      jb2 (jiv 11 M1 v0 (f_X12_addPick v0 v2 v3 v4 M1)) fun _ M3 =>
      (gI 11 M3 v0 7).bind fun x4 =>
      jb2 (jiv 11 M3 v0 (f_X12_isPlaceAlike v0 (x4 - (nI 1)) M3)) fun x6 M5 =>
      if x6 = 0 then
        j_X12_keeps2_80 k7 k14 k32 v0 v2 v3 v4 M5
      else
        jb2 (jiv 11 M5 v0 (f_X12_keeps1 v0 M5)) fun x8 M7 =>
        if x8 = 0 then
          j_X12_keeps2_80 k7 k14 k32 v0 v2 v3 v4 M7
        else
          j_X12_keeps2_81 k7 k14 k32 v0 v2 v3 v4 (nI 1) M7
    else
      j_X12_keeps2_98 k7 k14 v0 v1 v2 v3 M1
def l_X12_keeps2_32 (k7 : Nat → Int32 → Int32 → jM → jO Int32) (k14 : Nat → Int32 → Int32 → Int32 → jM → jO Int32) : Nat → Nat → Int32 → Int32 → Int32 → Int32 → jM → jO Int32
  | 0 => fun _ _ _ _ _ _ => none
  | n + 1 => b_X12_keeps2_32 k7 k14 (l_X12_keeps2_32 k7 k14 n)
theorem tb_X12_keeps2_32 {G : jG} {d : Nat} (hd_ : 4 ≤ d) {k7 : Nat → Int32 → Int32 → jM → jO Int32} (hk7 : ∀ (w0 : Nat) (w1 : Int32) (w2 : Int32) (M : jM) (b : Int32 × jM), k7 w0 w1 w2 M = some b → V G m_X12_keeps2 d 7 [(0, .ref w0), (1, .int w1), (2, .int w2)] [] M (jQb cI b)) {k14 : Nat → Int32 → Int32 → Int32 → jM → jO Int32} (hk14 : ∀ (w0 : Nat) (w1 : Int32) (w2 : Int32) (w3 : Int32) (M : jM) (b : Int32 × jM), k14 w0 w1 w2 w3 M = some b → V G m_X12_keeps2 d 14 [(0, .ref w0), (1, .int w1), (2, .int w2), (3, .int w3)] [] M (jQb cI b)) {k32 : Nat → Int32 → Int32 → Int32 → Int32 → jM → jO Int32} (hk32 : ∀ (w0 : Nat) (w1 : Int32) (w2 : Int32) (w3 : Int32) (w4 : Int32) (M : jM) (b : Int32 × jM), k32 w0 w1 w2 w3 w4 M = some b → V G m_X12_keeps2 d 32 [(0, .ref w0), (1, .int w1), (2, .int w2), (3, .int w3), (4, .int w4)] [] M (jQb cI b)) {v0 : Nat} {v1 : Int32} {v2 : Int32} {v3 : Int32} {v4 : Int32} {M : jM} {b : Int32 × jM} (h : b_X12_keeps2_32 k7 k14 k32 v0 v1 v2 v3 v4 M = some b) : V G m_X12_keeps2 d 32 [(0, .ref v0), (1, .int v1), (2, .int v2), (3, .int v3), (4, .int v4)] [] M (jQb cI b) := by
  unfold b_X12_keeps2_32 at h
  refine v_iload dX12_keeps2_32 4 rfl ?_
  refine v_aload_n dX12_keeps2_34 rfl 0 rfl ?_
  refine v_iconst dX12_keeps2_35 ic_1 ?_
  refine v_iload_n dX12_keeps2_36 rfl 2 rfl ?_
  refine v_isub dX12_keeps2_37 ?_
  refine x_inv (cv := cI) (As := [.int ((nI 1) - v2)]) (rest := [.int v4]) (ls2 := [(0, .ref v0), (1, .int ((nI 1) - v2))]) (ci := 11) (by omega) dX12_keeps2_38 ke_X12_manyOf kv_X12_182 rfl rfl (by decide) (Nat.le_of_ble_eq_true rfl) rfl rfl rfl rfl h (fun _ hq => s_X12_manyOf (by omega) hq) (fun x2 M1 h => ?_)
  refine x_ic_ge (tgt := 98) dX12_keeps2_41 (by decide) h (fun h => ?_) (fun h => ?_)
  · exact V.pick [0, 1, 2, 3] rfl (t_X12_keeps2_98 hd_ hk7 hk14 h)
  · refine v_iload_n dX12_keeps2_44 rfl 1 rfl ?_
    refine x_if_ne (tgt := 98) dX12_keeps2_45 (by decide) h (fun h => ?_) (fun h => ?_)
    · refine v_aload_n dX12_keeps2_48 rfl 0 rfl ?_
      refine v_iload_n dX12_keeps2_49 rfl 2 rfl ?_
      refine v_iload_n dX12_keeps2_50 rfl 3 rfl ?_
      refine v_iload dX12_keeps2_51 4 rfl ?_
      refine x_inv (cv := cU) (As := [.int v2, .int v3, .int v4]) (rest := []) (ls2 := [(0, .ref v0), (1, .int v2), (2, .int v3), (3, .int v4)]) (ci := 11) (by omega) dX12_keeps2_53 ke_X12_addPick kv_X12_185 rfl rfl (by decide) (Nat.le_of_ble_eq_true rfl) rfl rfl rfl rfl h (fun _ hq => s_X12_addPick (by omega) hq) (fun _ M3 h => ?_)
      refine v_aload_n dX12_keeps2_56 rfl 0 rfl ?_
      refine v_aload_n dX12_keeps2_57 rfl 0 rfl ?_
      refine x_gI dX12_keeps2_58 kf_X12_169 rfl h (fun x4 h => ?_)
      refine v_iconst dX12_keeps2_61 ic_1 ?_
      refine v_isub dX12_keeps2_62 ?_
      refine x_inv (cv := cI) (As := [.int (x4 - (nI 1))]) (rest := []) (ls2 := [(0, .ref v0), (1, .int (x4 - (nI 1)))]) (ci := 11) (by omega) dX12_keeps2_63 ke_X12_isPlaceAlike kv_X12_172 rfl rfl (by decide) (Nat.le_of_ble_eq_true rfl) rfl rfl rfl rfl h (fun _ hq => s_X12_isPlaceAlike (by omega) hq) (fun x6 M5 h => ?_)
      refine x_if_eq (tgt := 80) dX12_keeps2_66 (by decide) h (fun h => ?_) (fun h => ?_)
      · exact V.pick [0, 2, 3, 4] rfl (t_X12_keeps2_80 hd_ hk7 hk14 hk32 h)
      · refine v_aload_n dX12_keeps2_69 rfl 0 rfl ?_
        refine x_inv (cv := cI) (As := []) (rest := []) (ls2 := [(0, .ref v0)]) (ci := 11) (by omega) dX12_keeps2_70 ke_X12_keeps1 kv_X12_189 rfl rfl (by decide) (Nat.le_of_ble_eq_true rfl) rfl rfl rfl rfl h (fun _ hq => s_X12_keeps1 (by omega) hq) (fun x8 M7 h => ?_)
        refine x_if_eq (tgt := 80) dX12_keeps2_73 (by decide) h (fun h => ?_) (fun h => ?_)
        · exact V.pick [0, 2, 3, 4] rfl (t_X12_keeps2_80 hd_ hk7 hk14 hk32 h)
        · refine v_iconst dX12_keeps2_76 ic_1 ?_
          refine v_goto (tgt := 81) dX12_keeps2_77 (by decide) ?_
          exact V.pick [0, 2, 3, 4] rfl (t_X12_keeps2_81 hd_ hk7 hk14 hk32 h)
    · exact V.pick [0, 1, 2, 3] rfl (t_X12_keeps2_98 hd_ hk7 hk14 h)
theorem t_X12_keeps2_32 {G : jG} {d : Nat} (hd_ : 4 ≤ d) {k7 : Nat → Int32 → Int32 → jM → jO Int32} (hk7 : ∀ (w0 : Nat) (w1 : Int32) (w2 : Int32) (M : jM) (b : Int32 × jM), k7 w0 w1 w2 M = some b → V G m_X12_keeps2 d 7 [(0, .ref w0), (1, .int w1), (2, .int w2)] [] M (jQb cI b)) {k14 : Nat → Int32 → Int32 → Int32 → jM → jO Int32} (hk14 : ∀ (w0 : Nat) (w1 : Int32) (w2 : Int32) (w3 : Int32) (M : jM) (b : Int32 × jM), k14 w0 w1 w2 w3 M = some b → V G m_X12_keeps2 d 14 [(0, .ref w0), (1, .int w1), (2, .int w2), (3, .int w3)] [] M (jQb cI b)) : ∀ (n : Nat) (v0 : Nat) (v1 : Int32) (v2 : Int32) (v3 : Int32) (v4 : Int32) (M : jM) (b : Int32 × jM), l_X12_keeps2_32 k7 k14 n v0 v1 v2 v3 v4 M = some b → V G m_X12_keeps2 d 32 [(0, .ref v0), (1, .int v1), (2, .int v2), (3, .int v3), (4, .int v4)] [] M (jQb cI b) := by
  intro n
  induction n with
  | zero => intro v0 v1 v2 v3 v4 M b h; exact nomatch (show (none : jO Int32) = some b from h)
  | succ n ih => intro v0 v1 v2 v3 v4 M b h; exact tb_X12_keeps2_32 hd_ hk7 hk14 ih h
def j_X12_keeps2_104 (k7 : Nat → Int32 → Int32 → jM → jO Int32) (v0 : Nat) (v1 : Int32) (v2 : Int32) (M : jM) : jO Int32 :=
  k7 v0 v1 (v2 + (nI 1)) M
theorem t_X12_keeps2_104 {G : jG} {d : Nat} (hd_ : 4 ≤ d) {k7 : Nat → Int32 → Int32 → jM → jO Int32} (hk7 : ∀ (w0 : Nat) (w1 : Int32) (w2 : Int32) (M : jM) (b : Int32 × jM), k7 w0 w1 w2 M = some b → V G m_X12_keeps2 d 7 [(0, .ref w0), (1, .int w1), (2, .int w2)] [] M (jQb cI b)) {v0 : Nat} {v1 : Int32} {v2 : Int32} {M : jM} {b : Int32 × jM} (h : j_X12_keeps2_104 k7 v0 v1 v2 M = some b) : V G m_X12_keeps2 d 104 [(0, .ref v0), (1, .int v1), (2, .int v2)] [] M (jQb cI b) := by
  unfold j_X12_keeps2_104 at h
  refine v_iincC (ls2 := [(2, .int (v2 + (nI 1))), (0, .ref v0), (1, .int v1)]) dX12_keeps2_104 ic_1 2 rfl (by decide) rfl ?_
  refine v_goto (tgt := 7) dX12_keeps2_107 (by decide) ?_
  exact V.pick [1, 2, 0] rfl (hk7 _ _ _ _ _ h)
def b_X12_keeps2_14 (k7 : Nat → Int32 → Int32 → jM → jO Int32) (k14 : Nat → Int32 → Int32 → Int32 → jM → jO Int32) (v0 : Nat) (v1 : Int32) (v2 : Int32) (v3 : Int32) (M : jM) : jO Int32 :=
  jb2 (jiv 11 M v0 (f_X12_manyOf v0 v2 M)) fun x2 M1 =>
  if x2 ≤ v3 then
    j_X12_keeps2_104 k7 v0 v1 v2 M1
  else
    if v1 = 0 then
      j_X12_keeps2_104 k7 v0 v1 v2 M1
    else
      l_X12_keeps2_32 k7 k14 jF0 v0 (nI 0) v2 v3 (nI 0) M1
def l_X12_keeps2_14 (k7 : Nat → Int32 → Int32 → jM → jO Int32) : Nat → Nat → Int32 → Int32 → Int32 → jM → jO Int32
  | 0 => fun _ _ _ _ _ => none
  | n + 1 => b_X12_keeps2_14 k7 (l_X12_keeps2_14 k7 n)
theorem tb_X12_keeps2_14 {G : jG} {d : Nat} (hd_ : 4 ≤ d) {k7 : Nat → Int32 → Int32 → jM → jO Int32} (hk7 : ∀ (w0 : Nat) (w1 : Int32) (w2 : Int32) (M : jM) (b : Int32 × jM), k7 w0 w1 w2 M = some b → V G m_X12_keeps2 d 7 [(0, .ref w0), (1, .int w1), (2, .int w2)] [] M (jQb cI b)) {k14 : Nat → Int32 → Int32 → Int32 → jM → jO Int32} (hk14 : ∀ (w0 : Nat) (w1 : Int32) (w2 : Int32) (w3 : Int32) (M : jM) (b : Int32 × jM), k14 w0 w1 w2 w3 M = some b → V G m_X12_keeps2 d 14 [(0, .ref w0), (1, .int w1), (2, .int w2), (3, .int w3)] [] M (jQb cI b)) {v0 : Nat} {v1 : Int32} {v2 : Int32} {v3 : Int32} {M : jM} {b : Int32 × jM} (h : b_X12_keeps2_14 k7 k14 v0 v1 v2 v3 M = some b) : V G m_X12_keeps2 d 14 [(0, .ref v0), (1, .int v1), (2, .int v2), (3, .int v3)] [] M (jQb cI b) := by
  unfold b_X12_keeps2_14 at h
  refine v_iload_n dX12_keeps2_14 rfl 3 rfl ?_
  refine v_aload_n dX12_keeps2_15 rfl 0 rfl ?_
  refine v_iload_n dX12_keeps2_16 rfl 2 rfl ?_
  refine x_inv (cv := cI) (As := [.int v2]) (rest := [.int v3]) (ls2 := [(0, .ref v0), (1, .int v2)]) (ci := 11) (by omega) dX12_keeps2_17 ke_X12_manyOf kv_X12_182 rfl rfl (by decide) (Nat.le_of_ble_eq_true rfl) rfl rfl rfl rfl h (fun _ hq => s_X12_manyOf (by omega) hq) (fun x2 M1 h => ?_)
  refine x_ic_ge (tgt := 104) dX12_keeps2_20 (by decide) h (fun h => ?_) (fun h => ?_)
  · exact V.pick [0, 1, 2] rfl (t_X12_keeps2_104 hd_ hk7 h)
  · refine v_iload_n dX12_keeps2_23 rfl 1 rfl ?_
    refine x_if_eq (tgt := 104) dX12_keeps2_24 (by decide) h (fun h => ?_) (fun h => ?_)
    · exact V.pick [0, 1, 2] rfl (t_X12_keeps2_104 hd_ hk7 h)
    · refine v_iconst dX12_keeps2_27 ic_0 ?_
      refine v_istore_n (ls2 := [(1, .int (nI 0)), (0, .ref v0), (2, .int v2), (3, .int v3)]) dX12_keeps2_28 rfl (by decide) rfl ?_
      refine v_iconst dX12_keeps2_29 ic_0 ?_
      refine v_istore (ls2 := [(4, .int (nI 0)), (1, .int (nI 0)), (0, .ref v0), (2, .int v2), (3, .int v3)]) dX12_keeps2_30 (by decide) rfl ?_
      exact V.pick [2, 1, 3, 4, 0] rfl (t_X12_keeps2_32 hd_ hk7 hk14 _ _ _ _ _ _ _ _ h)
theorem t_X12_keeps2_14 {G : jG} {d : Nat} (hd_ : 4 ≤ d) {k7 : Nat → Int32 → Int32 → jM → jO Int32} (hk7 : ∀ (w0 : Nat) (w1 : Int32) (w2 : Int32) (M : jM) (b : Int32 × jM), k7 w0 w1 w2 M = some b → V G m_X12_keeps2 d 7 [(0, .ref w0), (1, .int w1), (2, .int w2)] [] M (jQb cI b)) : ∀ (n : Nat) (v0 : Nat) (v1 : Int32) (v2 : Int32) (v3 : Int32) (M : jM) (b : Int32 × jM), l_X12_keeps2_14 k7 n v0 v1 v2 v3 M = some b → V G m_X12_keeps2 d 14 [(0, .ref v0), (1, .int v1), (2, .int v2), (3, .int v3)] [] M (jQb cI b) := by
  intro n
  induction n with
  | zero => intro v0 v1 v2 v3 M b h; exact nomatch (show (none : jO Int32) = some b from h)
  | succ n ih => intro v0 v1 v2 v3 M b h; exact tb_X12_keeps2_14 hd_ hk7 ih h
def b_X12_keeps2_7  (k7 : Nat → Int32 → Int32 → jM → jO Int32) (v0 : Nat) (v1 : Int32) (v2 : Int32) (M : jM) : jO Int32 :=
  if (nI 2) ≤ v2 then
    rZ v1 M
  else
    l_X12_keeps2_14 k7 jF0 v0 v1 v2 (nI 0) M
def l_X12_keeps2_7  : Nat → Nat → Int32 → Int32 → jM → jO Int32
  | 0 => fun _ _ _ _ => none
  | n + 1 => b_X12_keeps2_7  (l_X12_keeps2_7  n)
theorem tb_X12_keeps2_7 {G : jG} {d : Nat} (hd_ : 4 ≤ d)  {k7 : Nat → Int32 → Int32 → jM → jO Int32} (hk7 : ∀ (w0 : Nat) (w1 : Int32) (w2 : Int32) (M : jM) (b : Int32 × jM), k7 w0 w1 w2 M = some b → V G m_X12_keeps2 d 7 [(0, .ref w0), (1, .int w1), (2, .int w2)] [] M (jQb cI b)) {v0 : Nat} {v1 : Int32} {v2 : Int32} {M : jM} {b : Int32 × jM} (h : b_X12_keeps2_7  k7 v0 v1 v2 M = some b) : V G m_X12_keeps2 d 7 [(0, .ref v0), (1, .int v1), (2, .int v2)] [] M (jQb cI b) := by
  unfold b_X12_keeps2_7 at h
  refine v_iload_n dX12_keeps2_7 rfl 2 rfl ?_
  refine v_iconst dX12_keeps2_8 ic_2 ?_
  refine x_ic_ge (tgt := 110) dX12_keeps2_9 (by decide) h (fun h => ?_) (fun h => ?_)
  · refine v_iload_n dX12_keeps2_110 rfl 1 rfl ?_
    exact x_zret dX12_keeps2_111 rfl h
  · refine v_iconst dX12_keeps2_12 ic_0 ?_
    refine v_istore_n (ls2 := [(3, .int (nI 0)), (0, .ref v0), (1, .int v1), (2, .int v2)]) dX12_keeps2_13 rfl (by decide) rfl ?_
    exact V.pick [1, 2, 3, 0] rfl (t_X12_keeps2_14 hd_ hk7 _ _ _ _ _ _ _ h)
theorem t_X12_keeps2_7 {G : jG} {d : Nat} (hd_ : 4 ≤ d)  : ∀ (n : Nat) (v0 : Nat) (v1 : Int32) (v2 : Int32) (M : jM) (b : Int32 × jM), l_X12_keeps2_7  n v0 v1 v2 M = some b → V G m_X12_keeps2 d 7 [(0, .ref v0), (1, .int v1), (2, .int v2)] [] M (jQb cI b) := by
  intro n
  induction n with
  | zero => intro v0 v1 v2 M b h; exact nomatch (show (none : jO Int32) = some b from h)
  | succ n ih => intro v0 v1 v2 M b h; exact tb_X12_keeps2_7 hd_  ih h
def f_X12_keeps2 (v0 : Nat) (M : jM) : jO Int32 :=
  jb2 (jiv 11 M v0 (f_X12_areAlike v0 M)) fun x2 M1 =>
  l_X12_keeps2_7 jF0 v0 x2 (nI 0) M1
theorem s_X12_keeps2 {G : jG} {d : Nat} (hd_ : 4 ≤ d) {v0 : Nat} {M : jM} {b : Int32 × jM} (h : f_X12_keeps2  v0 M = some b) : V G m_X12_keeps2 d 0 [(0, .ref v0)] [] M (jQb cI b) := by
  unfold f_X12_keeps2 at h
  refine v_aload_n dX12_keeps2_0 rfl 0 rfl ?_
  refine x_inv (cv := cI) (As := []) (rest := []) (ls2 := [(0, .ref v0)]) (ci := 11) (by omega) dX12_keeps2_1 ke_X12_areAlike kv_X12_178 rfl rfl (by decide) (Nat.le_of_ble_eq_true rfl) rfl rfl rfl rfl h (fun _ hq => s_X12_areAlike (by omega) hq) (fun x2 M1 h => ?_)
  refine v_istore_n (ls2 := [(1, .int x2), (0, .ref v0)]) dX12_keeps2_4 rfl (by decide) rfl ?_
  refine v_iconst dX12_keeps2_5 ic_0 ?_
  refine v_istore_n (ls2 := [(2, .int (nI 0)), (1, .int x2), (0, .ref v0)]) dX12_keeps2_6 rfl (by decide) rfl ?_
  exact V.pick [2, 1, 0] rfl (t_X12_keeps2_7 hd_ _ _ _ _ _ _ h)
def j_X12_keeps3_81 (k7 : Nat → Int32 → Int32 → jM → jO Int32) (k14 : Nat → Int32 → Int32 → Int32 → jM → jO Int32) (k32 : Nat → Int32 → Int32 → Int32 → Int32 → jM → jO Int32) (v0 : Nat) (v2 : Int32) (v3 : Int32) (v4 : Int32) (s0 : Int32) (M : jM) : jO Int32 :=
  (gI 11 M v0 7).bind fun x1 =>
  (pI 11 M v0 7 (x1 - (nI 1))).bind fun M2 =>
  k32 v0 s0 v2 v3 (v4 + (nI 1)) M2
theorem t_X12_keeps3_81 {G : jG} {d : Nat} (hd_ : 5 ≤ d) {k7 : Nat → Int32 → Int32 → jM → jO Int32} (hk7 : ∀ (w0 : Nat) (w1 : Int32) (w2 : Int32) (M : jM) (b : Int32 × jM), k7 w0 w1 w2 M = some b → V G m_X12_keeps3 d 7 [(0, .ref w0), (1, .int w1), (2, .int w2)] [] M (jQb cI b)) {k14 : Nat → Int32 → Int32 → Int32 → jM → jO Int32} (hk14 : ∀ (w0 : Nat) (w1 : Int32) (w2 : Int32) (w3 : Int32) (M : jM) (b : Int32 × jM), k14 w0 w1 w2 w3 M = some b → V G m_X12_keeps3 d 14 [(0, .ref w0), (1, .int w1), (2, .int w2), (3, .int w3)] [] M (jQb cI b)) {k32 : Nat → Int32 → Int32 → Int32 → Int32 → jM → jO Int32} (hk32 : ∀ (w0 : Nat) (w1 : Int32) (w2 : Int32) (w3 : Int32) (w4 : Int32) (M : jM) (b : Int32 × jM), k32 w0 w1 w2 w3 w4 M = some b → V G m_X12_keeps3 d 32 [(0, .ref w0), (1, .int w1), (2, .int w2), (3, .int w3), (4, .int w4)] [] M (jQb cI b)) {v0 : Nat} {v2 : Int32} {v3 : Int32} {v4 : Int32} {s0 : Int32} {M : jM} {b : Int32 × jM} (h : j_X12_keeps3_81 k7 k14 k32 v0 v2 v3 v4 s0 M = some b) : V G m_X12_keeps3 d 81 [(0, .ref v0), (2, .int v2), (3, .int v3), (4, .int v4)] [.int s0] M (jQb cI b) := by
  unfold j_X12_keeps3_81 at h
  refine v_istore_n (ls2 := [(1, .int s0), (0, .ref v0), (2, .int v2), (3, .int v3), (4, .int v4)]) dX12_keeps3_81 rfl (by decide) rfl ?_
  refine v_aload_n dX12_keeps3_82 rfl 1 rfl ?_
  refine v_dup dX12_keeps3_83 rfl ?_
  refine x_gI dX12_keeps3_84 kf_X12_169 rfl h (fun x1 h => ?_)
  refine v_iconst dX12_keeps3_87 ic_1 ?_
  refine v_isub dX12_keeps3_88 ?_
  refine x_pI dX12_keeps3_89 kf_X12_169 rfl (fun q => Bool.noConfusion q) h (fun M2 h => ?_)
  refine v_iincC (ls2 := [(4, .int (v4 + (nI 1))), (1, .int s0), (0, .ref v0), (2, .int v2), (3, .int v3)]) dX12_keeps3_92 ic_1 4 rfl (by decide) rfl ?_
  refine v_goto (tgt := 32) dX12_keeps3_95 (by decide) ?_
  exact V.pick [2, 1, 3, 4, 0] rfl (hk32 _ _ _ _ _ _ _ h)
def j_X12_keeps3_80 (k7 : Nat → Int32 → Int32 → jM → jO Int32) (k14 : Nat → Int32 → Int32 → Int32 → jM → jO Int32) (k32 : Nat → Int32 → Int32 → Int32 → Int32 → jM → jO Int32) (v0 : Nat) (v2 : Int32) (v3 : Int32) (v4 : Int32) (M : jM) : jO Int32 :=
  j_X12_keeps3_81 k7 k14 k32 v0 v2 v3 v4 (nI 0) M
theorem t_X12_keeps3_80 {G : jG} {d : Nat} (hd_ : 5 ≤ d) {k7 : Nat → Int32 → Int32 → jM → jO Int32} (hk7 : ∀ (w0 : Nat) (w1 : Int32) (w2 : Int32) (M : jM) (b : Int32 × jM), k7 w0 w1 w2 M = some b → V G m_X12_keeps3 d 7 [(0, .ref w0), (1, .int w1), (2, .int w2)] [] M (jQb cI b)) {k14 : Nat → Int32 → Int32 → Int32 → jM → jO Int32} (hk14 : ∀ (w0 : Nat) (w1 : Int32) (w2 : Int32) (w3 : Int32) (M : jM) (b : Int32 × jM), k14 w0 w1 w2 w3 M = some b → V G m_X12_keeps3 d 14 [(0, .ref w0), (1, .int w1), (2, .int w2), (3, .int w3)] [] M (jQb cI b)) {k32 : Nat → Int32 → Int32 → Int32 → Int32 → jM → jO Int32} (hk32 : ∀ (w0 : Nat) (w1 : Int32) (w2 : Int32) (w3 : Int32) (w4 : Int32) (M : jM) (b : Int32 × jM), k32 w0 w1 w2 w3 w4 M = some b → V G m_X12_keeps3 d 32 [(0, .ref w0), (1, .int w1), (2, .int w2), (3, .int w3), (4, .int w4)] [] M (jQb cI b)) {v0 : Nat} {v2 : Int32} {v3 : Int32} {v4 : Int32} {M : jM} {b : Int32 × jM} (h : j_X12_keeps3_80 k7 k14 k32 v0 v2 v3 v4 M = some b) : V G m_X12_keeps3 d 80 [(0, .ref v0), (2, .int v2), (3, .int v3), (4, .int v4)] [] M (jQb cI b) := by
  unfold j_X12_keeps3_80 at h
  refine v_iconst dX12_keeps3_80 ic_0 ?_
  exact t_X12_keeps3_81 hd_ hk7 hk14 hk32 h
def j_X12_keeps3_98 (k7 : Nat → Int32 → Int32 → jM → jO Int32) (k14 : Nat → Int32 → Int32 → Int32 → jM → jO Int32) (v0 : Nat) (v1 : Int32) (v2 : Int32) (v3 : Int32) (M : jM) : jO Int32 :=
  k14 v0 v1 v2 (v3 + (nI 1)) M
theorem t_X12_keeps3_98 {G : jG} {d : Nat} (hd_ : 5 ≤ d) {k7 : Nat → Int32 → Int32 → jM → jO Int32} (hk7 : ∀ (w0 : Nat) (w1 : Int32) (w2 : Int32) (M : jM) (b : Int32 × jM), k7 w0 w1 w2 M = some b → V G m_X12_keeps3 d 7 [(0, .ref w0), (1, .int w1), (2, .int w2)] [] M (jQb cI b)) {k14 : Nat → Int32 → Int32 → Int32 → jM → jO Int32} (hk14 : ∀ (w0 : Nat) (w1 : Int32) (w2 : Int32) (w3 : Int32) (M : jM) (b : Int32 × jM), k14 w0 w1 w2 w3 M = some b → V G m_X12_keeps3 d 14 [(0, .ref w0), (1, .int w1), (2, .int w2), (3, .int w3)] [] M (jQb cI b)) {v0 : Nat} {v1 : Int32} {v2 : Int32} {v3 : Int32} {M : jM} {b : Int32 × jM} (h : j_X12_keeps3_98 k7 k14 v0 v1 v2 v3 M = some b) : V G m_X12_keeps3 d 98 [(0, .ref v0), (1, .int v1), (2, .int v2), (3, .int v3)] [] M (jQb cI b) := by
  unfold j_X12_keeps3_98 at h
  refine v_iincC (ls2 := [(3, .int (v3 + (nI 1))), (0, .ref v0), (1, .int v1), (2, .int v2)]) dX12_keeps3_98 ic_1 3 rfl (by decide) rfl ?_
  refine v_goto (tgt := 14) dX12_keeps3_101 (by decide) ?_
  exact V.pick [1, 2, 3, 0] rfl (hk14 _ _ _ _ _ _ h)
def b_X12_keeps3_32 (k7 : Nat → Int32 → Int32 → jM → jO Int32) (k14 : Nat → Int32 → Int32 → Int32 → jM → jO Int32) (k32 : Nat → Int32 → Int32 → Int32 → Int32 → jM → jO Int32) (v0 : Nat) (v1 : Int32) (v2 : Int32) (v3 : Int32) (v4 : Int32) (M : jM) : jO Int32 :=
  jb2 (jiv 11 M v0 (f_X12_manyOf v0 ((nI 1) - v2) M)) fun x2 M1 =>
  if x2 ≤ v4 then
    j_X12_keeps3_98 k7 k14 v0 v1 v2 v3 M1
  else
    if v1 = 0 then
      jb2 (jiv 11 M1 v0 (f_X12_addPick v0 v2 v3 v4 M1)) fun _ M3 =>
      (gI 11 M3 v0 7).bind fun x4 =>
      jb2 (jiv 11 M3 v0 (f_X12_isPlaceAlike v0 (x4 - (nI 1)) M3)) fun x6 M5 =>
      if x6 = 0 then
        j_X12_keeps3_80 k7 k14 k32 v0 v2 v3 v4 M5
      else
        jb2 (jiv 11 M5 v0 (f_X12_keeps2 v0 M5)) fun x8 M7 =>
        if x8 = 0 then
          j_X12_keeps3_80 k7 k14 k32 v0 v2 v3 v4 M7
        else
          j_X12_keeps3_81 k7 k14 k32 v0 v2 v3 v4 (nI 1) M7
    else
      j_X12_keeps3_98 k7 k14 v0 v1 v2 v3 M1
def l_X12_keeps3_32 (k7 : Nat → Int32 → Int32 → jM → jO Int32) (k14 : Nat → Int32 → Int32 → Int32 → jM → jO Int32) : Nat → Nat → Int32 → Int32 → Int32 → Int32 → jM → jO Int32
  | 0 => fun _ _ _ _ _ _ => none
  | n + 1 => b_X12_keeps3_32 k7 k14 (l_X12_keeps3_32 k7 k14 n)
theorem tb_X12_keeps3_32 {G : jG} {d : Nat} (hd_ : 5 ≤ d) {k7 : Nat → Int32 → Int32 → jM → jO Int32} (hk7 : ∀ (w0 : Nat) (w1 : Int32) (w2 : Int32) (M : jM) (b : Int32 × jM), k7 w0 w1 w2 M = some b → V G m_X12_keeps3 d 7 [(0, .ref w0), (1, .int w1), (2, .int w2)] [] M (jQb cI b)) {k14 : Nat → Int32 → Int32 → Int32 → jM → jO Int32} (hk14 : ∀ (w0 : Nat) (w1 : Int32) (w2 : Int32) (w3 : Int32) (M : jM) (b : Int32 × jM), k14 w0 w1 w2 w3 M = some b → V G m_X12_keeps3 d 14 [(0, .ref w0), (1, .int w1), (2, .int w2), (3, .int w3)] [] M (jQb cI b)) {k32 : Nat → Int32 → Int32 → Int32 → Int32 → jM → jO Int32} (hk32 : ∀ (w0 : Nat) (w1 : Int32) (w2 : Int32) (w3 : Int32) (w4 : Int32) (M : jM) (b : Int32 × jM), k32 w0 w1 w2 w3 w4 M = some b → V G m_X12_keeps3 d 32 [(0, .ref w0), (1, .int w1), (2, .int w2), (3, .int w3), (4, .int w4)] [] M (jQb cI b)) {v0 : Nat} {v1 : Int32} {v2 : Int32} {v3 : Int32} {v4 : Int32} {M : jM} {b : Int32 × jM} (h : b_X12_keeps3_32 k7 k14 k32 v0 v1 v2 v3 v4 M = some b) : V G m_X12_keeps3 d 32 [(0, .ref v0), (1, .int v1), (2, .int v2), (3, .int v3), (4, .int v4)] [] M (jQb cI b) := by
  unfold b_X12_keeps3_32 at h
  refine v_iload dX12_keeps3_32 4 rfl ?_
  refine v_aload_n dX12_keeps3_34 rfl 0 rfl ?_
  refine v_iconst dX12_keeps3_35 ic_1 ?_
  refine v_iload_n dX12_keeps3_36 rfl 2 rfl ?_
  refine v_isub dX12_keeps3_37 ?_
  refine x_inv (cv := cI) (As := [.int ((nI 1) - v2)]) (rest := [.int v4]) (ls2 := [(0, .ref v0), (1, .int ((nI 1) - v2))]) (ci := 11) (by omega) dX12_keeps3_38 ke_X12_manyOf kv_X12_182 rfl rfl (by decide) (Nat.le_of_ble_eq_true rfl) rfl rfl rfl rfl h (fun _ hq => s_X12_manyOf (by omega) hq) (fun x2 M1 h => ?_)
  refine x_ic_ge (tgt := 98) dX12_keeps3_41 (by decide) h (fun h => ?_) (fun h => ?_)
  · exact V.pick [0, 1, 2, 3] rfl (t_X12_keeps3_98 hd_ hk7 hk14 h)
  · refine v_iload_n dX12_keeps3_44 rfl 1 rfl ?_
    refine x_if_ne (tgt := 98) dX12_keeps3_45 (by decide) h (fun h => ?_) (fun h => ?_)
    · refine v_aload_n dX12_keeps3_48 rfl 0 rfl ?_
      refine v_iload_n dX12_keeps3_49 rfl 2 rfl ?_
      refine v_iload_n dX12_keeps3_50 rfl 3 rfl ?_
      refine v_iload dX12_keeps3_51 4 rfl ?_
      refine x_inv (cv := cU) (As := [.int v2, .int v3, .int v4]) (rest := []) (ls2 := [(0, .ref v0), (1, .int v2), (2, .int v3), (3, .int v4)]) (ci := 11) (by omega) dX12_keeps3_53 ke_X12_addPick kv_X12_185 rfl rfl (by decide) (Nat.le_of_ble_eq_true rfl) rfl rfl rfl rfl h (fun _ hq => s_X12_addPick (by omega) hq) (fun _ M3 h => ?_)
      refine v_aload_n dX12_keeps3_56 rfl 0 rfl ?_
      refine v_aload_n dX12_keeps3_57 rfl 0 rfl ?_
      refine x_gI dX12_keeps3_58 kf_X12_169 rfl h (fun x4 h => ?_)
      refine v_iconst dX12_keeps3_61 ic_1 ?_
      refine v_isub dX12_keeps3_62 ?_
      refine x_inv (cv := cI) (As := [.int (x4 - (nI 1))]) (rest := []) (ls2 := [(0, .ref v0), (1, .int (x4 - (nI 1)))]) (ci := 11) (by omega) dX12_keeps3_63 ke_X12_isPlaceAlike kv_X12_172 rfl rfl (by decide) (Nat.le_of_ble_eq_true rfl) rfl rfl rfl rfl h (fun _ hq => s_X12_isPlaceAlike (by omega) hq) (fun x6 M5 h => ?_)
      refine x_if_eq (tgt := 80) dX12_keeps3_66 (by decide) h (fun h => ?_) (fun h => ?_)
      · exact V.pick [0, 2, 3, 4] rfl (t_X12_keeps3_80 hd_ hk7 hk14 hk32 h)
      · refine v_aload_n dX12_keeps3_69 rfl 0 rfl ?_
        refine x_inv (cv := cI) (As := []) (rest := []) (ls2 := [(0, .ref v0)]) (ci := 11) (by omega) dX12_keeps3_70 ke_X12_keeps2 kv_X12_192 rfl rfl (by decide) (Nat.le_of_ble_eq_true rfl) rfl rfl rfl rfl h (fun _ hq => s_X12_keeps2 (by omega) hq) (fun x8 M7 h => ?_)
        refine x_if_eq (tgt := 80) dX12_keeps3_73 (by decide) h (fun h => ?_) (fun h => ?_)
        · exact V.pick [0, 2, 3, 4] rfl (t_X12_keeps3_80 hd_ hk7 hk14 hk32 h)
        · refine v_iconst dX12_keeps3_76 ic_1 ?_
          refine v_goto (tgt := 81) dX12_keeps3_77 (by decide) ?_
          exact V.pick [0, 2, 3, 4] rfl (t_X12_keeps3_81 hd_ hk7 hk14 hk32 h)
    · exact V.pick [0, 1, 2, 3] rfl (t_X12_keeps3_98 hd_ hk7 hk14 h)
theorem t_X12_keeps3_32 {G : jG} {d : Nat} (hd_ : 5 ≤ d) {k7 : Nat → Int32 → Int32 → jM → jO Int32} (hk7 : ∀ (w0 : Nat) (w1 : Int32) (w2 : Int32) (M : jM) (b : Int32 × jM), k7 w0 w1 w2 M = some b → V G m_X12_keeps3 d 7 [(0, .ref w0), (1, .int w1), (2, .int w2)] [] M (jQb cI b)) {k14 : Nat → Int32 → Int32 → Int32 → jM → jO Int32} (hk14 : ∀ (w0 : Nat) (w1 : Int32) (w2 : Int32) (w3 : Int32) (M : jM) (b : Int32 × jM), k14 w0 w1 w2 w3 M = some b → V G m_X12_keeps3 d 14 [(0, .ref w0), (1, .int w1), (2, .int w2), (3, .int w3)] [] M (jQb cI b)) : ∀ (n : Nat) (v0 : Nat) (v1 : Int32) (v2 : Int32) (v3 : Int32) (v4 : Int32) (M : jM) (b : Int32 × jM), l_X12_keeps3_32 k7 k14 n v0 v1 v2 v3 v4 M = some b → V G m_X12_keeps3 d 32 [(0, .ref v0), (1, .int v1), (2, .int v2), (3, .int v3), (4, .int v4)] [] M (jQb cI b) := by
  intro n
  induction n with
  | zero => intro v0 v1 v2 v3 v4 M b h; exact nomatch (show (none : jO Int32) = some b from h)
  | succ n ih => intro v0 v1 v2 v3 v4 M b h; exact tb_X12_keeps3_32 hd_ hk7 hk14 ih h
def j_X12_keeps3_104 (k7 : Nat → Int32 → Int32 → jM → jO Int32) (v0 : Nat) (v1 : Int32) (v2 : Int32) (M : jM) : jO Int32 :=
  k7 v0 v1 (v2 + (nI 1)) M
theorem t_X12_keeps3_104 {G : jG} {d : Nat} (hd_ : 5 ≤ d) {k7 : Nat → Int32 → Int32 → jM → jO Int32} (hk7 : ∀ (w0 : Nat) (w1 : Int32) (w2 : Int32) (M : jM) (b : Int32 × jM), k7 w0 w1 w2 M = some b → V G m_X12_keeps3 d 7 [(0, .ref w0), (1, .int w1), (2, .int w2)] [] M (jQb cI b)) {v0 : Nat} {v1 : Int32} {v2 : Int32} {M : jM} {b : Int32 × jM} (h : j_X12_keeps3_104 k7 v0 v1 v2 M = some b) : V G m_X12_keeps3 d 104 [(0, .ref v0), (1, .int v1), (2, .int v2)] [] M (jQb cI b) := by
  unfold j_X12_keeps3_104 at h
  refine v_iincC (ls2 := [(2, .int (v2 + (nI 1))), (0, .ref v0), (1, .int v1)]) dX12_keeps3_104 ic_1 2 rfl (by decide) rfl ?_
  refine v_goto (tgt := 7) dX12_keeps3_107 (by decide) ?_
  exact V.pick [1, 2, 0] rfl (hk7 _ _ _ _ _ h)
def b_X12_keeps3_14 (k7 : Nat → Int32 → Int32 → jM → jO Int32) (k14 : Nat → Int32 → Int32 → Int32 → jM → jO Int32) (v0 : Nat) (v1 : Int32) (v2 : Int32) (v3 : Int32) (M : jM) : jO Int32 :=
  jb2 (jiv 11 M v0 (f_X12_manyOf v0 v2 M)) fun x2 M1 =>
  if x2 ≤ v3 then
    j_X12_keeps3_104 k7 v0 v1 v2 M1
  else
    if v1 = 0 then
      j_X12_keeps3_104 k7 v0 v1 v2 M1
    else
      l_X12_keeps3_32 k7 k14 jF0 v0 (nI 0) v2 v3 (nI 0) M1
def l_X12_keeps3_14 (k7 : Nat → Int32 → Int32 → jM → jO Int32) : Nat → Nat → Int32 → Int32 → Int32 → jM → jO Int32
  | 0 => fun _ _ _ _ _ => none
  | n + 1 => b_X12_keeps3_14 k7 (l_X12_keeps3_14 k7 n)
theorem tb_X12_keeps3_14 {G : jG} {d : Nat} (hd_ : 5 ≤ d) {k7 : Nat → Int32 → Int32 → jM → jO Int32} (hk7 : ∀ (w0 : Nat) (w1 : Int32) (w2 : Int32) (M : jM) (b : Int32 × jM), k7 w0 w1 w2 M = some b → V G m_X12_keeps3 d 7 [(0, .ref w0), (1, .int w1), (2, .int w2)] [] M (jQb cI b)) {k14 : Nat → Int32 → Int32 → Int32 → jM → jO Int32} (hk14 : ∀ (w0 : Nat) (w1 : Int32) (w2 : Int32) (w3 : Int32) (M : jM) (b : Int32 × jM), k14 w0 w1 w2 w3 M = some b → V G m_X12_keeps3 d 14 [(0, .ref w0), (1, .int w1), (2, .int w2), (3, .int w3)] [] M (jQb cI b)) {v0 : Nat} {v1 : Int32} {v2 : Int32} {v3 : Int32} {M : jM} {b : Int32 × jM} (h : b_X12_keeps3_14 k7 k14 v0 v1 v2 v3 M = some b) : V G m_X12_keeps3 d 14 [(0, .ref v0), (1, .int v1), (2, .int v2), (3, .int v3)] [] M (jQb cI b) := by
  unfold b_X12_keeps3_14 at h
  refine v_iload_n dX12_keeps3_14 rfl 3 rfl ?_
  refine v_aload_n dX12_keeps3_15 rfl 0 rfl ?_
  refine v_iload_n dX12_keeps3_16 rfl 2 rfl ?_
  refine x_inv (cv := cI) (As := [.int v2]) (rest := [.int v3]) (ls2 := [(0, .ref v0), (1, .int v2)]) (ci := 11) (by omega) dX12_keeps3_17 ke_X12_manyOf kv_X12_182 rfl rfl (by decide) (Nat.le_of_ble_eq_true rfl) rfl rfl rfl rfl h (fun _ hq => s_X12_manyOf (by omega) hq) (fun x2 M1 h => ?_)
  refine x_ic_ge (tgt := 104) dX12_keeps3_20 (by decide) h (fun h => ?_) (fun h => ?_)
  · exact V.pick [0, 1, 2] rfl (t_X12_keeps3_104 hd_ hk7 h)
  · refine v_iload_n dX12_keeps3_23 rfl 1 rfl ?_
    refine x_if_eq (tgt := 104) dX12_keeps3_24 (by decide) h (fun h => ?_) (fun h => ?_)
    · exact V.pick [0, 1, 2] rfl (t_X12_keeps3_104 hd_ hk7 h)
    · refine v_iconst dX12_keeps3_27 ic_0 ?_
      refine v_istore_n (ls2 := [(1, .int (nI 0)), (0, .ref v0), (2, .int v2), (3, .int v3)]) dX12_keeps3_28 rfl (by decide) rfl ?_
      refine v_iconst dX12_keeps3_29 ic_0 ?_
      refine v_istore (ls2 := [(4, .int (nI 0)), (1, .int (nI 0)), (0, .ref v0), (2, .int v2), (3, .int v3)]) dX12_keeps3_30 (by decide) rfl ?_
      exact V.pick [2, 1, 3, 4, 0] rfl (t_X12_keeps3_32 hd_ hk7 hk14 _ _ _ _ _ _ _ _ h)
theorem t_X12_keeps3_14 {G : jG} {d : Nat} (hd_ : 5 ≤ d) {k7 : Nat → Int32 → Int32 → jM → jO Int32} (hk7 : ∀ (w0 : Nat) (w1 : Int32) (w2 : Int32) (M : jM) (b : Int32 × jM), k7 w0 w1 w2 M = some b → V G m_X12_keeps3 d 7 [(0, .ref w0), (1, .int w1), (2, .int w2)] [] M (jQb cI b)) : ∀ (n : Nat) (v0 : Nat) (v1 : Int32) (v2 : Int32) (v3 : Int32) (M : jM) (b : Int32 × jM), l_X12_keeps3_14 k7 n v0 v1 v2 v3 M = some b → V G m_X12_keeps3 d 14 [(0, .ref v0), (1, .int v1), (2, .int v2), (3, .int v3)] [] M (jQb cI b) := by
  intro n
  induction n with
  | zero => intro v0 v1 v2 v3 M b h; exact nomatch (show (none : jO Int32) = some b from h)
  | succ n ih => intro v0 v1 v2 v3 M b h; exact tb_X12_keeps3_14 hd_ hk7 ih h
def b_X12_keeps3_7  (k7 : Nat → Int32 → Int32 → jM → jO Int32) (v0 : Nat) (v1 : Int32) (v2 : Int32) (M : jM) : jO Int32 :=
  if (nI 2) ≤ v2 then
    rZ v1 M
  else
    l_X12_keeps3_14 k7 jF0 v0 v1 v2 (nI 0) M
def l_X12_keeps3_7  : Nat → Nat → Int32 → Int32 → jM → jO Int32
  | 0 => fun _ _ _ _ => none
  | n + 1 => b_X12_keeps3_7  (l_X12_keeps3_7  n)
theorem tb_X12_keeps3_7 {G : jG} {d : Nat} (hd_ : 5 ≤ d)  {k7 : Nat → Int32 → Int32 → jM → jO Int32} (hk7 : ∀ (w0 : Nat) (w1 : Int32) (w2 : Int32) (M : jM) (b : Int32 × jM), k7 w0 w1 w2 M = some b → V G m_X12_keeps3 d 7 [(0, .ref w0), (1, .int w1), (2, .int w2)] [] M (jQb cI b)) {v0 : Nat} {v1 : Int32} {v2 : Int32} {M : jM} {b : Int32 × jM} (h : b_X12_keeps3_7  k7 v0 v1 v2 M = some b) : V G m_X12_keeps3 d 7 [(0, .ref v0), (1, .int v1), (2, .int v2)] [] M (jQb cI b) := by
  unfold b_X12_keeps3_7 at h
  refine v_iload_n dX12_keeps3_7 rfl 2 rfl ?_
  refine v_iconst dX12_keeps3_8 ic_2 ?_
  refine x_ic_ge (tgt := 110) dX12_keeps3_9 (by decide) h (fun h => ?_) (fun h => ?_)
  · refine v_iload_n dX12_keeps3_110 rfl 1 rfl ?_
    exact x_zret dX12_keeps3_111 rfl h
  · refine v_iconst dX12_keeps3_12 ic_0 ?_
    refine v_istore_n (ls2 := [(3, .int (nI 0)), (0, .ref v0), (1, .int v1), (2, .int v2)]) dX12_keeps3_13 rfl (by decide) rfl ?_
    exact V.pick [1, 2, 3, 0] rfl (t_X12_keeps3_14 hd_ hk7 _ _ _ _ _ _ _ h)
theorem t_X12_keeps3_7 {G : jG} {d : Nat} (hd_ : 5 ≤ d)  : ∀ (n : Nat) (v0 : Nat) (v1 : Int32) (v2 : Int32) (M : jM) (b : Int32 × jM), l_X12_keeps3_7  n v0 v1 v2 M = some b → V G m_X12_keeps3 d 7 [(0, .ref v0), (1, .int v1), (2, .int v2)] [] M (jQb cI b) := by
  intro n
  induction n with
  | zero => intro v0 v1 v2 M b h; exact nomatch (show (none : jO Int32) = some b from h)
  | succ n ih => intro v0 v1 v2 M b h; exact tb_X12_keeps3_7 hd_  ih h
def f_X12_keeps3 (v0 : Nat) (M : jM) : jO Int32 :=
  jb2 (jiv 11 M v0 (f_X12_areAlike v0 M)) fun x2 M1 =>
  l_X12_keeps3_7 jF0 v0 x2 (nI 0) M1
theorem s_X12_keeps3 {G : jG} {d : Nat} (hd_ : 5 ≤ d) {v0 : Nat} {M : jM} {b : Int32 × jM} (h : f_X12_keeps3  v0 M = some b) : V G m_X12_keeps3 d 0 [(0, .ref v0)] [] M (jQb cI b) := by
  unfold f_X12_keeps3 at h
  refine v_aload_n dX12_keeps3_0 rfl 0 rfl ?_
  refine x_inv (cv := cI) (As := []) (rest := []) (ls2 := [(0, .ref v0)]) (ci := 11) (by omega) dX12_keeps3_1 ke_X12_areAlike kv_X12_178 rfl rfl (by decide) (Nat.le_of_ble_eq_true rfl) rfl rfl rfl rfl h (fun _ hq => s_X12_areAlike (by omega) hq) (fun x2 M1 h => ?_)
  refine v_istore_n (ls2 := [(1, .int x2), (0, .ref v0)]) dX12_keeps3_4 rfl (by decide) rfl ?_
  refine v_iconst dX12_keeps3_5 ic_0 ?_
  refine v_istore_n (ls2 := [(2, .int (nI 0)), (1, .int x2), (0, .ref v0)]) dX12_keeps3_6 rfl (by decide) rfl ?_
  exact V.pick [2, 1, 0] rfl (t_X12_keeps3_7 hd_ _ _ _ _ _ _ h)
def f_X12_keeps (v0 : Nat) (v1 : Int32) (M : jM) : jO Int32 :=
  if v1 = 0 then
    jb2 (jiv 11 M v0 (f_X12_areAlike v0 M)) fun x2 M1 =>
    rZ x2 M1
  else
    if v1 = (nI 1) then
      jb2 (jiv 11 M v0 (f_X12_keeps1 v0 M)) fun x4 M3 =>
      rZ x4 M3
    else
      if v1 = (nI 2) then
        jb2 (jiv 11 M v0 (f_X12_keeps2 v0 M)) fun x6 M5 =>
        rZ x6 M5
      else
        jb2 (jiv 11 M v0 (f_X12_keeps3 v0 M)) fun x8 M7 =>
        rZ x8 M7
theorem s_X12_keeps {G : jG} {d : Nat} (hd_ : 6 ≤ d) {v0 : Nat} {v1 : Int32} {M : jM} {b : Int32 × jM} (h : f_X12_keeps  v0 v1 M = some b) : V G m_X12_keeps d 0 [(0, .ref v0), (1, .int v1)] [] M (jQb cI b) := by
  unfold f_X12_keeps at h
  refine v_iload_n dX12_keeps_0 rfl 1 rfl ?_
  refine x_if_ne (tgt := 11) dX12_keeps_1 (by decide) h (fun h => ?_) (fun h => ?_)
  · refine v_aload_n dX12_keeps_4 rfl 0 rfl ?_
    refine x_inv (cv := cI) (As := []) (rest := []) (ls2 := [(0, .ref v0)]) (ci := 11) (by omega) dX12_keeps_5 ke_X12_areAlike kv_X12_178 rfl rfl (by decide) (Nat.le_of_ble_eq_true rfl) rfl rfl rfl rfl h (fun _ hq => s_X12_areAlike (by omega) hq) (fun x2 M1 h => ?_)
    refine v_goto (tgt := 39) dX12_keeps_8 (by decide) ?_
    exact x_zret dX12_keeps_39 rfl h
  · refine v_iload_n dX12_keeps_11 rfl 1 rfl ?_
    refine v_iconst dX12_keeps_12 ic_1 ?_
    refine x_ic_ne (tgt := 23) dX12_keeps_13 (by decide) h (fun h => ?_) (fun h => ?_)
    · refine v_aload_n dX12_keeps_16 rfl 0 rfl ?_
      refine x_inv (cv := cI) (As := []) (rest := []) (ls2 := [(0, .ref v0)]) (ci := 11) (by omega) dX12_keeps_17 ke_X12_keeps1 kv_X12_189 rfl rfl (by decide) (Nat.le_of_ble_eq_true rfl) rfl rfl rfl rfl h (fun _ hq => s_X12_keeps1 (by omega) hq) (fun x4 M3 h => ?_)
      refine v_goto (tgt := 39) dX12_keeps_20 (by decide) ?_
      exact x_zret dX12_keeps_39 rfl h
    · refine v_iload_n dX12_keeps_23 rfl 1 rfl ?_
      refine v_iconst dX12_keeps_24 ic_2 ?_
      refine x_ic_ne (tgt := 35) dX12_keeps_25 (by decide) h (fun h => ?_) (fun h => ?_)
      · refine v_aload_n dX12_keeps_28 rfl 0 rfl ?_
        refine x_inv (cv := cI) (As := []) (rest := []) (ls2 := [(0, .ref v0)]) (ci := 11) (by omega) dX12_keeps_29 ke_X12_keeps2 kv_X12_192 rfl rfl (by decide) (Nat.le_of_ble_eq_true rfl) rfl rfl rfl rfl h (fun _ hq => s_X12_keeps2 (by omega) hq) (fun x6 M5 h => ?_)
        refine v_goto (tgt := 39) dX12_keeps_32 (by decide) ?_
        exact x_zret dX12_keeps_39 rfl h
      · refine v_aload_n dX12_keeps_35 rfl 0 rfl ?_
        refine x_inv (cv := cI) (As := []) (rest := []) (ls2 := [(0, .ref v0)]) (ci := 11) (by omega) dX12_keeps_36 ke_X12_keeps3 kv_X12_195 rfl rfl (by decide) (Nat.le_of_ble_eq_true rfl) rfl rfl rfl rfl h (fun _ hq => s_X12_keeps3 (by omega) hq) (fun x8 M7 h => ?_)
        exact x_zret dX12_keeps_39 rfl h
def b_X12_answerTo_3  (k3 : Nat → Int32 → Int32 → Int32 → Int32 → jM → jO Int32) (v0 : Nat) (v1 : Int32) (v2 : Int32) (v3 : Int32) (v4 : Int32) (M : jM) : jO Int32 :=
  jb2 (jiv 11 M v0 (f_X12_manyOf v0 ((nI 1) - v1) M)) fun x2 M1 =>
  if x2 ≤ v4 then
    rt (-1 : Int32) M1
  else
    jb2 (jiv 11 M1 v0 (f_X12_addPick v0 v1 v2 v4 M1)) fun _ M3 =>
    jb2 (jiv 11 M3 v0 (f_X12_keeps v0 v3 M3)) fun x5 M4 =>
    (gI 11 M4 v0 7).bind fun x6 =>
    (pI 11 M4 v0 7 (x6 - (nI 1))).bind fun M7 =>
    if x5 = 0 then
      k3 v0 v1 v2 v3 (v4 + (nI 1)) M7
    else
      rt v4 M7
def l_X12_answerTo_3  : Nat → Nat → Int32 → Int32 → Int32 → Int32 → jM → jO Int32
  | 0 => fun _ _ _ _ _ _ => none
  | n + 1 => b_X12_answerTo_3  (l_X12_answerTo_3  n)
theorem tb_X12_answerTo_3 {G : jG} {d : Nat} (hd_ : 7 ≤ d)  {k3 : Nat → Int32 → Int32 → Int32 → Int32 → jM → jO Int32} (hk3 : ∀ (w0 : Nat) (w1 : Int32) (w2 : Int32) (w3 : Int32) (w4 : Int32) (M : jM) (b : Int32 × jM), k3 w0 w1 w2 w3 w4 M = some b → V G m_X12_answerTo d 3 [(0, .ref w0), (1, .int w1), (2, .int w2), (3, .int w3), (4, .int w4)] [] M (jQb cI b)) {v0 : Nat} {v1 : Int32} {v2 : Int32} {v3 : Int32} {v4 : Int32} {M : jM} {b : Int32 × jM} (h : b_X12_answerTo_3  k3 v0 v1 v2 v3 v4 M = some b) : V G m_X12_answerTo d 3 [(0, .ref v0), (1, .int v1), (2, .int v2), (3, .int v3), (4, .int v4)] [] M (jQb cI b) := by
  unfold b_X12_answerTo_3 at h
  refine v_iload dX12_answerTo_3 4 rfl ?_
  refine v_aload_n dX12_answerTo_5 rfl 0 rfl ?_
  refine v_iconst dX12_answerTo_6 ic_1 ?_
  refine v_iload_n dX12_answerTo_7 rfl 1 rfl ?_
  refine v_isub dX12_answerTo_8 ?_
  refine x_inv (cv := cI) (As := [.int ((nI 1) - v1)]) (rest := [.int v4]) (ls2 := [(0, .ref v0), (1, .int ((nI 1) - v1))]) (ci := 11) (by omega) dX12_answerTo_9 ke_X12_manyOf kv_X12_182 rfl rfl (by decide) (Nat.le_of_ble_eq_true rfl) rfl rfl rfl rfl h (fun _ hq => s_X12_manyOf (by omega) hq) (fun x2 M1 h => ?_)
  refine x_ic_ge (tgt := 54) dX12_answerTo_12 (by decide) h (fun h => ?_) (fun h => ?_)
  · refine v_iconst dX12_answerTo_54 ic_m1 ?_
    exact x_iret dX12_answerTo_55 rfl h
  · refine v_aload_n dX12_answerTo_15 rfl 0 rfl ?_
    refine v_iload_n dX12_answerTo_16 rfl 1 rfl ?_
    refine v_iload_n dX12_answerTo_17 rfl 2 rfl ?_
    refine v_iload dX12_answerTo_18 4 rfl ?_
    refine x_inv (cv := cU) (As := [.int v1, .int v2, .int v4]) (rest := []) (ls2 := [(0, .ref v0), (1, .int v1), (2, .int v2), (3, .int v4)]) (ci := 11) (by omega) dX12_answerTo_20 ke_X12_addPick kv_X12_185 rfl rfl (by decide) (Nat.le_of_ble_eq_true rfl) rfl rfl rfl rfl h (fun _ hq => s_X12_addPick (by omega) hq) (fun _ M3 h => ?_)
    refine v_aload_n dX12_answerTo_23 rfl 0 rfl ?_
    refine v_iload_n dX12_answerTo_24 rfl 3 rfl ?_
    refine x_inv (cv := cI) (As := [.int v3]) (rest := []) (ls2 := [(0, .ref v0), (1, .int v3)]) (ci := 11) (by omega) dX12_answerTo_25 ke_X12_keeps kv_X12_201 rfl rfl (by decide) (Nat.le_of_ble_eq_true rfl) rfl rfl rfl rfl h (fun _ hq => s_X12_keeps (by omega) hq) (fun x5 M4 h => ?_)
    refine v_istore (ls2 := [(5, .int x5), (0, .ref v0), (1, .int v1), (2, .int v2), (3, .int v3), (4, .int v4)]) dX12_answerTo_28 (by decide) rfl ?_
    refine v_aload_n dX12_answerTo_30 rfl 1 rfl ?_
    refine v_dup dX12_answerTo_31 rfl ?_
    refine x_gI dX12_answerTo_32 kf_X12_169 rfl h (fun x6 h => ?_)
    refine v_iconst dX12_answerTo_35 ic_1 ?_
    refine v_isub dX12_answerTo_36 ?_
    refine x_pI dX12_answerTo_37 kf_X12_169 rfl (fun q => Bool.noConfusion q) h (fun M7 h => ?_)
    refine v_iload dX12_answerTo_40 0 rfl ?_
    refine x_if_eq (tgt := 48) dX12_answerTo_42 (by decide) h (fun h => ?_) (fun h => ?_)
    · refine v_iincC (ls2 := [(4, .int (v4 + (nI 1))), (5, .int x5), (0, .ref v0), (1, .int v1), (2, .int v2), (3, .int v3)]) dX12_answerTo_48 ic_1 5 rfl (by decide) rfl ?_
      refine v_goto (tgt := 3) dX12_answerTo_51 (by decide) ?_
      exact V.pick [2, 3, 4, 5, 0] rfl (hk3 _ _ _ _ _ _ _ h)
    · refine v_iload dX12_answerTo_45 5 rfl ?_
      exact x_iret dX12_answerTo_47 rfl h
theorem t_X12_answerTo_3 {G : jG} {d : Nat} (hd_ : 7 ≤ d)  : ∀ (n : Nat) (v0 : Nat) (v1 : Int32) (v2 : Int32) (v3 : Int32) (v4 : Int32) (M : jM) (b : Int32 × jM), l_X12_answerTo_3  n v0 v1 v2 v3 v4 M = some b → V G m_X12_answerTo d 3 [(0, .ref v0), (1, .int v1), (2, .int v2), (3, .int v3), (4, .int v4)] [] M (jQb cI b) := by
  intro n
  induction n with
  | zero => intro v0 v1 v2 v3 v4 M b h; exact nomatch (show (none : jO Int32) = some b from h)
  | succ n ih => intro v0 v1 v2 v3 v4 M b h; exact tb_X12_answerTo_3 hd_  ih h
def f_X12_answerTo (v0 : Nat) (v1 : Int32) (v2 : Int32) (v3 : Int32) (M : jM) : jO Int32 :=
  l_X12_answerTo_3 jF0 v0 v1 v2 v3 (nI 0) M
theorem s_X12_answerTo {G : jG} {d : Nat} (hd_ : 7 ≤ d) {v0 : Nat} {v1 : Int32} {v2 : Int32} {v3 : Int32} {M : jM} {b : Int32 × jM} (h : f_X12_answerTo  v0 v1 v2 v3 M = some b) : V G m_X12_answerTo d 0 [(0, .ref v0), (1, .int v1), (2, .int v2), (3, .int v3)] [] M (jQb cI b) := by
  unfold f_X12_answerTo at h
  refine v_iconst dX12_answerTo_0 ic_0 ?_
  refine v_istore (ls2 := [(4, .int (nI 0)), (0, .ref v0), (1, .int v1), (2, .int v2), (3, .int v3)]) dX12_answerTo_1 (by decide) rfl ?_
  exact V.pick [1, 2, 3, 4, 0] rfl (t_X12_answerTo_3 hd_ _ _ _ _ _ _ _ _ h)
def b_X12_best_70 (k63 : Nat → Int32 → jM → jO Int32) (k70 : Nat → Int32 → Int32 → jM → jO Int32) (v0 : Nat) (v1 : Int32) (v2 : Int32) (M : jM) : jO Int32 :=
  jb2 (jiv 11 M v0 (f_X12_manyOf v0 v1 M)) fun x2 M1 =>
  if x2 ≤ v2 then
    k63 v0 (v1 + (nI 1)) M1
  else
    (gI 11 M1 v0 11).bind fun x3 =>
    jb2 (jiv 11 M1 v0 (f_X12_answerTo v0 v1 v2 (x3 - (nI 1)) M1)) fun x5 M4 =>
    if 0 ≤ x5 then
      k70 v0 v1 (v2 + (nI 1)) M4
    else
      rt (((nI 10) * v1) + v2) M4
def l_X12_best_70 (k63 : Nat → Int32 → jM → jO Int32) : Nat → Nat → Int32 → Int32 → jM → jO Int32
  | 0 => fun _ _ _ _ => none
  | n + 1 => b_X12_best_70 k63 (l_X12_best_70 k63 n)
theorem tb_X12_best_70 {G : jG} {d : Nat} (hd_ : 8 ≤ d) {k63 : Nat → Int32 → jM → jO Int32} (hk63 : ∀ (w0 : Nat) (w1 : Int32) (M : jM) (b : Int32 × jM), k63 w0 w1 M = some b → V G m_X12_best d 63 [(0, .ref w0), (1, .int w1)] [] M (jQb cI b)) {k70 : Nat → Int32 → Int32 → jM → jO Int32} (hk70 : ∀ (w0 : Nat) (w1 : Int32) (w2 : Int32) (M : jM) (b : Int32 × jM), k70 w0 w1 w2 M = some b → V G m_X12_best d 70 [(0, .ref w0), (1, .int w1), (2, .int w2)] [] M (jQb cI b)) {v0 : Nat} {v1 : Int32} {v2 : Int32} {M : jM} {b : Int32 × jM} (h : b_X12_best_70 k63 k70 v0 v1 v2 M = some b) : V G m_X12_best d 70 [(0, .ref v0), (1, .int v1), (2, .int v2)] [] M (jQb cI b) := by
  unfold b_X12_best_70 at h
  refine v_iload_n dX12_best_70 rfl 2 rfl ?_
  refine v_aload_n dX12_best_71 rfl 0 rfl ?_
  refine v_iload_n dX12_best_72 rfl 1 rfl ?_
  refine x_inv (cv := cI) (As := [.int v1]) (rest := [.int v2]) (ls2 := [(0, .ref v0), (1, .int v1)]) (ci := 11) (by omega) dX12_best_73 ke_X12_manyOf kv_X12_182 rfl rfl (by decide) (Nat.le_of_ble_eq_true rfl) rfl rfl rfl rfl h (fun _ hq => s_X12_manyOf (by omega) hq) (fun x2 M1 h => ?_)
  refine x_ic_ge (tgt := 107) dX12_best_76 (by decide) h (fun h => ?_) (fun h => ?_)
  · refine v_iincC (ls2 := [(1, .int (v1 + (nI 1))), (0, .ref v0), (2, .int v2)]) dX12_best_107 ic_1 1 rfl (by decide) rfl ?_
    refine v_goto (tgt := 63) dX12_best_110 (by decide) ?_
    exact V.pick [1, 0] rfl (hk63 _ _ _ _ h)
  · refine v_aload_n dX12_best_79 rfl 0 rfl ?_
    refine v_iload_n dX12_best_80 rfl 1 rfl ?_
    refine v_iload_n dX12_best_81 rfl 2 rfl ?_
    refine v_aload_n dX12_best_82 rfl 0 rfl ?_
    refine x_gI dX12_best_83 kf_X12_213 rfl h (fun x3 h => ?_)
    refine v_iconst dX12_best_86 ic_1 ?_
    refine v_isub dX12_best_87 ?_
    refine x_inv (cv := cI) (As := [.int v1, .int v2, .int (x3 - (nI 1))]) (rest := []) (ls2 := [(0, .ref v0), (1, .int v1), (2, .int v2), (3, .int (x3 - (nI 1)))]) (ci := 11) (by omega) dX12_best_88 ke_X12_answerTo kv_X12_228 rfl rfl (by decide) (Nat.le_of_ble_eq_true rfl) rfl rfl rfl rfl h (fun _ hq => s_X12_answerTo (by omega) hq) (fun x5 M4 h => ?_)
    refine x_if_ge (tgt := 101) dX12_best_91 (by decide) h (fun h => ?_) (fun h => ?_)
    · refine v_iincC (ls2 := [(2, .int (v2 + (nI 1))), (0, .ref v0), (1, .int v1)]) dX12_best_101 ic_1 2 rfl (by decide) rfl ?_
      refine v_goto (tgt := 70) dX12_best_104 (by decide) ?_
      exact V.pick [1, 2, 0] rfl (hk70 _ _ _ _ _ h)
    · refine v_bipush dX12_best_94 bp_10 ?_
      refine v_iload_n dX12_best_96 rfl 1 rfl ?_
      refine v_imul dX12_best_97 ?_
      refine v_iload_n dX12_best_98 rfl 2 rfl ?_
      refine v_iadd dX12_best_99 ?_
      exact x_iret dX12_best_100 rfl h
theorem t_X12_best_70 {G : jG} {d : Nat} (hd_ : 8 ≤ d) {k63 : Nat → Int32 → jM → jO Int32} (hk63 : ∀ (w0 : Nat) (w1 : Int32) (M : jM) (b : Int32 × jM), k63 w0 w1 M = some b → V G m_X12_best d 63 [(0, .ref w0), (1, .int w1)] [] M (jQb cI b)) : ∀ (n : Nat) (v0 : Nat) (v1 : Int32) (v2 : Int32) (M : jM) (b : Int32 × jM), l_X12_best_70 k63 n v0 v1 v2 M = some b → V G m_X12_best d 70 [(0, .ref v0), (1, .int v1), (2, .int v2)] [] M (jQb cI b) := by
  intro n
  induction n with
  | zero => intro v0 v1 v2 M b h; exact nomatch (show (none : jO Int32) = some b from h)
  | succ n ih => intro v0 v1 v2 M b h; exact tb_X12_best_70 hd_ hk63 ih h
def b_X12_best_63  (k63 : Nat → Int32 → jM → jO Int32) (v0 : Nat) (v1 : Int32) (M : jM) : jO Int32 :=
  if (nI 2) ≤ v1 then
    rt (-9 : Int32) M
  else
    l_X12_best_70 k63 jF0 v0 v1 (nI 0) M
def l_X12_best_63  : Nat → Nat → Int32 → jM → jO Int32
  | 0 => fun _ _ _ => none
  | n + 1 => b_X12_best_63  (l_X12_best_63  n)
theorem tb_X12_best_63 {G : jG} {d : Nat} (hd_ : 8 ≤ d)  {k63 : Nat → Int32 → jM → jO Int32} (hk63 : ∀ (w0 : Nat) (w1 : Int32) (M : jM) (b : Int32 × jM), k63 w0 w1 M = some b → V G m_X12_best d 63 [(0, .ref w0), (1, .int w1)] [] M (jQb cI b)) {v0 : Nat} {v1 : Int32} {M : jM} {b : Int32 × jM} (h : b_X12_best_63  k63 v0 v1 M = some b) : V G m_X12_best d 63 [(0, .ref v0), (1, .int v1)] [] M (jQb cI b) := by
  unfold b_X12_best_63 at h
  refine v_iload_n dX12_best_63 rfl 1 rfl ?_
  refine v_iconst dX12_best_64 ic_2 ?_
  refine x_ic_ge (tgt := 113) dX12_best_65 (by decide) h (fun h => ?_) (fun h => ?_)
  · refine v_bipush dX12_best_113 bp_m9 ?_
    exact x_iret dX12_best_115 rfl h
  · refine v_iconst dX12_best_68 ic_0 ?_
    refine v_istore_n (ls2 := [(2, .int (nI 0)), (0, .ref v0), (1, .int v1)]) dX12_best_69 rfl (by decide) rfl ?_
    exact V.pick [1, 2, 0] rfl (t_X12_best_70 hd_ hk63 _ _ _ _ _ _ h)
theorem t_X12_best_63 {G : jG} {d : Nat} (hd_ : 8 ≤ d)  : ∀ (n : Nat) (v0 : Nat) (v1 : Int32) (M : jM) (b : Int32 × jM), l_X12_best_63  n v0 v1 M = some b → V G m_X12_best d 63 [(0, .ref v0), (1, .int v1)] [] M (jQb cI b) := by
  intro n
  induction n with
  | zero => intro v0 v1 M b h; exact nomatch (show (none : jO Int32) = some b from h)
  | succ n ih => intro v0 v1 M b h; exact tb_X12_best_63 hd_  ih h
def j_X12_best_19  (v0 : Nat) (M : jM) : jO Int32 :=
  jb2 (jiv 11 M v0 (f_X12_layPlay v0 M)) fun _ M1 =>
  (gI 11 M1 v0 10).bind fun x2 =>
  if x2 = (nI 2) then
    (gI 11 M1 v0 15).bind fun x3 =>
    (gI 11 M1 v0 16).bind fun x4 =>
    (gI 11 M1 v0 11).bind fun x5 =>
    jb2 (jiv 11 M1 v0 (f_X12_answerTo v0 x3 x4 (x5 - (nI 1)) M1)) fun x7 M6 =>
    if 0 ≤ x7 then
      rt x7 M6
    else
      rt (-9 : Int32) M6
  else
    l_X12_best_63 jF0 v0 (nI 0) M1
theorem t_X12_best_19 {G : jG} {d : Nat} (hd_ : 8 ≤ d)  {v0 : Nat} {M : jM} {b : Int32 × jM} (h : j_X12_best_19  v0 M = some b) : V G m_X12_best d 19 [(0, .ref v0)] [] M (jQb cI b) := by
  unfold j_X12_best_19 at h
  refine v_aload_n dX12_best_19 rfl 0 rfl ?_
  refine x_inv (cv := cU) (As := []) (rest := []) (ls2 := [(0, .ref v0)]) (ci := 11) (by omega) dX12_best_20 ke_X12_layPlay kv_X12_210 rfl rfl (by decide) (Nat.le_of_ble_eq_true rfl) rfl rfl rfl rfl h (fun _ hq => s_X12_layPlay (by omega) hq) (fun _ M1 h => ?_)
  refine v_aload_n dX12_best_23 rfl 0 rfl ?_
  refine x_gI dX12_best_24 kf_X12_126 rfl h (fun x2 h => ?_)
  refine v_iconst dX12_best_27 ic_2 ?_
  refine x_ic_ne (tgt := 61) dX12_best_28 (by decide) h (fun h => ?_) (fun h => ?_)
  · refine v_aload_n dX12_best_31 rfl 0 rfl ?_
    refine v_aload_n dX12_best_32 rfl 0 rfl ?_
    refine x_gI dX12_best_33 kf_X12_222 rfl h (fun x3 h => ?_)
    refine v_aload_n dX12_best_36 rfl 0 rfl ?_
    refine x_gI dX12_best_37 kf_X12_225 rfl h (fun x4 h => ?_)
    refine v_aload_n dX12_best_40 rfl 0 rfl ?_
    refine x_gI dX12_best_41 kf_X12_213 rfl h (fun x5 h => ?_)
    refine v_iconst dX12_best_44 ic_1 ?_
    refine v_isub dX12_best_45 ?_
    refine x_inv (cv := cI) (As := [.int x3, .int x4, .int (x5 - (nI 1))]) (rest := []) (ls2 := [(0, .ref v0), (1, .int x3), (2, .int x4), (3, .int (x5 - (nI 1)))]) (ci := 11) (by omega) dX12_best_46 ke_X12_answerTo kv_X12_228 rfl rfl (by decide) (Nat.le_of_ble_eq_true rfl) rfl rfl rfl rfl h (fun _ hq => s_X12_answerTo (by omega) hq) (fun x7 M6 h => ?_)
    refine v_istore_n (ls2 := [(1, .int x7), (0, .ref v0)]) dX12_best_49 rfl (by decide) rfl ?_
    refine v_iload_n dX12_best_50 rfl 0 rfl ?_
    refine x_if_ge (tgt := 59) dX12_best_51 (by decide) h (fun h => ?_) (fun h => ?_)
    · refine v_iload_n dX12_best_59 rfl 0 rfl ?_
      exact x_iret dX12_best_60 rfl h
    · refine v_bipush dX12_best_54 bp_m9 ?_
      refine v_goto (tgt := 60) dX12_best_56 (by decide) ?_
      exact x_iret dX12_best_60 rfl h
  · refine v_iconst dX12_best_61 ic_0 ?_
    refine v_istore_n (ls2 := [(1, .int (nI 0)), (0, .ref v0)]) dX12_best_62 rfl (by decide) rfl ?_
    exact V.pick [1, 0] rfl (t_X12_best_63 hd_ _ _ _ _ _ h)
def f_X12_best (v0 : Nat) (M : jM) : jO Int32 :=
  (gI 11 M v0 10).bind fun x1 =>
  if x1 = (nI 1) then
    j_X12_best_19 v0 M
  else
    (gI 11 M v0 10).bind fun x2 =>
    if x2 = (nI 2) then
      j_X12_best_19 v0 M
    else
      rt (-3 : Int32) M
theorem s_X12_best {G : jG} {d : Nat} (hd_ : 8 ≤ d) {v0 : Nat} {M : jM} {b : Int32 × jM} (h : f_X12_best  v0 M = some b) : V G m_X12_best d 0 [(0, .ref v0)] [] M (jQb cI b) := by
  unfold f_X12_best at h
  refine v_aload_n dX12_best_0 rfl 0 rfl ?_
  refine x_gI dX12_best_1 kf_X12_126 rfl h (fun x1 h => ?_)
  refine v_iconst dX12_best_4 ic_1 ?_
  refine x_ic_eq (tgt := 19) dX12_best_5 (by decide) h (fun h => ?_) (fun h => ?_)
  · exact t_X12_best_19 hd_ h
  · refine v_aload_n dX12_best_8 rfl 0 rfl ?_
    refine x_gI dX12_best_9 kf_X12_126 rfl h (fun x2 h => ?_)
    refine v_iconst dX12_best_12 ic_2 ?_
    refine x_ic_eq (tgt := 19) dX12_best_13 (by decide) h (fun h => ?_) (fun h => ?_)
    · exact t_X12_best_19 hd_ h
    · refine v_bipush dX12_best_16 bp_m3 ?_
      exact x_iret dX12_best_18 rfl h
def j_X12_areBalanced_57 (k4 : Nat → Int32 → Int32 → jM → jO Int32) (k17 : Nat → Int32 → Int32 → Int32 → Int32 → jM → jO Int32) (v0 : Nat) (v1 : Int32) (v2 : Int32) (v4 : Int32) (s0 : Int32) (s1 : Int32) (M : jM) : jO Int32 :=
  (jv (s0 + s1)).bind fun y1 =>
  k17 v0 v1 v2 y1 (v4 + (nI 1)) M
theorem t_X12_areBalanced_57 {G : jG} {d : Nat} (hd_ : 0 ≤ d) {k4 : Nat → Int32 → Int32 → jM → jO Int32} (hk4 : ∀ (w0 : Nat) (w1 : Int32) (w2 : Int32) (M : jM) (b : Int32 × jM), k4 w0 w1 w2 M = some b → V G m_X12_areBalanced d 4 [(0, .ref w0), (1, .int w1), (2, .int w2)] [] M (jQb cI b)) {k17 : Nat → Int32 → Int32 → Int32 → Int32 → jM → jO Int32} (hk17 : ∀ (w0 : Nat) (w1 : Int32) (w2 : Int32) (w3 : Int32) (w4 : Int32) (M : jM) (b : Int32 × jM), k17 w0 w1 w2 w3 w4 M = some b → V G m_X12_areBalanced d 17 [(0, .ref w0), (1, .int w1), (2, .int w2), (3, .int w3), (4, .int w4)] [] M (jQb cI b)) {v0 : Nat} {v1 : Int32} {v2 : Int32} {v4 : Int32} {s0 : Int32} {s1 : Int32} {M : jM} {b : Int32 × jM} (h : j_X12_areBalanced_57 k4 k17 v0 v1 v2 v4 s0 s1 M = some b) : V G m_X12_areBalanced d 57 [(0, .ref v0), (1, .int v1), (2, .int v2), (4, .int v4)] [.int s1, .int s0] M (jQb cI b) := by
  unfold j_X12_areBalanced_57 at h
  refine v_iadd dX12_areBalanced_57 ?_
  refine x_jvI h (fun y1 h => ?_)
  refine v_istore_n (ls2 := [(3, .int y1), (0, .ref v0), (1, .int v1), (2, .int v2), (4, .int v4)]) dX12_areBalanced_58 rfl (by decide) rfl ?_
  refine v_iincC (ls2 := [(4, .int (v4 + (nI 1))), (3, .int y1), (0, .ref v0), (1, .int v1), (2, .int v2)]) dX12_areBalanced_59 ic_1 4 rfl (by decide) rfl ?_
  refine v_goto (tgt := 17) dX12_areBalanced_62 (by decide) ?_
  exact V.pick [2, 3, 4, 1, 0] rfl (hk17 _ _ _ _ _ _ _ h)
def j_X12_areBalanced_78 (k4 : Nat → Int32 → Int32 → jM → jO Int32) (v0 : Nat) (v2 : Int32) (s0 : Int32) (M : jM) : jO Int32 :=
  k4 v0 s0 (v2 + (nI 1)) M
theorem t_X12_areBalanced_78 {G : jG} {d : Nat} (hd_ : 0 ≤ d) {k4 : Nat → Int32 → Int32 → jM → jO Int32} (hk4 : ∀ (w0 : Nat) (w1 : Int32) (w2 : Int32) (M : jM) (b : Int32 × jM), k4 w0 w1 w2 M = some b → V G m_X12_areBalanced d 4 [(0, .ref w0), (1, .int w1), (2, .int w2)] [] M (jQb cI b)) {v0 : Nat} {v2 : Int32} {s0 : Int32} {M : jM} {b : Int32 × jM} (h : j_X12_areBalanced_78 k4 v0 v2 s0 M = some b) : V G m_X12_areBalanced d 78 [(0, .ref v0), (2, .int v2)] [.int s0] M (jQb cI b) := by
  unfold j_X12_areBalanced_78 at h
  refine v_istore_n (ls2 := [(1, .int s0), (0, .ref v0), (2, .int v2)]) dX12_areBalanced_78 rfl (by decide) rfl ?_
  refine v_iincC (ls2 := [(2, .int (v2 + (nI 1))), (1, .int s0), (0, .ref v0)]) dX12_areBalanced_79 ic_1 2 rfl (by decide) rfl ?_
  refine v_goto (tgt := 4) dX12_areBalanced_82 (by decide) ?_
  exact V.pick [2, 1, 0] rfl (hk4 _ _ _ _ _ h)
def j_X12_areBalanced_77 (k4 : Nat → Int32 → Int32 → jM → jO Int32) (v0 : Nat) (v2 : Int32) (M : jM) : jO Int32 :=
  j_X12_areBalanced_78 k4 v0 v2 (nI 0) M
theorem t_X12_areBalanced_77 {G : jG} {d : Nat} (hd_ : 0 ≤ d) {k4 : Nat → Int32 → Int32 → jM → jO Int32} (hk4 : ∀ (w0 : Nat) (w1 : Int32) (w2 : Int32) (M : jM) (b : Int32 × jM), k4 w0 w1 w2 M = some b → V G m_X12_areBalanced d 4 [(0, .ref w0), (1, .int w1), (2, .int w2)] [] M (jQb cI b)) {v0 : Nat} {v2 : Int32} {M : jM} {b : Int32 × jM} (h : j_X12_areBalanced_77 k4 v0 v2 M = some b) : V G m_X12_areBalanced d 77 [(0, .ref v0), (2, .int v2)] [] M (jQb cI b) := by
  unfold j_X12_areBalanced_77 at h
  refine v_iconst dX12_areBalanced_77 ic_0 ?_
  exact t_X12_areBalanced_78 hd_ hk4 h
def b_X12_areBalanced_17 (k4 : Nat → Int32 → Int32 → jM → jO Int32) (k17 : Nat → Int32 → Int32 → Int32 → Int32 → jM → jO Int32) (v0 : Nat) (v1 : Int32) (v2 : Int32) (v3 : Int32) (v4 : Int32) (M : jM) : jO Int32 :=
  (gI 11 M v0 52).bind fun x1 =>
  if x1 ≤ v4 then
    if v1 = 0 then
      j_X12_areBalanced_77 k4 v0 v2 M
    else
      if v3 = 0 then
        j_X12_areBalanced_78 k4 v0 v2 (nI 1) M
      else
        j_X12_areBalanced_77 k4 v0 v2 M
  else
    (gR 11 M v0 55).bind fun r2 =>
    (ldI M r2 v4).bind fun x3 =>
    if x3 = v2 then
      (gR 11 M v0 57).bind fun r4 =>
      (ldI M r4 v4).bind fun x5 =>
      if x5 = 0 then
        j_X12_areBalanced_57 k4 k17 v0 v1 v2 v4 v3 (nI 1) M
      else
        j_X12_areBalanced_57 k4 k17 v0 v1 v2 v4 v3 (-1 : Int32) M
    else
      j_X12_areBalanced_57 k4 k17 v0 v1 v2 v4 v3 (nI 0) M
def l_X12_areBalanced_17 (k4 : Nat → Int32 → Int32 → jM → jO Int32) : Nat → Nat → Int32 → Int32 → Int32 → Int32 → jM → jO Int32
  | 0 => fun _ _ _ _ _ _ => none
  | n + 1 => b_X12_areBalanced_17 k4 (l_X12_areBalanced_17 k4 n)
theorem tb_X12_areBalanced_17 {G : jG} {d : Nat} (hd_ : 0 ≤ d) {k4 : Nat → Int32 → Int32 → jM → jO Int32} (hk4 : ∀ (w0 : Nat) (w1 : Int32) (w2 : Int32) (M : jM) (b : Int32 × jM), k4 w0 w1 w2 M = some b → V G m_X12_areBalanced d 4 [(0, .ref w0), (1, .int w1), (2, .int w2)] [] M (jQb cI b)) {k17 : Nat → Int32 → Int32 → Int32 → Int32 → jM → jO Int32} (hk17 : ∀ (w0 : Nat) (w1 : Int32) (w2 : Int32) (w3 : Int32) (w4 : Int32) (M : jM) (b : Int32 × jM), k17 w0 w1 w2 w3 w4 M = some b → V G m_X12_areBalanced d 17 [(0, .ref w0), (1, .int w1), (2, .int w2), (3, .int w3), (4, .int w4)] [] M (jQb cI b)) {v0 : Nat} {v1 : Int32} {v2 : Int32} {v3 : Int32} {v4 : Int32} {M : jM} {b : Int32 × jM} (h : b_X12_areBalanced_17 k4 k17 v0 v1 v2 v3 v4 M = some b) : V G m_X12_areBalanced d 17 [(0, .ref v0), (1, .int v1), (2, .int v2), (3, .int v3), (4, .int v4)] [] M (jQb cI b) := by
  unfold b_X12_areBalanced_17 at h
  refine v_iload dX12_areBalanced_17 4 rfl ?_
  refine v_aload_n dX12_areBalanced_19 rfl 0 rfl ?_
  refine x_gI dX12_areBalanced_20 kf_X12_383 rfl h (fun x1 h => ?_)
  refine x_ic_ge (tgt := 65) dX12_areBalanced_23 (by decide) h (fun h => ?_) (fun h => ?_)
  · refine v_iload_n dX12_areBalanced_65 rfl 1 rfl ?_
    refine x_if_eq (tgt := 77) dX12_areBalanced_66 (by decide) h (fun h => ?_) (fun h => ?_)
    · exact V.pick [0, 2] rfl (t_X12_areBalanced_77 hd_ hk4 h)
    · refine v_iload_n dX12_areBalanced_69 rfl 3 rfl ?_
      refine x_if_ne (tgt := 77) dX12_areBalanced_70 (by decide) h (fun h => ?_) (fun h => ?_)
      · refine v_iconst dX12_areBalanced_73 ic_1 ?_
        refine v_goto (tgt := 78) dX12_areBalanced_74 (by decide) ?_
        exact V.pick [0, 2] rfl (t_X12_areBalanced_78 hd_ hk4 h)
      · exact V.pick [0, 2] rfl (t_X12_areBalanced_77 hd_ hk4 h)
  · refine v_iload_n dX12_areBalanced_26 rfl 3 rfl ?_
    refine v_aload_n dX12_areBalanced_27 rfl 0 rfl ?_
    refine x_gR dX12_areBalanced_28 kf_X12_98 rfl h (fun r2 h => ?_)
    refine v_iload dX12_areBalanced_31 4 rfl ?_
    refine x_ldI dX12_areBalanced_33 h (fun x3 h => ?_)
    refine v_iload_n dX12_areBalanced_34 rfl 2 rfl ?_
    refine x_ic_eq (tgt := 42) dX12_areBalanced_35 (by decide) h (fun h => ?_) (fun h => ?_)
    · refine v_aload_n dX12_areBalanced_42 rfl 0 rfl ?_
      refine x_gR dX12_areBalanced_43 kf_X12_104 rfl h (fun r4 h => ?_)
      refine v_iload dX12_areBalanced_46 4 rfl ?_
      refine x_ldI dX12_areBalanced_48 h (fun x5 h => ?_)
      refine x_if_ne (tgt := 56) dX12_areBalanced_49 (by decide) h (fun h => ?_) (fun h => ?_)
      · refine v_iconst dX12_areBalanced_52 ic_1 ?_
        refine v_goto (tgt := 57) dX12_areBalanced_53 (by decide) ?_
        exact V.pick [0, 1, 2, 4] rfl (t_X12_areBalanced_57 hd_ hk4 hk17 h)
      · refine v_iconst dX12_areBalanced_56 ic_m1 ?_
        exact V.pick [0, 1, 2, 4] rfl (t_X12_areBalanced_57 hd_ hk4 hk17 h)
    · refine v_iconst dX12_areBalanced_38 ic_0 ?_
      refine v_goto (tgt := 57) dX12_areBalanced_39 (by decide) ?_
      exact V.pick [0, 1, 2, 4] rfl (t_X12_areBalanced_57 hd_ hk4 hk17 h)
theorem t_X12_areBalanced_17 {G : jG} {d : Nat} (hd_ : 0 ≤ d) {k4 : Nat → Int32 → Int32 → jM → jO Int32} (hk4 : ∀ (w0 : Nat) (w1 : Int32) (w2 : Int32) (M : jM) (b : Int32 × jM), k4 w0 w1 w2 M = some b → V G m_X12_areBalanced d 4 [(0, .ref w0), (1, .int w1), (2, .int w2)] [] M (jQb cI b)) : ∀ (n : Nat) (v0 : Nat) (v1 : Int32) (v2 : Int32) (v3 : Int32) (v4 : Int32) (M : jM) (b : Int32 × jM), l_X12_areBalanced_17 k4 n v0 v1 v2 v3 v4 M = some b → V G m_X12_areBalanced d 17 [(0, .ref v0), (1, .int v1), (2, .int v2), (3, .int v3), (4, .int v4)] [] M (jQb cI b) := by
  intro n
  induction n with
  | zero => intro v0 v1 v2 v3 v4 M b h; exact nomatch (show (none : jO Int32) = some b from h)
  | succ n ih => intro v0 v1 v2 v3 v4 M b h; exact tb_X12_areBalanced_17 hd_ hk4 ih h
def b_X12_areBalanced_4  (k4 : Nat → Int32 → Int32 → jM → jO Int32) (v0 : Nat) (v1 : Int32) (v2 : Int32) (M : jM) : jO Int32 :=
  (gI 11 M v0 51).bind fun x1 =>
  if x1 ≤ v2 then
    rZ v1 M
  else
    l_X12_areBalanced_17 k4 jF0 v0 v1 v2 (nI 0) (nI 0) M
def l_X12_areBalanced_4  : Nat → Nat → Int32 → Int32 → jM → jO Int32
  | 0 => fun _ _ _ _ => none
  | n + 1 => b_X12_areBalanced_4  (l_X12_areBalanced_4  n)
theorem tb_X12_areBalanced_4 {G : jG} {d : Nat} (hd_ : 0 ≤ d)  {k4 : Nat → Int32 → Int32 → jM → jO Int32} (hk4 : ∀ (w0 : Nat) (w1 : Int32) (w2 : Int32) (M : jM) (b : Int32 × jM), k4 w0 w1 w2 M = some b → V G m_X12_areBalanced d 4 [(0, .ref w0), (1, .int w1), (2, .int w2)] [] M (jQb cI b)) {v0 : Nat} {v1 : Int32} {v2 : Int32} {M : jM} {b : Int32 × jM} (h : b_X12_areBalanced_4  k4 v0 v1 v2 M = some b) : V G m_X12_areBalanced d 4 [(0, .ref v0), (1, .int v1), (2, .int v2)] [] M (jQb cI b) := by
  unfold b_X12_areBalanced_4 at h
  refine v_iload_n dX12_areBalanced_4 rfl 2 rfl ?_
  refine v_aload_n dX12_areBalanced_5 rfl 0 rfl ?_
  refine x_gI dX12_areBalanced_6 kf_X12_130 rfl h (fun x1 h => ?_)
  refine x_ic_ge (tgt := 85) dX12_areBalanced_9 (by decide) h (fun h => ?_) (fun h => ?_)
  · refine v_iload_n dX12_areBalanced_85 rfl 1 rfl ?_
    exact x_zret dX12_areBalanced_86 rfl h
  · refine v_iconst dX12_areBalanced_12 ic_0 ?_
    refine v_istore_n (ls2 := [(3, .int (nI 0)), (0, .ref v0), (1, .int v1), (2, .int v2)]) dX12_areBalanced_13 rfl (by decide) rfl ?_
    refine v_iconst dX12_areBalanced_14 ic_0 ?_
    refine v_istore (ls2 := [(4, .int (nI 0)), (3, .int (nI 0)), (0, .ref v0), (1, .int v1), (2, .int v2)]) dX12_areBalanced_15 (by decide) rfl ?_
    exact V.pick [2, 3, 4, 1, 0] rfl (t_X12_areBalanced_17 hd_ hk4 _ _ _ _ _ _ _ _ h)
theorem t_X12_areBalanced_4 {G : jG} {d : Nat} (hd_ : 0 ≤ d)  : ∀ (n : Nat) (v0 : Nat) (v1 : Int32) (v2 : Int32) (M : jM) (b : Int32 × jM), l_X12_areBalanced_4  n v0 v1 v2 M = some b → V G m_X12_areBalanced d 4 [(0, .ref v0), (1, .int v1), (2, .int v2)] [] M (jQb cI b) := by
  intro n
  induction n with
  | zero => intro v0 v1 v2 M b h; exact nomatch (show (none : jO Int32) = some b from h)
  | succ n ih => intro v0 v1 v2 M b h; exact tb_X12_areBalanced_4 hd_  ih h
def f_X12_areBalanced (v0 : Nat) (M : jM) : jO Int32 :=
  l_X12_areBalanced_4 jF0 v0 (nI 1) (nI 0) M
theorem s_X12_areBalanced {G : jG} {d : Nat} (hd_ : 0 ≤ d) {v0 : Nat} {M : jM} {b : Int32 × jM} (h : f_X12_areBalanced  v0 M = some b) : V G m_X12_areBalanced d 0 [(0, .ref v0)] [] M (jQb cI b) := by
  unfold f_X12_areBalanced at h
  refine v_iconst dX12_areBalanced_0 ic_1 ?_
  refine v_istore_n (ls2 := [(1, .int (nI 1)), (0, .ref v0)]) dX12_areBalanced_1 rfl (by decide) rfl ?_
  refine v_iconst dX12_areBalanced_2 ic_0 ?_
  refine v_istore_n (ls2 := [(2, .int (nI 0)), (1, .int (nI 1)), (0, .ref v0)]) dX12_areBalanced_3 rfl (by decide) rfl ?_
  exact V.pick [2, 1, 0] rfl (t_X12_areBalanced_4 hd_ _ _ _ _ _ _ h)
def j_X12_layThings_105 (k8 : Nat → Int32 → Int32 → Int32 → Int32 → jM → jO Unit) (k29 : Nat → Int32 → Int32 → Int32 → Int32 → Int32 → Int32 → jM → jO Unit) (k44 : Nat → Int32 → Int32 → Int32 → Int32 → Int32 → Int32 → Int32 → jM → jO Unit) (v0 : Nat) (v1 : Int32) (v2 : Int32) (v3 : Int32) (v4 : Int32) (v5 : Int32) (v6 : Int32) (v7 : Int32) (s0 : Nat) (s1 : Int32) (s2 : Int32) (M : jM) : jO Unit :=
  (stI M s0 s1 s2).bind fun M1 =>
  (gI 11 M1 v0 52).bind fun x2 =>
  (pI 11 M1 v0 52 (x2 + (nI 1))).bind fun M3 =>
  k44 v0 v1 v2 v3 v4 v5 v6 (v7 + (nI 1)) M3
theorem t_X12_layThings_105 {G : jG} {d : Nat} (hd_ : 0 ≤ d) {k8 : Nat → Int32 → Int32 → Int32 → Int32 → jM → jO Unit} (hk8 : ∀ (w0 : Nat) (w1 : Int32) (w2 : Int32) (w3 : Int32) (w4 : Int32) (M : jM) (b : Unit × jM), k8 w0 w1 w2 w3 w4 M = some b → V G m_X12_layThings d 8 [(0, .ref w0), (1, .int w1), (2, .int w2), (3, .int w3), (4, .int w4)] [] M (jQb cU b)) {k29 : Nat → Int32 → Int32 → Int32 → Int32 → Int32 → Int32 → jM → jO Unit} (hk29 : ∀ (w0 : Nat) (w1 : Int32) (w2 : Int32) (w3 : Int32) (w4 : Int32) (w5 : Int32) (w6 : Int32) (M : jM) (b : Unit × jM), k29 w0 w1 w2 w3 w4 w5 w6 M = some b → V G m_X12_layThings d 29 [(0, .ref w0), (1, .int w1), (2, .int w2), (3, .int w3), (4, .int w4), (5, .int w5), (6, .int w6)] [] M (jQb cU b)) {k44 : Nat → Int32 → Int32 → Int32 → Int32 → Int32 → Int32 → Int32 → jM → jO Unit} (hk44 : ∀ (w0 : Nat) (w1 : Int32) (w2 : Int32) (w3 : Int32) (w4 : Int32) (w5 : Int32) (w6 : Int32) (w7 : Int32) (M : jM) (b : Unit × jM), k44 w0 w1 w2 w3 w4 w5 w6 w7 M = some b → V G m_X12_layThings d 44 [(0, .ref w0), (1, .int w1), (2, .int w2), (3, .int w3), (4, .int w4), (5, .int w5), (6, .int w6), (7, .int w7)] [] M (jQb cU b)) {v0 : Nat} {v1 : Int32} {v2 : Int32} {v3 : Int32} {v4 : Int32} {v5 : Int32} {v6 : Int32} {v7 : Int32} {s0 : Nat} {s1 : Int32} {s2 : Int32} {M : jM} {b : Unit × jM} (h : j_X12_layThings_105 k8 k29 k44 v0 v1 v2 v3 v4 v5 v6 v7 s0 s1 s2 M = some b) : V G m_X12_layThings d 105 [(0, .ref v0), (1, .int v1), (2, .int v2), (3, .int v3), (4, .int v4), (5, .int v5), (6, .int v6), (7, .int v7)] [.int s2, .int s1, .ref s0] M (jQb cU b) := by
  unfold j_X12_layThings_105 at h
  refine x_stI dX12_layThings_105 h (fun M1 h => ?_)
  refine v_aload_n dX12_layThings_106 rfl 0 rfl ?_
  refine v_dup dX12_layThings_107 rfl ?_
  refine x_gI dX12_layThings_108 kf_X12_383 rfl h (fun x2 h => ?_)
  refine v_iconst dX12_layThings_111 ic_1 ?_
  refine v_iadd dX12_layThings_112 ?_
  refine x_pI dX12_layThings_113 kf_X12_383 rfl (fun q => Bool.noConfusion q) h (fun M3 h => ?_)
  refine v_iincC (ls2 := [(7, .int (v7 + (nI 1))), (0, .ref v0), (1, .int v1), (2, .int v2), (3, .int v3), (4, .int v4), (5, .int v5), (6, .int v6)]) dX12_layThings_116 ic_1 7 rfl (by decide) rfl ?_
  refine v_goto (tgt := 44) dX12_layThings_119 (by decide) ?_
  exact V.pick [1, 2, 3, 4, 5, 6, 7, 0] rfl (hk44 _ _ _ _ _ _ _ _ _ _ h)
def j_X12_layThings_61 (k8 : Nat → Int32 → Int32 → Int32 → Int32 → jM → jO Unit) (k29 : Nat → Int32 → Int32 → Int32 → Int32 → Int32 → Int32 → jM → jO Unit) (k44 : Nat → Int32 → Int32 → Int32 → Int32 → Int32 → Int32 → Int32 → jM → jO Unit) (v0 : Nat) (v1 : Int32) (v2 : Int32) (v3 : Int32) (v4 : Int32) (v5 : Int32) (v6 : Int32) (v7 : Int32) (s0 : Int32) (s1 : Int32) (M : jM) : jO Unit :=
  if s1 ≤ s0 then
    k29 v0 v1 v2 v3 v4 v5 (v6 + (nI 1)) M
  else
    (gR 11 M v0 57).bind fun r1 =>
    (gI 11 M v0 52).bind fun x2 =>
    (stI M r1 x2 v4).bind fun M3 =>
    (gR 11 M3 v0 58).bind fun r4 =>
    (gI 11 M3 v0 52).bind fun x5 =>
    (stI M3 r4 x5 v6).bind fun M6 =>
    (gR 11 M6 v0 59).bind fun r7 =>
    (gI 11 M6 v0 52).bind fun x8 =>
    if v3 = 0 then
      j_X12_layThings_105 k8 k29 k44 v0 v1 v2 v3 v4 v5 v6 v7 r7 x8 v6 M6
    else
      j_X12_layThings_105 k8 k29 k44 v0 v1 v2 v3 v4 v5 v6 v7 r7 x8 v7 M6
theorem t_X12_layThings_61 {G : jG} {d : Nat} (hd_ : 0 ≤ d) {k8 : Nat → Int32 → Int32 → Int32 → Int32 → jM → jO Unit} (hk8 : ∀ (w0 : Nat) (w1 : Int32) (w2 : Int32) (w3 : Int32) (w4 : Int32) (M : jM) (b : Unit × jM), k8 w0 w1 w2 w3 w4 M = some b → V G m_X12_layThings d 8 [(0, .ref w0), (1, .int w1), (2, .int w2), (3, .int w3), (4, .int w4)] [] M (jQb cU b)) {k29 : Nat → Int32 → Int32 → Int32 → Int32 → Int32 → Int32 → jM → jO Unit} (hk29 : ∀ (w0 : Nat) (w1 : Int32) (w2 : Int32) (w3 : Int32) (w4 : Int32) (w5 : Int32) (w6 : Int32) (M : jM) (b : Unit × jM), k29 w0 w1 w2 w3 w4 w5 w6 M = some b → V G m_X12_layThings d 29 [(0, .ref w0), (1, .int w1), (2, .int w2), (3, .int w3), (4, .int w4), (5, .int w5), (6, .int w6)] [] M (jQb cU b)) {k44 : Nat → Int32 → Int32 → Int32 → Int32 → Int32 → Int32 → Int32 → jM → jO Unit} (hk44 : ∀ (w0 : Nat) (w1 : Int32) (w2 : Int32) (w3 : Int32) (w4 : Int32) (w5 : Int32) (w6 : Int32) (w7 : Int32) (M : jM) (b : Unit × jM), k44 w0 w1 w2 w3 w4 w5 w6 w7 M = some b → V G m_X12_layThings d 44 [(0, .ref w0), (1, .int w1), (2, .int w2), (3, .int w3), (4, .int w4), (5, .int w5), (6, .int w6), (7, .int w7)] [] M (jQb cU b)) {v0 : Nat} {v1 : Int32} {v2 : Int32} {v3 : Int32} {v4 : Int32} {v5 : Int32} {v6 : Int32} {v7 : Int32} {s0 : Int32} {s1 : Int32} {M : jM} {b : Unit × jM} (h : j_X12_layThings_61 k8 k29 k44 v0 v1 v2 v3 v4 v5 v6 v7 s0 s1 M = some b) : V G m_X12_layThings d 61 [(0, .ref v0), (1, .int v1), (2, .int v2), (3, .int v3), (4, .int v4), (5, .int v5), (6, .int v6), (7, .int v7)] [.int s1, .int s0] M (jQb cU b) := by
  unfold j_X12_layThings_61 at h
  refine x_ic_ge (tgt := 122) dX12_layThings_61 (by decide) h (fun h => ?_) (fun h => ?_)
  · refine v_iincC (ls2 := [(6, .int (v6 + (nI 1))), (0, .ref v0), (1, .int v1), (2, .int v2), (3, .int v3), (4, .int v4), (5, .int v5), (7, .int v7)]) dX12_layThings_122 ic_1 6 rfl (by decide) rfl ?_
    refine v_goto (tgt := 29) dX12_layThings_125 (by decide) ?_
    exact V.pick [1, 2, 3, 4, 5, 6, 0] rfl (hk29 _ _ _ _ _ _ _ _ _ h)
  · refine v_aload_n dX12_layThings_64 rfl 0 rfl ?_
    refine x_gR dX12_layThings_65 kf_X12_104 rfl h (fun r1 h => ?_)
    refine v_aload_n dX12_layThings_68 rfl 0 rfl ?_
    refine x_gI dX12_layThings_69 kf_X12_383 rfl h (fun x2 h => ?_)
    refine v_iload dX12_layThings_72 4 rfl ?_
    refine x_stI dX12_layThings_74 h (fun M3 h => ?_)
    refine v_aload_n dX12_layThings_75 rfl 0 rfl ?_
    refine x_gR dX12_layThings_76 kf_X12_107 rfl h (fun r4 h => ?_)
    refine v_aload_n dX12_layThings_79 rfl 0 rfl ?_
    refine x_gI dX12_layThings_80 kf_X12_383 rfl h (fun x5 h => ?_)
    refine v_iload dX12_layThings_83 6 rfl ?_
    refine x_stI dX12_layThings_85 h (fun M6 h => ?_)
    refine v_aload_n dX12_layThings_86 rfl 0 rfl ?_
    refine x_gR dX12_layThings_87 kf_X12_110 rfl h (fun r7 h => ?_)
    refine v_aload_n dX12_layThings_90 rfl 0 rfl ?_
    refine x_gI dX12_layThings_91 kf_X12_383 rfl h (fun x8 h => ?_)
    refine v_iload_n dX12_layThings_94 rfl 3 rfl ?_
    refine x_if_ne (tgt := 103) dX12_layThings_95 (by decide) h (fun h => ?_) (fun h => ?_)
    · refine v_iload dX12_layThings_98 6 rfl ?_
      refine v_goto (tgt := 105) dX12_layThings_100 (by decide) ?_
      exact t_X12_layThings_105 hd_ hk8 hk29 hk44 h
    · refine v_iload dX12_layThings_103 7 rfl ?_
      exact t_X12_layThings_105 hd_ hk8 hk29 hk44 h
def b_X12_layThings_44 (k8 : Nat → Int32 → Int32 → Int32 → Int32 → jM → jO Unit) (k29 : Nat → Int32 → Int32 → Int32 → Int32 → Int32 → Int32 → jM → jO Unit) (k44 : Nat → Int32 → Int32 → Int32 → Int32 → Int32 → Int32 → Int32 → jM → jO Unit) (v0 : Nat) (v1 : Int32) (v2 : Int32) (v3 : Int32) (v4 : Int32) (v5 : Int32) (v6 : Int32) (v7 : Int32) (M : jM) : jO Unit :=
  if v3 = 0 then
    j_X12_layThings_61 k8 k29 k44 v0 v1 v2 v3 v4 v5 v6 v7 v7 (nI 1) M
  else
    (gR 11 M v0 0).bind fun r1 =>
    (ldI M r1 v5).bind fun x2 =>
    j_X12_layThings_61 k8 k29 k44 v0 v1 v2 v3 v4 v5 v6 v7 v7 x2 M
def l_X12_layThings_44 (k8 : Nat → Int32 → Int32 → Int32 → Int32 → jM → jO Unit) (k29 : Nat → Int32 → Int32 → Int32 → Int32 → Int32 → Int32 → jM → jO Unit) : Nat → Nat → Int32 → Int32 → Int32 → Int32 → Int32 → Int32 → Int32 → jM → jO Unit
  | 0 => fun _ _ _ _ _ _ _ _ _ => none
  | n + 1 => b_X12_layThings_44 k8 k29 (l_X12_layThings_44 k8 k29 n)
theorem tb_X12_layThings_44 {G : jG} {d : Nat} (hd_ : 0 ≤ d) {k8 : Nat → Int32 → Int32 → Int32 → Int32 → jM → jO Unit} (hk8 : ∀ (w0 : Nat) (w1 : Int32) (w2 : Int32) (w3 : Int32) (w4 : Int32) (M : jM) (b : Unit × jM), k8 w0 w1 w2 w3 w4 M = some b → V G m_X12_layThings d 8 [(0, .ref w0), (1, .int w1), (2, .int w2), (3, .int w3), (4, .int w4)] [] M (jQb cU b)) {k29 : Nat → Int32 → Int32 → Int32 → Int32 → Int32 → Int32 → jM → jO Unit} (hk29 : ∀ (w0 : Nat) (w1 : Int32) (w2 : Int32) (w3 : Int32) (w4 : Int32) (w5 : Int32) (w6 : Int32) (M : jM) (b : Unit × jM), k29 w0 w1 w2 w3 w4 w5 w6 M = some b → V G m_X12_layThings d 29 [(0, .ref w0), (1, .int w1), (2, .int w2), (3, .int w3), (4, .int w4), (5, .int w5), (6, .int w6)] [] M (jQb cU b)) {k44 : Nat → Int32 → Int32 → Int32 → Int32 → Int32 → Int32 → Int32 → jM → jO Unit} (hk44 : ∀ (w0 : Nat) (w1 : Int32) (w2 : Int32) (w3 : Int32) (w4 : Int32) (w5 : Int32) (w6 : Int32) (w7 : Int32) (M : jM) (b : Unit × jM), k44 w0 w1 w2 w3 w4 w5 w6 w7 M = some b → V G m_X12_layThings d 44 [(0, .ref w0), (1, .int w1), (2, .int w2), (3, .int w3), (4, .int w4), (5, .int w5), (6, .int w6), (7, .int w7)] [] M (jQb cU b)) {v0 : Nat} {v1 : Int32} {v2 : Int32} {v3 : Int32} {v4 : Int32} {v5 : Int32} {v6 : Int32} {v7 : Int32} {M : jM} {b : Unit × jM} (h : b_X12_layThings_44 k8 k29 k44 v0 v1 v2 v3 v4 v5 v6 v7 M = some b) : V G m_X12_layThings d 44 [(0, .ref v0), (1, .int v1), (2, .int v2), (3, .int v3), (4, .int v4), (5, .int v5), (6, .int v6), (7, .int v7)] [] M (jQb cU b) := by
  unfold b_X12_layThings_44 at h
  refine v_iload dX12_layThings_44 7 rfl ?_
  refine v_iload_n dX12_layThings_46 rfl 3 rfl ?_
  refine x_if_ne (tgt := 54) dX12_layThings_47 (by decide) h (fun h => ?_) (fun h => ?_)
  · refine v_iconst dX12_layThings_50 ic_1 ?_
    refine v_goto (tgt := 61) dX12_layThings_51 (by decide) ?_
    exact t_X12_layThings_61 hd_ hk8 hk29 hk44 h
  · refine v_aload_n dX12_layThings_54 rfl 0 rfl ?_
    refine x_gR dX12_layThings_55 kf_X12_7 rfl h (fun r1 h => ?_)
    refine v_iload dX12_layThings_58 5 rfl ?_
    refine x_ldI dX12_layThings_60 h (fun x2 h => ?_)
    exact t_X12_layThings_61 hd_ hk8 hk29 hk44 h
theorem t_X12_layThings_44 {G : jG} {d : Nat} (hd_ : 0 ≤ d) {k8 : Nat → Int32 → Int32 → Int32 → Int32 → jM → jO Unit} (hk8 : ∀ (w0 : Nat) (w1 : Int32) (w2 : Int32) (w3 : Int32) (w4 : Int32) (M : jM) (b : Unit × jM), k8 w0 w1 w2 w3 w4 M = some b → V G m_X12_layThings d 8 [(0, .ref w0), (1, .int w1), (2, .int w2), (3, .int w3), (4, .int w4)] [] M (jQb cU b)) {k29 : Nat → Int32 → Int32 → Int32 → Int32 → Int32 → Int32 → jM → jO Unit} (hk29 : ∀ (w0 : Nat) (w1 : Int32) (w2 : Int32) (w3 : Int32) (w4 : Int32) (w5 : Int32) (w6 : Int32) (M : jM) (b : Unit × jM), k29 w0 w1 w2 w3 w4 w5 w6 M = some b → V G m_X12_layThings d 29 [(0, .ref w0), (1, .int w1), (2, .int w2), (3, .int w3), (4, .int w4), (5, .int w5), (6, .int w6)] [] M (jQb cU b)) : ∀ (n : Nat) (v0 : Nat) (v1 : Int32) (v2 : Int32) (v3 : Int32) (v4 : Int32) (v5 : Int32) (v6 : Int32) (v7 : Int32) (M : jM) (b : Unit × jM), l_X12_layThings_44 k8 k29 n v0 v1 v2 v3 v4 v5 v6 v7 M = some b → V G m_X12_layThings d 44 [(0, .ref v0), (1, .int v1), (2, .int v2), (3, .int v3), (4, .int v4), (5, .int v5), (6, .int v6), (7, .int v7)] [] M (jQb cU b) := by
  intro n
  induction n with
  | zero => intro v0 v1 v2 v3 v4 v5 v6 v7 M b h; exact nomatch (show (none : jO Unit) = some b from h)
  | succ n ih => intro v0 v1 v2 v3 v4 v5 v6 v7 M b h; exact tb_X12_layThings_44 hd_ hk8 hk29 ih h
def b_X12_layThings_29 (k8 : Nat → Int32 → Int32 → Int32 → Int32 → jM → jO Unit) (k29 : Nat → Int32 → Int32 → Int32 → Int32 → Int32 → Int32 → jM → jO Unit) (v0 : Nat) (v1 : Int32) (v2 : Int32) (v3 : Int32) (v4 : Int32) (v5 : Int32) (v6 : Int32) (M : jM) : jO Unit :=
  (gR 11 M v0 0).bind fun r1 =>
  (ldI M r1 v5).bind fun x2 =>
  if x2 ≤ v6 then
    k8 v0 v1 v2 v3 (v4 + (nI 1)) M
  else
    l_X12_layThings_44 k8 k29 jF0 v0 v1 v2 v3 v4 v5 v6 (nI 0) M
def l_X12_layThings_29 (k8 : Nat → Int32 → Int32 → Int32 → Int32 → jM → jO Unit) : Nat → Nat → Int32 → Int32 → Int32 → Int32 → Int32 → Int32 → jM → jO Unit
  | 0 => fun _ _ _ _ _ _ _ _ => none
  | n + 1 => b_X12_layThings_29 k8 (l_X12_layThings_29 k8 n)
theorem tb_X12_layThings_29 {G : jG} {d : Nat} (hd_ : 0 ≤ d) {k8 : Nat → Int32 → Int32 → Int32 → Int32 → jM → jO Unit} (hk8 : ∀ (w0 : Nat) (w1 : Int32) (w2 : Int32) (w3 : Int32) (w4 : Int32) (M : jM) (b : Unit × jM), k8 w0 w1 w2 w3 w4 M = some b → V G m_X12_layThings d 8 [(0, .ref w0), (1, .int w1), (2, .int w2), (3, .int w3), (4, .int w4)] [] M (jQb cU b)) {k29 : Nat → Int32 → Int32 → Int32 → Int32 → Int32 → Int32 → jM → jO Unit} (hk29 : ∀ (w0 : Nat) (w1 : Int32) (w2 : Int32) (w3 : Int32) (w4 : Int32) (w5 : Int32) (w6 : Int32) (M : jM) (b : Unit × jM), k29 w0 w1 w2 w3 w4 w5 w6 M = some b → V G m_X12_layThings d 29 [(0, .ref w0), (1, .int w1), (2, .int w2), (3, .int w3), (4, .int w4), (5, .int w5), (6, .int w6)] [] M (jQb cU b)) {v0 : Nat} {v1 : Int32} {v2 : Int32} {v3 : Int32} {v4 : Int32} {v5 : Int32} {v6 : Int32} {M : jM} {b : Unit × jM} (h : b_X12_layThings_29 k8 k29 v0 v1 v2 v3 v4 v5 v6 M = some b) : V G m_X12_layThings d 29 [(0, .ref v0), (1, .int v1), (2, .int v2), (3, .int v3), (4, .int v4), (5, .int v5), (6, .int v6)] [] M (jQb cU b) := by
  unfold b_X12_layThings_29 at h
  refine v_iload dX12_layThings_29 6 rfl ?_
  refine v_aload_n dX12_layThings_31 rfl 0 rfl ?_
  refine x_gR dX12_layThings_32 kf_X12_7 rfl h (fun r1 h => ?_)
  refine v_iload dX12_layThings_35 5 rfl ?_
  refine x_ldI dX12_layThings_37 h (fun x2 h => ?_)
  refine x_ic_ge (tgt := 128) dX12_layThings_38 (by decide) h (fun h => ?_) (fun h => ?_)
  · refine v_iincC (ls2 := [(4, .int (v4 + (nI 1))), (0, .ref v0), (1, .int v1), (2, .int v2), (3, .int v3), (5, .int v5), (6, .int v6)]) dX12_layThings_128 ic_1 4 rfl (by decide) rfl ?_
    refine v_goto (tgt := 8) dX12_layThings_131 (by decide) ?_
    exact V.pick [1, 2, 3, 4, 0] rfl (hk8 _ _ _ _ _ _ _ h)
  · refine v_iconst dX12_layThings_41 ic_0 ?_
    refine v_istore (ls2 := [(7, .int (nI 0)), (0, .ref v0), (1, .int v1), (2, .int v2), (3, .int v3), (4, .int v4), (5, .int v5), (6, .int v6)]) dX12_layThings_42 (by decide) rfl ?_
    exact V.pick [1, 2, 3, 4, 5, 6, 7, 0] rfl (t_X12_layThings_44 hd_ hk8 hk29 _ _ _ _ _ _ _ _ _ _ _ h)
theorem t_X12_layThings_29 {G : jG} {d : Nat} (hd_ : 0 ≤ d) {k8 : Nat → Int32 → Int32 → Int32 → Int32 → jM → jO Unit} (hk8 : ∀ (w0 : Nat) (w1 : Int32) (w2 : Int32) (w3 : Int32) (w4 : Int32) (M : jM) (b : Unit × jM), k8 w0 w1 w2 w3 w4 M = some b → V G m_X12_layThings d 8 [(0, .ref w0), (1, .int w1), (2, .int w2), (3, .int w3), (4, .int w4)] [] M (jQb cU b)) : ∀ (n : Nat) (v0 : Nat) (v1 : Int32) (v2 : Int32) (v3 : Int32) (v4 : Int32) (v5 : Int32) (v6 : Int32) (M : jM) (b : Unit × jM), l_X12_layThings_29 k8 n v0 v1 v2 v3 v4 v5 v6 M = some b → V G m_X12_layThings d 29 [(0, .ref v0), (1, .int v1), (2, .int v2), (3, .int v3), (4, .int v4), (5, .int v5), (6, .int v6)] [] M (jQb cU b) := by
  intro n
  induction n with
  | zero => intro v0 v1 v2 v3 v4 v5 v6 M b h; exact nomatch (show (none : jO Unit) = some b from h)
  | succ n ih => intro v0 v1 v2 v3 v4 v5 v6 M b h; exact tb_X12_layThings_29 hd_ hk8 ih h
def j_X12_layThings_24 (k8 : Nat → Int32 → Int32 → Int32 → Int32 → jM → jO Unit) (v0 : Nat) (v1 : Int32) (v2 : Int32) (v3 : Int32) (v4 : Int32) (s0 : Int32) (M : jM) : jO Unit :=
  l_X12_layThings_29 k8 jF0 v0 v1 v2 v3 v4 s0 (nI 0) M
theorem t_X12_layThings_24 {G : jG} {d : Nat} (hd_ : 0 ≤ d) {k8 : Nat → Int32 → Int32 → Int32 → Int32 → jM → jO Unit} (hk8 : ∀ (w0 : Nat) (w1 : Int32) (w2 : Int32) (w3 : Int32) (w4 : Int32) (M : jM) (b : Unit × jM), k8 w0 w1 w2 w3 w4 M = some b → V G m_X12_layThings d 8 [(0, .ref w0), (1, .int w1), (2, .int w2), (3, .int w3), (4, .int w4)] [] M (jQb cU b)) {v0 : Nat} {v1 : Int32} {v2 : Int32} {v3 : Int32} {v4 : Int32} {s0 : Int32} {M : jM} {b : Unit × jM} (h : j_X12_layThings_24 k8 v0 v1 v2 v3 v4 s0 M = some b) : V G m_X12_layThings d 24 [(0, .ref v0), (1, .int v1), (2, .int v2), (3, .int v3), (4, .int v4)] [.int s0] M (jQb cU b) := by
  unfold j_X12_layThings_24 at h
  refine v_istore (ls2 := [(5, .int s0), (0, .ref v0), (1, .int v1), (2, .int v2), (3, .int v3), (4, .int v4)]) dX12_layThings_24 (by decide) rfl ?_
  refine v_iconst dX12_layThings_26 ic_0 ?_
  refine v_istore (ls2 := [(6, .int (nI 0)), (5, .int s0), (0, .ref v0), (1, .int v1), (2, .int v2), (3, .int v3), (4, .int v4)]) dX12_layThings_27 (by decide) rfl ?_
  exact V.pick [2, 3, 4, 5, 6, 1, 0] rfl (t_X12_layThings_29 hd_ hk8 _ _ _ _ _ _ _ _ _ _ h)
def b_X12_layThings_8  (k8 : Nat → Int32 → Int32 → Int32 → Int32 → jM → jO Unit) (v0 : Nat) (v1 : Int32) (v2 : Int32) (v3 : Int32) (v4 : Int32) (M : jM) : jO Unit :=
  if (nI 2) ≤ v4 then
    rt () M
  else
    if v4 = 0 then
      j_X12_layThings_24 k8 v0 v1 v2 v3 v4 v1 M
    else
      j_X12_layThings_24 k8 v0 v1 v2 v3 v4 v2 M
def l_X12_layThings_8  : Nat → Nat → Int32 → Int32 → Int32 → Int32 → jM → jO Unit
  | 0 => fun _ _ _ _ _ _ => none
  | n + 1 => b_X12_layThings_8  (l_X12_layThings_8  n)
theorem tb_X12_layThings_8 {G : jG} {d : Nat} (hd_ : 0 ≤ d)  {k8 : Nat → Int32 → Int32 → Int32 → Int32 → jM → jO Unit} (hk8 : ∀ (w0 : Nat) (w1 : Int32) (w2 : Int32) (w3 : Int32) (w4 : Int32) (M : jM) (b : Unit × jM), k8 w0 w1 w2 w3 w4 M = some b → V G m_X12_layThings d 8 [(0, .ref w0), (1, .int w1), (2, .int w2), (3, .int w3), (4, .int w4)] [] M (jQb cU b)) {v0 : Nat} {v1 : Int32} {v2 : Int32} {v3 : Int32} {v4 : Int32} {M : jM} {b : Unit × jM} (h : b_X12_layThings_8  k8 v0 v1 v2 v3 v4 M = some b) : V G m_X12_layThings d 8 [(0, .ref v0), (1, .int v1), (2, .int v2), (3, .int v3), (4, .int v4)] [] M (jQb cU b) := by
  unfold b_X12_layThings_8 at h
  refine v_iload dX12_layThings_8 4 rfl ?_
  refine v_iconst dX12_layThings_10 ic_2 ?_
  refine x_ic_ge (tgt := 134) dX12_layThings_11 (by decide) h (fun h => ?_) (fun h => ?_)
  · exact x_vret dX12_layThings_134 rfl h
  · refine v_iload dX12_layThings_14 4 rfl ?_
    refine x_if_ne (tgt := 23) dX12_layThings_16 (by decide) h (fun h => ?_) (fun h => ?_)
    · refine v_iload_n dX12_layThings_19 rfl 1 rfl ?_
      refine v_goto (tgt := 24) dX12_layThings_20 (by decide) ?_
      exact t_X12_layThings_24 hd_ hk8 h
    · refine v_iload_n dX12_layThings_23 rfl 2 rfl ?_
      exact t_X12_layThings_24 hd_ hk8 h
theorem t_X12_layThings_8 {G : jG} {d : Nat} (hd_ : 0 ≤ d)  : ∀ (n : Nat) (v0 : Nat) (v1 : Int32) (v2 : Int32) (v3 : Int32) (v4 : Int32) (M : jM) (b : Unit × jM), l_X12_layThings_8  n v0 v1 v2 v3 v4 M = some b → V G m_X12_layThings d 8 [(0, .ref v0), (1, .int v1), (2, .int v2), (3, .int v3), (4, .int v4)] [] M (jQb cU b) := by
  intro n
  induction n with
  | zero => intro v0 v1 v2 v3 v4 M b h; exact nomatch (show (none : jO Unit) = some b from h)
  | succ n ih => intro v0 v1 v2 v3 v4 M b h; exact tb_X12_layThings_8 hd_  ih h
def f_X12_layThings (v0 : Nat) (v1 : Int32) (v2 : Int32) (v3 : Int32) (M : jM) : jO Unit :=
  (pI 11 M v0 52 (nI 0)).bind fun M1 =>
  l_X12_layThings_8 jF0 v0 v1 v2 v3 (nI 0) M1
theorem s_X12_layThings {G : jG} {d : Nat} (hd_ : 0 ≤ d) {v0 : Nat} {v1 : Int32} {v2 : Int32} {v3 : Int32} {M : jM} {b : Unit × jM} (h : f_X12_layThings  v0 v1 v2 v3 M = some b) : V G m_X12_layThings d 0 [(0, .ref v0), (1, .int v1), (2, .int v2), (3, .int v3)] [] M (jQb cU b) := by
  unfold f_X12_layThings at h
  refine v_aload_n dX12_layThings_0 rfl 0 rfl ?_
  refine v_iconst dX12_layThings_1 ic_0 ?_
  refine x_pI dX12_layThings_2 kf_X12_383 rfl (fun q => Bool.noConfusion q) h (fun M1 h => ?_)
  refine v_iconst dX12_layThings_5 ic_0 ?_
  refine v_istore (ls2 := [(4, .int (nI 0)), (0, .ref v0), (1, .int v1), (2, .int v2), (3, .int v3)]) dX12_layThings_6 (by decide) rfl ?_
  exact V.pick [1, 2, 3, 4, 0] rfl (t_X12_layThings_8 hd_ _ _ _ _ _ _ _ _ h)
def j_X12_gather_223 (k30 : Nat → Int32 → Int32 → jM → jO Unit) (v0 : Nat) (v1 : Int32) (v2 : Int32) (M : jM) : jO Unit :=
  k30 v0 v1 (v2 + (nI 1)) M
theorem t_X12_gather_223 {G : jG} {d : Nat} (hd_ : 0 ≤ d) {k30 : Nat → Int32 → Int32 → jM → jO Unit} (hk30 : ∀ (w0 : Nat) (w1 : Int32) (w2 : Int32) (M : jM) (b : Unit × jM), k30 w0 w1 w2 M = some b → V G m_X12_gather d 30 [(0, .ref w0), (1, .int w1), (2, .int w2)] [] M (jQb cU b)) {v0 : Nat} {v1 : Int32} {v2 : Int32} {M : jM} {b : Unit × jM} (h : j_X12_gather_223 k30 v0 v1 v2 M = some b) : V G m_X12_gather d 223 [(0, .ref v0), (1, .int v1), (2, .int v2)] [] M (jQb cU b) := by
  unfold j_X12_gather_223 at h
  refine v_iincC (ls2 := [(2, .int (v2 + (nI 1))), (0, .ref v0), (1, .int v1)]) dX12_gather_223 ic_1 2 rfl (by decide) rfl ?_
  refine v_goto (tgt := 30) dX12_gather_226 (by decide) ?_
  exact V.pick [1, 2, 0] rfl (hk30 _ _ _ _ _ h)
def j_X12_gather_221 (k30 : Nat → Int32 → Int32 → jM → jO Unit) (v0 : Nat) (v1 : Int32) (v2 : Int32) (s0 : Nat) (s1 : Int32) (s2 : Int64) (s3 : Int64) (M : jM) : jO Unit :=
  (stJ M s0 s1 (s2 ||| s3)).bind fun M1 =>
  j_X12_gather_223 k30 v0 v1 v2 M1
theorem t_X12_gather_221 {G : jG} {d : Nat} (hd_ : 0 ≤ d) {k30 : Nat → Int32 → Int32 → jM → jO Unit} (hk30 : ∀ (w0 : Nat) (w1 : Int32) (w2 : Int32) (M : jM) (b : Unit × jM), k30 w0 w1 w2 M = some b → V G m_X12_gather d 30 [(0, .ref w0), (1, .int w1), (2, .int w2)] [] M (jQb cU b)) {v0 : Nat} {v1 : Int32} {v2 : Int32} {s0 : Nat} {s1 : Int32} {s2 : Int64} {s3 : Int64} {M : jM} {b : Unit × jM} (h : j_X12_gather_221 k30 v0 v1 v2 s0 s1 s2 s3 M = some b) : V G m_X12_gather d 221 [(0, .ref v0), (1, .int v1), (2, .int v2)] [.long s3, .long s2, .int s1, .ref s0] M (jQb cU b) := by
  unfold j_X12_gather_221 at h
  refine v_lor dX12_gather_221 ?_
  refine x_stJ dX12_gather_222 h (fun M1 h => ?_)
  exact t_X12_gather_223 hd_ hk30 h
def j_X12_gather_191 (k30 : Nat → Int32 → Int32 → jM → jO Unit) (v0 : Nat) (v1 : Int32) (v2 : Int32) (v5 : Int64) (s0 : Nat) (s1 : Int32) (s2 : Int64) (s3 : Int64) (M : jM) : jO Unit :=
  (stJ M s0 s1 (s2 ||| s3)).bind fun M1 =>
  (gR 11 M1 v0 63).bind fun r2 =>
  (ldJ M1 r2 v1).bind fun x3 =>
  (gR 11 M1 v0 58).bind fun r4 =>
  (ldI M1 r4 v2).bind fun x5 =>
  (gR 11 M1 v0 58).bind fun r6 =>
  (ldI M1 r6 v1).bind fun x7 =>
  if x5 = x7 then
    j_X12_gather_221 k30 v0 v1 v2 r2 v1 x3 v5 M1
  else
    j_X12_gather_221 k30 v0 v1 v2 r2 v1 x3 (0 : Int64) M1
theorem t_X12_gather_191 {G : jG} {d : Nat} (hd_ : 0 ≤ d) {k30 : Nat → Int32 → Int32 → jM → jO Unit} (hk30 : ∀ (w0 : Nat) (w1 : Int32) (w2 : Int32) (M : jM) (b : Unit × jM), k30 w0 w1 w2 M = some b → V G m_X12_gather d 30 [(0, .ref w0), (1, .int w1), (2, .int w2)] [] M (jQb cU b)) {v0 : Nat} {v1 : Int32} {v2 : Int32} {v5 : Int64} {s0 : Nat} {s1 : Int32} {s2 : Int64} {s3 : Int64} {M : jM} {b : Unit × jM} (h : j_X12_gather_191 k30 v0 v1 v2 v5 s0 s1 s2 s3 M = some b) : V G m_X12_gather d 191 [(0, .ref v0), (1, .int v1), (2, .int v2), (5, .long v5)] [.long s3, .long s2, .int s1, .ref s0] M (jQb cU b) := by
  unfold j_X12_gather_191 at h
  refine v_lor dX12_gather_191 ?_
  refine x_stJ dX12_gather_192 h (fun M1 h => ?_)
  refine v_aload_n dX12_gather_193 rfl 0 rfl ?_
  refine x_gR dX12_gather_194 kf_X12_123 rfl h (fun r2 h => ?_)
  refine v_iload_n dX12_gather_197 rfl 1 rfl ?_
  refine v_dup2 dX12_gather_198 rfl rfl ?_
  refine x_ldJ dX12_gather_199 h (fun x3 h => ?_)
  refine v_aload_n dX12_gather_200 rfl 0 rfl ?_
  refine x_gR dX12_gather_201 kf_X12_107 rfl h (fun r4 h => ?_)
  refine v_iload_n dX12_gather_204 rfl 2 rfl ?_
  refine x_ldI dX12_gather_205 h (fun x5 h => ?_)
  refine v_aload_n dX12_gather_206 rfl 0 rfl ?_
  refine x_gR dX12_gather_207 kf_X12_107 rfl h (fun r6 h => ?_)
  refine v_iload_n dX12_gather_210 rfl 1 rfl ?_
  refine x_ldI dX12_gather_211 h (fun x7 h => ?_)
  refine x_ic_ne (tgt := 220) dX12_gather_212 (by decide) h (fun h => ?_) (fun h => ?_)
  · refine v_lload dX12_gather_215 3 rfl ?_
    refine v_goto (tgt := 221) dX12_gather_217 (by decide) ?_
    exact V.pick [0, 1, 2] rfl (t_X12_gather_221 hd_ hk30 h)
  · refine v_lconst dX12_gather_220 lc_0 ?_
    exact V.pick [0, 1, 2] rfl (t_X12_gather_221 hd_ hk30 h)
def j_X12_gather_162 (k30 : Nat → Int32 → Int32 → jM → jO Unit) (v0 : Nat) (v1 : Int32) (v2 : Int32) (v3 : Int64) (v5 : Int64) (s0 : Nat) (s1 : Int32) (s2 : Int64) (s3 : Int64) (M : jM) : jO Unit :=
  (stJ M s0 s1 (s2 ||| s3)).bind fun M1 =>
  (gR 11 M1 v0 62).bind fun r2 =>
  (ldJ M1 r2 v1).bind fun x3 =>
  (gR 11 M1 v0 58).bind fun r4 =>
  (ldI M1 r4 v2).bind fun x5 =>
  (gR 11 M1 v0 58).bind fun r6 =>
  (ldI M1 r6 v1).bind fun x7 =>
  if x5 = x7 then
    j_X12_gather_191 k30 v0 v1 v2 v5 r2 v1 x3 v3 M1
  else
    j_X12_gather_191 k30 v0 v1 v2 v5 r2 v1 x3 (0 : Int64) M1
theorem t_X12_gather_162 {G : jG} {d : Nat} (hd_ : 0 ≤ d) {k30 : Nat → Int32 → Int32 → jM → jO Unit} (hk30 : ∀ (w0 : Nat) (w1 : Int32) (w2 : Int32) (M : jM) (b : Unit × jM), k30 w0 w1 w2 M = some b → V G m_X12_gather d 30 [(0, .ref w0), (1, .int w1), (2, .int w2)] [] M (jQb cU b)) {v0 : Nat} {v1 : Int32} {v2 : Int32} {v3 : Int64} {v5 : Int64} {s0 : Nat} {s1 : Int32} {s2 : Int64} {s3 : Int64} {M : jM} {b : Unit × jM} (h : j_X12_gather_162 k30 v0 v1 v2 v3 v5 s0 s1 s2 s3 M = some b) : V G m_X12_gather d 162 [(0, .ref v0), (1, .int v1), (2, .int v2), (3, .long v3), (5, .long v5)] [.long s3, .long s2, .int s1, .ref s0] M (jQb cU b) := by
  unfold j_X12_gather_162 at h
  refine v_lor dX12_gather_162 ?_
  refine x_stJ dX12_gather_163 h (fun M1 h => ?_)
  refine v_aload_n dX12_gather_164 rfl 0 rfl ?_
  refine x_gR dX12_gather_165 kf_X12_120 rfl h (fun r2 h => ?_)
  refine v_iload_n dX12_gather_168 rfl 1 rfl ?_
  refine v_dup2 dX12_gather_169 rfl rfl ?_
  refine x_ldJ dX12_gather_170 h (fun x3 h => ?_)
  refine v_aload_n dX12_gather_171 rfl 0 rfl ?_
  refine x_gR dX12_gather_172 kf_X12_107 rfl h (fun r4 h => ?_)
  refine v_iload_n dX12_gather_175 rfl 2 rfl ?_
  refine x_ldI dX12_gather_176 h (fun x5 h => ?_)
  refine v_aload_n dX12_gather_177 rfl 0 rfl ?_
  refine x_gR dX12_gather_178 kf_X12_107 rfl h (fun r6 h => ?_)
  refine v_iload_n dX12_gather_181 rfl 1 rfl ?_
  refine x_ldI dX12_gather_182 h (fun x7 h => ?_)
  refine x_ic_ne (tgt := 190) dX12_gather_183 (by decide) h (fun h => ?_) (fun h => ?_)
  · refine v_lload_n dX12_gather_186 rfl 3 rfl ?_
    refine v_goto (tgt := 191) dX12_gather_187 (by decide) ?_
    exact V.pick [0, 1, 2, 4] rfl (t_X12_gather_191 hd_ hk30 h)
  · refine v_lconst dX12_gather_190 lc_0 ?_
    exact V.pick [0, 1, 2, 4] rfl (t_X12_gather_191 hd_ hk30 h)
def j_X12_gather_132 (k30 : Nat → Int32 → Int32 → jM → jO Unit) (v0 : Nat) (v1 : Int32) (v2 : Int32) (v3 : Int64) (v5 : Int64) (s0 : Nat) (s1 : Int32) (s2 : Int64) (s3 : Int64) (M : jM) : jO Unit :=
  (stJ M s0 s1 (s2 ||| s3)).bind fun M1 =>
  (gR 11 M1 v0 61).bind fun r2 =>
  (ldJ M1 r2 v1).bind fun x3 =>
  (gR 11 M1 v0 59).bind fun r4 =>
  (ldI M1 r4 v2).bind fun x5 =>
  (gR 11 M1 v0 59).bind fun r6 =>
  (ldI M1 r6 v1).bind fun x7 =>
  if x5 = x7 then
    j_X12_gather_162 k30 v0 v1 v2 v3 v5 r2 v1 x3 v5 M1
  else
    j_X12_gather_162 k30 v0 v1 v2 v3 v5 r2 v1 x3 (0 : Int64) M1
theorem t_X12_gather_132 {G : jG} {d : Nat} (hd_ : 0 ≤ d) {k30 : Nat → Int32 → Int32 → jM → jO Unit} (hk30 : ∀ (w0 : Nat) (w1 : Int32) (w2 : Int32) (M : jM) (b : Unit × jM), k30 w0 w1 w2 M = some b → V G m_X12_gather d 30 [(0, .ref w0), (1, .int w1), (2, .int w2)] [] M (jQb cU b)) {v0 : Nat} {v1 : Int32} {v2 : Int32} {v3 : Int64} {v5 : Int64} {s0 : Nat} {s1 : Int32} {s2 : Int64} {s3 : Int64} {M : jM} {b : Unit × jM} (h : j_X12_gather_132 k30 v0 v1 v2 v3 v5 s0 s1 s2 s3 M = some b) : V G m_X12_gather d 132 [(0, .ref v0), (1, .int v1), (2, .int v2), (3, .long v3), (5, .long v5)] [.long s3, .long s2, .int s1, .ref s0] M (jQb cU b) := by
  unfold j_X12_gather_132 at h
  refine v_lor dX12_gather_132 ?_
  refine x_stJ dX12_gather_133 h (fun M1 h => ?_)
  refine v_aload_n dX12_gather_134 rfl 0 rfl ?_
  refine x_gR dX12_gather_135 kf_X12_117 rfl h (fun r2 h => ?_)
  refine v_iload_n dX12_gather_138 rfl 1 rfl ?_
  refine v_dup2 dX12_gather_139 rfl rfl ?_
  refine x_ldJ dX12_gather_140 h (fun x3 h => ?_)
  refine v_aload_n dX12_gather_141 rfl 0 rfl ?_
  refine x_gR dX12_gather_142 kf_X12_110 rfl h (fun r4 h => ?_)
  refine v_iload_n dX12_gather_145 rfl 2 rfl ?_
  refine x_ldI dX12_gather_146 h (fun x5 h => ?_)
  refine v_aload_n dX12_gather_147 rfl 0 rfl ?_
  refine x_gR dX12_gather_148 kf_X12_110 rfl h (fun r6 h => ?_)
  refine v_iload_n dX12_gather_151 rfl 1 rfl ?_
  refine x_ldI dX12_gather_152 h (fun x7 h => ?_)
  refine x_ic_ne (tgt := 161) dX12_gather_153 (by decide) h (fun h => ?_) (fun h => ?_)
  · refine v_lload dX12_gather_156 4 rfl ?_
    refine v_goto (tgt := 162) dX12_gather_158 (by decide) ?_
    exact t_X12_gather_162 hd_ hk30 h
  · refine v_lconst dX12_gather_161 lc_0 ?_
    exact t_X12_gather_162 hd_ hk30 h
def j_X12_gather_103 (k30 : Nat → Int32 → Int32 → jM → jO Unit) (v0 : Nat) (v1 : Int32) (v2 : Int32) (v3 : Int64) (s0 : Int64) (M : jM) : jO Unit :=
  (gR 11 M v0 60).bind fun r1 =>
  (ldJ M r1 v1).bind fun x2 =>
  (gR 11 M v0 59).bind fun r3 =>
  (ldI M r3 v2).bind fun x4 =>
  (gR 11 M v0 59).bind fun r5 =>
  (ldI M r5 v1).bind fun x6 =>
  if x4 = x6 then
    j_X12_gather_132 k30 v0 v1 v2 v3 s0 r1 v1 x2 v3 M
  else
    j_X12_gather_132 k30 v0 v1 v2 v3 s0 r1 v1 x2 (0 : Int64) M
theorem t_X12_gather_103 {G : jG} {d : Nat} (hd_ : 0 ≤ d) {k30 : Nat → Int32 → Int32 → jM → jO Unit} (hk30 : ∀ (w0 : Nat) (w1 : Int32) (w2 : Int32) (M : jM) (b : Unit × jM), k30 w0 w1 w2 M = some b → V G m_X12_gather d 30 [(0, .ref w0), (1, .int w1), (2, .int w2)] [] M (jQb cU b)) {v0 : Nat} {v1 : Int32} {v2 : Int32} {v3 : Int64} {s0 : Int64} {M : jM} {b : Unit × jM} (h : j_X12_gather_103 k30 v0 v1 v2 v3 s0 M = some b) : V G m_X12_gather d 103 [(0, .ref v0), (1, .int v1), (2, .int v2), (3, .long v3)] [.long s0] M (jQb cU b) := by
  unfold j_X12_gather_103 at h
  refine v_lstore (ls2 := [(5, .long s0), (0, .ref v0), (1, .int v1), (2, .int v2), (3, .long v3)]) dX12_gather_103 (by decide) rfl ?_
  refine v_aload_n dX12_gather_105 rfl 1 rfl ?_
  refine x_gR dX12_gather_106 kf_X12_113 rfl h (fun r1 h => ?_)
  refine v_iload_n dX12_gather_109 rfl 2 rfl ?_
  refine v_dup2 dX12_gather_110 rfl rfl ?_
  refine x_ldJ dX12_gather_111 h (fun x2 h => ?_)
  refine v_aload_n dX12_gather_112 rfl 1 rfl ?_
  refine x_gR dX12_gather_113 kf_X12_110 rfl h (fun r3 h => ?_)
  refine v_iload_n dX12_gather_116 rfl 3 rfl ?_
  refine x_ldI dX12_gather_117 h (fun x4 h => ?_)
  refine v_aload_n dX12_gather_118 rfl 1 rfl ?_
  refine x_gR dX12_gather_119 kf_X12_110 rfl h (fun r5 h => ?_)
  refine v_iload_n dX12_gather_122 rfl 2 rfl ?_
  refine x_ldI dX12_gather_123 h (fun x6 h => ?_)
  refine x_ic_ne (tgt := 131) dX12_gather_124 (by decide) h (fun h => ?_) (fun h => ?_)
  · refine v_lload_n dX12_gather_127 rfl 4 rfl ?_
    refine v_goto (tgt := 132) dX12_gather_128 (by decide) ?_
    exact V.pick [1, 2, 3, 4, 0] rfl (t_X12_gather_132 hd_ hk30 h)
  · refine v_lconst dX12_gather_131 lc_0 ?_
    exact V.pick [1, 2, 3, 4, 0] rfl (t_X12_gather_132 hd_ hk30 h)
def j_X12_gather_76 (k30 : Nat → Int32 → Int32 → jM → jO Unit) (v0 : Nat) (v1 : Int32) (v2 : Int32) (s0 : Int64) (M : jM) : jO Unit :=
  (gR 11 M v0 55).bind fun r1 =>
  (ldI M r1 v2).bind fun x2 =>
  if (nI 36) ≤ x2 then
    (gR 11 M v0 55).bind fun r3 =>
    (ldI M r3 v2).bind fun x4 =>
    j_X12_gather_103 k30 v0 v1 v2 s0 ((1 : Int64) <<< (Int32.toInt64 (x4 - (nI 36)) &&& 63)) M
  else
    j_X12_gather_103 k30 v0 v1 v2 s0 (0 : Int64) M
theorem t_X12_gather_76 {G : jG} {d : Nat} (hd_ : 0 ≤ d) {k30 : Nat → Int32 → Int32 → jM → jO Unit} (hk30 : ∀ (w0 : Nat) (w1 : Int32) (w2 : Int32) (M : jM) (b : Unit × jM), k30 w0 w1 w2 M = some b → V G m_X12_gather d 30 [(0, .ref w0), (1, .int w1), (2, .int w2)] [] M (jQb cU b)) {v0 : Nat} {v1 : Int32} {v2 : Int32} {s0 : Int64} {M : jM} {b : Unit × jM} (h : j_X12_gather_76 k30 v0 v1 v2 s0 M = some b) : V G m_X12_gather d 76 [(0, .ref v0), (1, .int v1), (2, .int v2)] [.long s0] M (jQb cU b) := by
  unfold j_X12_gather_76 at h
  refine v_lstore_n (ls2 := [(3, .long s0), (0, .ref v0), (1, .int v1), (2, .int v2)]) dX12_gather_76 rfl (by decide) rfl ?_
  refine v_aload_n dX12_gather_77 rfl 1 rfl ?_
  refine x_gR dX12_gather_78 kf_X12_98 rfl h (fun r1 h => ?_)
  refine v_iload_n dX12_gather_81 rfl 3 rfl ?_
  refine x_ldI dX12_gather_82 h (fun x2 h => ?_)
  refine v_bipush dX12_gather_83 bp_36 ?_
  refine x_ic_ge (tgt := 92) dX12_gather_85 (by decide) h (fun h => ?_) (fun h => ?_)
  · refine v_lconst dX12_gather_92 lc_1 ?_
    refine v_aload_n dX12_gather_93 rfl 1 rfl ?_
    refine x_gR dX12_gather_94 kf_X12_98 rfl h (fun r3 h => ?_)
    refine v_iload_n dX12_gather_97 rfl 3 rfl ?_
    refine x_ldI dX12_gather_98 h (fun x4 h => ?_)
    refine v_bipush dX12_gather_99 bp_36 ?_
    refine v_isub dX12_gather_101 ?_
    refine v_lshl dX12_gather_102 ?_
    exact V.pick [1, 2, 3, 0] rfl (t_X12_gather_103 hd_ hk30 h)
  · refine v_lconst dX12_gather_88 lc_0 ?_
    refine v_goto (tgt := 103) dX12_gather_89 (by decide) ?_
    exact V.pick [1, 2, 3, 0] rfl (t_X12_gather_103 hd_ hk30 h)
def b_X12_gather_30  (k30 : Nat → Int32 → Int32 → jM → jO Unit) (v0 : Nat) (v1 : Int32) (v2 : Int32) (M : jM) : jO Unit :=
  (gI 11 M v0 52).bind fun x1 =>
  if x1 ≤ v2 then
    rt () M
  else
    (gR 11 M v0 57).bind fun r2 =>
    (ldI M r2 v2).bind fun x3 =>
    (gR 11 M v0 57).bind fun r4 =>
    (ldI M r4 v1).bind fun x5 =>
    if x3 = x5 then
      (gR 11 M v0 55).bind fun r6 =>
      (ldI M r6 v2).bind fun x7 =>
      if (nI 36) ≤ x7 then
        j_X12_gather_76 k30 v0 v1 v2 (0 : Int64) M
      else
        (gR 11 M v0 55).bind fun r8 =>
        (ldI M r8 v2).bind fun x9 =>
        j_X12_gather_76 k30 v0 v1 v2 ((1 : Int64) <<< (Int32.toInt64 x9 &&& 63)) M
    else
      j_X12_gather_223 k30 v0 v1 v2 M
def l_X12_gather_30  : Nat → Nat → Int32 → Int32 → jM → jO Unit
  | 0 => fun _ _ _ _ => none
  | n + 1 => b_X12_gather_30  (l_X12_gather_30  n)
theorem tb_X12_gather_30 {G : jG} {d : Nat} (hd_ : 0 ≤ d)  {k30 : Nat → Int32 → Int32 → jM → jO Unit} (hk30 : ∀ (w0 : Nat) (w1 : Int32) (w2 : Int32) (M : jM) (b : Unit × jM), k30 w0 w1 w2 M = some b → V G m_X12_gather d 30 [(0, .ref w0), (1, .int w1), (2, .int w2)] [] M (jQb cU b)) {v0 : Nat} {v1 : Int32} {v2 : Int32} {M : jM} {b : Unit × jM} (h : b_X12_gather_30  k30 v0 v1 v2 M = some b) : V G m_X12_gather d 30 [(0, .ref v0), (1, .int v1), (2, .int v2)] [] M (jQb cU b) := by
  unfold b_X12_gather_30 at h
  refine v_iload_n dX12_gather_30 rfl 2 rfl ?_
  refine v_aload_n dX12_gather_31 rfl 0 rfl ?_
  refine x_gI dX12_gather_32 kf_X12_383 rfl h (fun x1 h => ?_)
  refine x_ic_ge (tgt := 229) dX12_gather_35 (by decide) h (fun h => ?_) (fun h => ?_)
  · exact x_vret dX12_gather_229 rfl h
  · refine v_aload_n dX12_gather_38 rfl 0 rfl ?_
    refine x_gR dX12_gather_39 kf_X12_104 rfl h (fun r2 h => ?_)
    refine v_iload_n dX12_gather_42 rfl 2 rfl ?_
    refine x_ldI dX12_gather_43 h (fun x3 h => ?_)
    refine v_aload_n dX12_gather_44 rfl 0 rfl ?_
    refine x_gR dX12_gather_45 kf_X12_104 rfl h (fun r4 h => ?_)
    refine v_iload_n dX12_gather_48 rfl 1 rfl ?_
    refine x_ldI dX12_gather_49 h (fun x5 h => ?_)
    refine x_ic_ne (tgt := 223) dX12_gather_50 (by decide) h (fun h => ?_) (fun h => ?_)
    · refine v_aload_n dX12_gather_53 rfl 0 rfl ?_
      refine x_gR dX12_gather_54 kf_X12_98 rfl h (fun r6 h => ?_)
      refine v_iload_n dX12_gather_57 rfl 2 rfl ?_
      refine x_ldI dX12_gather_58 h (fun x7 h => ?_)
      refine v_bipush dX12_gather_59 bp_36 ?_
      refine x_ic_ge (tgt := 75) dX12_gather_61 (by decide) h (fun h => ?_) (fun h => ?_)
      · refine v_lconst dX12_gather_75 lc_0 ?_
        exact t_X12_gather_76 hd_ hk30 h
      · refine v_lconst dX12_gather_64 lc_1 ?_
        refine v_aload_n dX12_gather_65 rfl 0 rfl ?_
        refine x_gR dX12_gather_66 kf_X12_98 rfl h (fun r8 h => ?_)
        refine v_iload_n dX12_gather_69 rfl 2 rfl ?_
        refine x_ldI dX12_gather_70 h (fun x9 h => ?_)
        refine v_lshl dX12_gather_71 ?_
        refine v_goto (tgt := 76) dX12_gather_72 (by decide) ?_
        exact t_X12_gather_76 hd_ hk30 h
    · exact t_X12_gather_223 hd_ hk30 h
theorem t_X12_gather_30 {G : jG} {d : Nat} (hd_ : 0 ≤ d)  : ∀ (n : Nat) (v0 : Nat) (v1 : Int32) (v2 : Int32) (M : jM) (b : Unit × jM), l_X12_gather_30  n v0 v1 v2 M = some b → V G m_X12_gather d 30 [(0, .ref v0), (1, .int v1), (2, .int v2)] [] M (jQb cU b) := by
  intro n
  induction n with
  | zero => intro v0 v1 v2 M b h; exact nomatch (show (none : jO Unit) = some b from h)
  | succ n ih => intro v0 v1 v2 M b h; exact tb_X12_gather_30 hd_  ih h
def f_X12_gather (v0 : Nat) (v1 : Int32) (M : jM) : jO Unit :=
  (gR 11 M v0 60).bind fun r1 =>
  (stJ M r1 v1 (0 : Int64)).bind fun M2 =>
  (gR 11 M2 v0 61).bind fun r3 =>
  (stJ M2 r3 v1 (0 : Int64)).bind fun M4 =>
  (gR 11 M4 v0 62).bind fun r5 =>
  (stJ M4 r5 v1 (0 : Int64)).bind fun M6 =>
  (gR 11 M6 v0 63).bind fun r7 =>
  (stJ M6 r7 v1 (0 : Int64)).bind fun M8 =>
  l_X12_gather_30 jF0 v0 v1 (nI 0) M8
theorem s_X12_gather {G : jG} {d : Nat} (hd_ : 0 ≤ d) {v0 : Nat} {v1 : Int32} {M : jM} {b : Unit × jM} (h : f_X12_gather  v0 v1 M = some b) : V G m_X12_gather d 0 [(0, .ref v0), (1, .int v1)] [] M (jQb cU b) := by
  unfold f_X12_gather at h
  refine v_aload_n dX12_gather_0 rfl 0 rfl ?_
  refine x_gR dX12_gather_1 kf_X12_113 rfl h (fun r1 h => ?_)
  refine v_iload_n dX12_gather_4 rfl 1 rfl ?_
  refine v_lconst dX12_gather_5 lc_0 ?_
  refine x_stJ dX12_gather_6 h (fun M2 h => ?_)
  refine v_aload_n dX12_gather_7 rfl 0 rfl ?_
  refine x_gR dX12_gather_8 kf_X12_117 rfl h (fun r3 h => ?_)
  refine v_iload_n dX12_gather_11 rfl 1 rfl ?_
  refine v_lconst dX12_gather_12 lc_0 ?_
  refine x_stJ dX12_gather_13 h (fun M4 h => ?_)
  refine v_aload_n dX12_gather_14 rfl 0 rfl ?_
  refine x_gR dX12_gather_15 kf_X12_120 rfl h (fun r5 h => ?_)
  refine v_iload_n dX12_gather_18 rfl 1 rfl ?_
  refine v_lconst dX12_gather_19 lc_0 ?_
  refine x_stJ dX12_gather_20 h (fun M6 h => ?_)
  refine v_aload_n dX12_gather_21 rfl 0 rfl ?_
  refine x_gR dX12_gather_22 kf_X12_123 rfl h (fun r7 h => ?_)
  refine v_iload_n dX12_gather_25 rfl 1 rfl ?_
  refine v_lconst dX12_gather_26 lc_0 ?_
  refine x_stJ dX12_gather_27 h (fun M8 h => ?_)
  refine v_iconst dX12_gather_28 ic_0 ?_
  refine v_istore_n (ls2 := [(2, .int (nI 0)), (0, .ref v0), (1, .int v1)]) dX12_gather_29 rfl (by decide) rfl ?_
  exact V.pick [1, 2, 0] rfl (t_X12_gather_30 hd_ _ _ _ _ _ _ h)
def j_X12_startsAlike_30  (v0 : Nat) (v3 : Int32) (v4 : Int32) (s0 : Nat) (s1 : Int32) (s2 : Int32) (M : jM) : jO Int32 :=
  jb2 (jiv 11 M s0 (f_X12_begin s0 s1 s2 M)) fun _ M1 =>
  (gR 11 M1 v0 58).bind fun r2 =>
  (ldI M1 r2 v3).bind fun x3 =>
  (gR 11 M1 v0 58).bind fun r4 =>
  (ldI M1 r4 v4).bind fun x5 =>
  jb2 (jiv 11 M1 v0 (f_X12_add v0 x3 x5 M1)) fun _ M6 =>
  (gR 11 M6 v0 59).bind fun r7 =>
  (ldI M6 r7 v3).bind fun x8 =>
  (gR 11 M6 v0 59).bind fun r9 =>
  (ldI M6 r9 v4).bind fun x10 =>
  jb2 (jiv 11 M6 v0 (f_X12_add v0 x8 x10 M6)) fun _ M11 =>
  jb2 (jiv 11 M11 v0 (f_X12_areAlike v0 M11)) fun x13 M12 =>
  rZ x13 M12
theorem t_X12_startsAlike_30 {G : jG} {d : Nat} (hd_ : 3 ≤ d)  {v0 : Nat} {v3 : Int32} {v4 : Int32} {s0 : Nat} {s1 : Int32} {s2 : Int32} {M : jM} {b : Int32 × jM} (h : j_X12_startsAlike_30  v0 v3 v4 s0 s1 s2 M = some b) : V G m_X12_startsAlike d 30 [(0, .ref v0), (3, .int v3), (4, .int v4)] [.int s2, .int s1, .ref s0] M (jQb cI b) := by
  unfold j_X12_startsAlike_30 at h
  refine x_inv (cv := cU) (As := [.int s1, .int s2]) (rest := []) (ls2 := [(0, .ref s0), (1, .int s1), (2, .int s2)]) (ci := 11) (by omega) dX12_startsAlike_30 ke_X12_begin kv_X12_198 rfl rfl (by decide) (Nat.le_of_ble_eq_true rfl) rfl rfl rfl rfl h (fun _ hq => s_X12_begin (by omega) hq) (fun _ M1 h => ?_)
  refine v_aload_n dX12_startsAlike_33 rfl 0 rfl ?_
  refine v_aload_n dX12_startsAlike_34 rfl 0 rfl ?_
  refine x_gR dX12_startsAlike_35 kf_X12_107 rfl h (fun r2 h => ?_)
  refine v_iload_n dX12_startsAlike_38 rfl 1 rfl ?_
  refine x_ldI dX12_startsAlike_39 h (fun x3 h => ?_)
  refine v_aload_n dX12_startsAlike_40 rfl 0 rfl ?_
  refine x_gR dX12_startsAlike_41 kf_X12_107 rfl h (fun r4 h => ?_)
  refine v_iload dX12_startsAlike_44 2 rfl ?_
  refine x_ldI dX12_startsAlike_46 h (fun x5 h => ?_)
  refine x_inv (cv := cU) (As := [.int x3, .int x5]) (rest := []) (ls2 := [(0, .ref v0), (1, .int x3), (2, .int x5)]) (ci := 11) (by omega) dX12_startsAlike_47 ke_X12_add kv_X12_175 rfl rfl (by decide) (Nat.le_of_ble_eq_true rfl) rfl rfl rfl rfl h (fun _ hq => s_X12_add (by omega) hq) (fun _ M6 h => ?_)
  refine v_aload_n dX12_startsAlike_50 rfl 0 rfl ?_
  refine v_aload_n dX12_startsAlike_51 rfl 0 rfl ?_
  refine x_gR dX12_startsAlike_52 kf_X12_110 rfl h (fun r7 h => ?_)
  refine v_iload_n dX12_startsAlike_55 rfl 1 rfl ?_
  refine x_ldI dX12_startsAlike_56 h (fun x8 h => ?_)
  refine v_aload_n dX12_startsAlike_57 rfl 0 rfl ?_
  refine x_gR dX12_startsAlike_58 kf_X12_110 rfl h (fun r9 h => ?_)
  refine v_iload dX12_startsAlike_61 2 rfl ?_
  refine x_ldI dX12_startsAlike_63 h (fun x10 h => ?_)
  refine x_inv (cv := cU) (As := [.int x8, .int x10]) (rest := []) (ls2 := [(0, .ref v0), (1, .int x8), (2, .int x10)]) (ci := 11) (by omega) dX12_startsAlike_64 ke_X12_add kv_X12_175 rfl rfl (by decide) (Nat.le_of_ble_eq_true rfl) rfl rfl rfl rfl h (fun _ hq => s_X12_add (by omega) hq) (fun _ M11 h => ?_)
  refine v_aload_n dX12_startsAlike_67 rfl 0 rfl ?_
  refine x_inv (cv := cI) (As := []) (rest := []) (ls2 := [(0, .ref v0)]) (ci := 11) (by omega) dX12_startsAlike_68 ke_X12_areAlike kv_X12_178 rfl rfl (by decide) (Nat.le_of_ble_eq_true rfl) rfl rfl rfl rfl h (fun _ hq => s_X12_areAlike (by omega) hq) (fun x13 M12 h => ?_)
  exact x_zret dX12_startsAlike_71 rfl h
def j_X12_startsAlike_15  (v0 : Nat) (v1 : Int32) (v2 : Int32) (v3 : Int32) (v4 : Int32) (s0 : Nat) (s1 : Int32) (M : jM) : jO Int32 :=
  (gR 11 M v0 57).bind fun r1 =>
  (ldI M r1 v4).bind fun x2 =>
  if x2 = 0 then
    j_X12_startsAlike_30 v0 v3 v4 s0 s1 v1 M
  else
    j_X12_startsAlike_30 v0 v3 v4 s0 s1 v2 M
theorem t_X12_startsAlike_15 {G : jG} {d : Nat} (hd_ : 3 ≤ d)  {v0 : Nat} {v1 : Int32} {v2 : Int32} {v3 : Int32} {v4 : Int32} {s0 : Nat} {s1 : Int32} {M : jM} {b : Int32 × jM} (h : j_X12_startsAlike_15  v0 v1 v2 v3 v4 s0 s1 M = some b) : V G m_X12_startsAlike d 15 [(0, .ref v0), (1, .int v1), (2, .int v2), (3, .int v3), (4, .int v4)] [.int s1, .ref s0] M (jQb cI b) := by
  unfold j_X12_startsAlike_15 at h
  refine v_aload_n dX12_startsAlike_15 rfl 0 rfl ?_
  refine x_gR dX12_startsAlike_16 kf_X12_104 rfl h (fun r1 h => ?_)
  refine v_iload dX12_startsAlike_19 4 rfl ?_
  refine x_ldI dX12_startsAlike_21 h (fun x2 h => ?_)
  refine x_if_ne (tgt := 29) dX12_startsAlike_22 (by decide) h (fun h => ?_) (fun h => ?_)
  · refine v_iload_n dX12_startsAlike_25 rfl 1 rfl ?_
    refine v_goto (tgt := 30) dX12_startsAlike_26 (by decide) ?_
    exact V.pick [0, 3, 4] rfl (t_X12_startsAlike_30 hd_ h)
  · refine v_iload_n dX12_startsAlike_29 rfl 2 rfl ?_
    exact V.pick [0, 3, 4] rfl (t_X12_startsAlike_30 hd_ h)
def f_X12_startsAlike (v0 : Nat) (v1 : Int32) (v2 : Int32) (v3 : Int32) (v4 : Int32) (M : jM) : jO Int32 :=
  (gR 11 M v0 57).bind fun r1 =>
  (ldI M r1 v3).bind fun x2 =>
  if x2 = 0 then
    j_X12_startsAlike_15 v0 v1 v2 v3 v4 v0 v1 M
  else
    j_X12_startsAlike_15 v0 v1 v2 v3 v4 v0 v2 M
theorem s_X12_startsAlike {G : jG} {d : Nat} (hd_ : 3 ≤ d) {v0 : Nat} {v1 : Int32} {v2 : Int32} {v3 : Int32} {v4 : Int32} {M : jM} {b : Int32 × jM} (h : f_X12_startsAlike  v0 v1 v2 v3 v4 M = some b) : V G m_X12_startsAlike d 0 [(0, .ref v0), (1, .int v1), (2, .int v2), (3, .int v3), (4, .int v4)] [] M (jQb cI b) := by
  unfold f_X12_startsAlike at h
  refine v_aload_n dX12_startsAlike_0 rfl 0 rfl ?_
  refine v_aload_n dX12_startsAlike_1 rfl 0 rfl ?_
  refine x_gR dX12_startsAlike_2 kf_X12_104 rfl h (fun r1 h => ?_)
  refine v_iload_n dX12_startsAlike_5 rfl 3 rfl ?_
  refine x_ldI dX12_startsAlike_6 h (fun x2 h => ?_)
  refine x_if_ne (tgt := 14) dX12_startsAlike_7 (by decide) h (fun h => ?_) (fun h => ?_)
  · refine v_iload_n dX12_startsAlike_10 rfl 1 rfl ?_
    refine v_goto (tgt := 15) dX12_startsAlike_11 (by decide) ?_
    exact t_X12_startsAlike_15 hd_ h
  · refine v_iload_n dX12_startsAlike_14 rfl 2 rfl ?_
    exact t_X12_startsAlike_15 hd_ h
