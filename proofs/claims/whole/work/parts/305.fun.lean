def f_X11_same (v0 : Nat) (v1 : Int32) (v2 : Int32) (M : jM) : jO Int32 :=
  jb2 (jiv 10 M v0 (f_X11_sentenceOf v0 v1 M)) fun o2 M1 =>
  jb2 (jiv 10 M1 v0 (f_X11_sentenceOf v0 v2 M1)) fun o4 M3 =>
  jnl o2 (
    rt (-1 : Int32) M3
    ) fun a5 =>
    jnl o4 (
      rt (-1 : Int32) M3
      ) fun a6 =>
      jb2 (jiv 6 M3 a5 (f_X7_isWrittenLike a5 a6 M3)) fun x8 M7 =>
      if x8 = 0 then
        rt (nI 0) M7
      else
        rt (nI 1) M7
theorem s_X11_same {G : jG} {d : Nat} (hd_ : 1 ≤ d) {v0 : Nat} {v1 : Int32} {v2 : Int32} {M : jM} {b : Int32 × jM} (h : f_X11_same  v0 v1 v2 M = some b) : V G m_X11_same d 0 [(0, .ref v0), (1, .int v1), (2, .int v2)] [] M (jQb cI b) := by
  unfold f_X11_same at h
  refine v_aload_n dX11_same_0 rfl 0 rfl ?_
  refine v_iload_n dX11_same_1 rfl 1 rfl ?_
  refine x_inv (cv := cN) (As := [.int v1]) (rest := []) (ls2 := [(0, .ref v0), (1, .int v1)]) (ci := 10) (by omega) dX11_same_2 ke_X11_sentenceOf kv_X11_188 rfl rfl (by decide) (Nat.le_of_ble_eq_true rfl) rfl rfl rfl rfl h (fun _ hq => s_X11_sentenceOf (by omega) hq) (fun o2 M1 h => ?_)
  refine v_astore_nQ (ls2 := [(3, va_rf o2), (0, .ref v0), (1, .int v1), (2, .int v2)]) dX11_same_5 rfl (by decide) rfl ?_
  refine v_aload_n dX11_same_6 rfl 1 rfl ?_
  refine v_iload_n dX11_same_7 rfl 3 rfl ?_
  refine x_inv (cv := cN) (As := [.int v2]) (rest := []) (ls2 := [(0, .ref v0), (1, .int v2)]) (ci := 10) (by omega) dX11_same_8 ke_X11_sentenceOf kv_X11_188 rfl rfl (by decide) (Nat.le_of_ble_eq_true rfl) rfl rfl rfl rfl h (fun _ hq => s_X11_sentenceOf (by omega) hq) (fun o4 M3 h => ?_)
  refine v_astoreQ (ls2 := [(4, va_rf o4), (3, va_rf o2), (0, .ref v0), (1, .int v1), (2, .int v2)]) dX11_same_11 (by decide) (by simp [jst, jcatQ]) ?_
  refine v_aload_nQ dX11_same_13 rfl 1 rfl ?_
  cases o2 with
  | none =>
    replace h := x_nN h
    refine v_ifnullN (tgt := 22) dX11_same_14 (by decide) ?_
    refine v_iconst dX11_same_22 ic_m1 ?_
    exact x_iret dX11_same_23 rfl h
  | some a5 =>
    replace h := x_nS h
    refine v_ifnull dX11_same_14 ?_
    refine v_aloadQ dX11_same_17 0 rfl ?_
    cases o4 with
    | none =>
      replace h := x_nN h
      refine v_ifnonnullN dX11_same_19 ?_
      refine v_iconst dX11_same_22 ic_m1 ?_
      exact x_iret dX11_same_23 rfl h
    | some a6 =>
      replace h := x_nS h
      refine v_ifnonnull (tgt := 24) dX11_same_19 (by decide) ?_
      refine v_aload_n dX11_same_24 rfl 1 rfl ?_
      refine v_aload dX11_same_25 0 rfl ?_
      refine x_inv (cv := cI) (As := [.ref a6]) (rest := []) (ls2 := [(0, .ref a5), (1, .ref a6)]) (ci := 6) (by omega) dX11_same_27 ke_X7_isWrittenLike kv_X11_209 rfl rfl (by decide) (Nat.le_of_ble_eq_true rfl) rfl rfl rfl rfl h (fun _ hq => s_X7_isWrittenLike (by omega) hq) (fun x8 M7 h => ?_)
      refine x_if_eq (tgt := 37) dX11_same_30 (by decide) h (fun h => ?_) (fun h => ?_)
      · refine v_iconst dX11_same_37 ic_0 ?_
        exact x_iret dX11_same_38 rfl h
      · refine v_iconst dX11_same_33 ic_1 ?_
        refine v_goto (tgt := 38) dX11_same_34 (by decide) ?_
        exact x_iret dX11_same_38 rfl h
def f_X7_depth (v0 : Nat) (M : jM) : jO Int32 :=
  (gI 6 M v0 2).bind fun x1 =>
  rt x1 M
theorem s_X7_depth {G : jG} {d : Nat} (hd_ : 0 ≤ d) {v0 : Nat} {M : jM} {b : Int32 × jM} (h : f_X7_depth  v0 M = some b) : V G m_X7_depth d 0 [(0, .ref v0)] [] M (jQb cI b) := by
  unfold f_X7_depth at h
  refine v_aload_n dX7_depth_0 rfl 0 rfl ?_
  refine x_gI dX7_depth_1 kf_X7_17 rfl h (fun x1 h => ?_)
  exact x_iret dX7_depth_4 rfl h
def f_X7_text (v0 : Nat) (M : jM) : jO Nat :=
  (gR 6 M v0 1).bind fun r1 =>
  rt r1 M
theorem s_X7_text {G : jG} {d : Nat} (hd_ : 0 ≤ d) {v0 : Nat} {M : jM} {b : Nat × jM} (h : f_X7_text  v0 M = some b) : V G m_X7_text d 0 [(0, .ref v0)] [] M (jQb cR b) := by
  unfold f_X7_text at h
  refine v_aload_n dX7_text_0 rfl 0 rfl ?_
  refine x_gR dX7_text_1 kf_X7_13 rfl h (fun r1 h => ?_)
  exact x_aret dX7_text_4 rfl (Or.inr ⟨_, rfl⟩) h
def f_X11_sentence (v0 : Nat) (v1 : Int32) (v2 : Int32) (M : jM) : jO Int32 :=
  jb2 (jiv 10 M v0 (f_X11_sentenceOf v0 v1 M)) fun o2 M1 =>
  jnl o2 (
    rt (-1 : Int32) M1
    ) fun a3 =>
    if v2 = 0 then
      jb2 (jiv 6 M1 a3 (f_X7_depth a3 M1)) fun x5 M4 =>
      rt x5 M4
    else
      if v2 = (nI 1) then
        jb2 (jiv 6 M1 a3 (f_X7_nodes a3 M1)) fun r7 M6 =>
        (ln M6 r7).bind fun x8 =>
        rt x8 M6
      else
        if v2 = (nI 2) then
          jb2 (jiv 6 M1 a3 (f_X7_text a3 M1)) fun r10 M9 =>
          (ln M9 r10).bind fun x11 =>
          rt x11 M9
        else
          rt (-2 : Int32) M1
theorem s_X11_sentence {G : jG} {d : Nat} (hd_ : 1 ≤ d) {v0 : Nat} {v1 : Int32} {v2 : Int32} {M : jM} {b : Int32 × jM} (h : f_X11_sentence  v0 v1 v2 M = some b) : V G m_X11_sentence d 0 [(0, .ref v0), (1, .int v1), (2, .int v2)] [] M (jQb cI b) := by
  unfold f_X11_sentence at h
  refine v_aload_n dX11_sentence_0 rfl 0 rfl ?_
  refine v_iload_n dX11_sentence_1 rfl 1 rfl ?_
  refine x_inv (cv := cN) (As := [.int v1]) (rest := []) (ls2 := [(0, .ref v0), (1, .int v1)]) (ci := 10) (by omega) dX11_sentence_2 ke_X11_sentenceOf kv_X11_188 rfl rfl (by decide) (Nat.le_of_ble_eq_true rfl) rfl rfl rfl rfl h (fun _ hq => s_X11_sentenceOf (by omega) hq) (fun o2 M1 h => ?_)
  refine v_astore_nQ (ls2 := [(3, va_rf o2), (0, .ref v0), (1, .int v1), (2, .int v2)]) dX11_sentence_5 rfl (by decide) rfl ?_
  refine v_aload_nQ dX11_sentence_6 rfl 0 rfl ?_
  cases o2 with
  | none =>
    replace h := x_nN h
    refine v_ifnonnullN dX11_sentence_7 ?_
    refine v_iconst dX11_sentence_10 ic_m1 ?_
    exact x_iret dX11_sentence_11 rfl h
  | some a3 =>
    replace h := x_nS h
    refine v_ifnonnull (tgt := 12) dX11_sentence_7 (by decide) ?_
    refine v_iload_n dX11_sentence_12 rfl 3 rfl ?_
    refine x_if_ne (tgt := 21) dX11_sentence_13 (by decide) h (fun h => ?_) (fun h => ?_)
    · refine v_aload_n dX11_sentence_16 rfl 0 rfl ?_
      refine x_inv (cv := cI) (As := []) (rest := []) (ls2 := [(0, .ref a3)]) (ci := 6) (by omega) dX11_sentence_17 ke_X7_depth kv_X11_192 rfl rfl (by decide) (Nat.le_of_ble_eq_true rfl) rfl rfl rfl rfl h (fun _ hq => s_X7_depth (by omega) hq) (fun x5 M4 h => ?_)
      exact x_iret dX11_sentence_20 rfl h
    · refine v_iload_n dX11_sentence_21 rfl 3 rfl ?_
      refine v_iconst dX11_sentence_22 ic_1 ?_
      refine x_ic_ne (tgt := 32) dX11_sentence_23 (by decide) h (fun h => ?_) (fun h => ?_)
      · refine v_aload_n dX11_sentence_26 rfl 0 rfl ?_
        refine x_inv (cv := cR) (As := []) (rest := []) (ls2 := [(0, .ref a3)]) (ci := 6) (by omega) dX11_sentence_27 ke_X7_nodes kv_X11_195 rfl rfl (by decide) (Nat.le_of_ble_eq_true rfl) rfl rfl rfl rfl h (fun _ hq => s_X7_nodes (by omega) hq) (fun r7 M6 h => ?_)
        refine x_ln dX11_sentence_30 h (fun x8 h => ?_)
        exact x_iret dX11_sentence_31 rfl h
      · refine v_iload_n dX11_sentence_32 rfl 3 rfl ?_
        refine v_iconst dX11_sentence_33 ic_2 ?_
        refine x_ic_ne (tgt := 45) dX11_sentence_34 (by decide) h (fun h => ?_) (fun h => ?_)
        · refine v_aload_n dX11_sentence_37 rfl 0 rfl ?_
          refine x_inv (cv := cR) (As := []) (rest := []) (ls2 := [(0, .ref a3)]) (ci := 6) (by omega) dX11_sentence_38 ke_X7_text kv_X11_198 rfl rfl (by decide) (Nat.le_of_ble_eq_true rfl) rfl rfl rfl rfl h (fun _ hq => s_X7_text (by omega) hq) (fun r10 M9 h => ?_)
          refine x_ln dX11_sentence_41 h (fun x11 h => ?_)
          refine v_goto (tgt := 47) dX11_sentence_42 (by decide) ?_
          exact x_iret dX11_sentence_47 rfl h
        · refine v_bipush dX11_sentence_45 bp_m2 ?_
          exact x_iret dX11_sentence_47 rfl h
def f_X11_state (v0 : Nat) (M : jM) : jO Int32 :=
  (gR 10 M v0 3).bind fun r1 =>
  jb2 (jiv 5 M r1 (f_X6_stage r1 M)) fun x3 M2 =>
  rt x3 M2
theorem s_X11_state {G : jG} {d : Nat} (hd_ : 1 ≤ d) {v0 : Nat} {M : jM} {b : Int32 × jM} (h : f_X11_state  v0 M = some b) : V G m_X11_state d 0 [(0, .ref v0)] [] M (jQb cI b) := by
  unfold f_X11_state at h
  refine v_aload_n dX11_state_0 rfl 0 rfl ?_
  refine x_gR dX11_state_1 kf_X11_30 rfl h (fun r1 h => ?_)
  refine x_inv (cv := cI) (As := []) (rest := []) (ls2 := [(0, .ref r1)]) (ci := 5) (by omega) dX11_state_4 ke_X6_stage kv_X11_160 rfl rfl (by decide) (Nat.le_of_ble_eq_true rfl) rfl rfl rfl rfl h (fun _ hq => s_X6_stage (by omega) hq) (fun x3 M2 h => ?_)
  exact x_iret dX11_state_7 rfl h
def j_X1_balance_59 (k10 : Nat → Int32 → jM → jO Int32) (v0 : Nat) (v1 : Int32) (M : jM) : jO Int32 :=
  k10 v0 (v1 + (nI 1)) M
theorem t_X1_balance_59 {G : jG} {d : Nat} (hd_ : 1 ≤ d) {k10 : Nat → Int32 → jM → jO Int32} (hk10 : ∀ (w0 : Nat) (w1 : Int32) (M : jM) (b : Int32 × jM), k10 w0 w1 M = some b → V G m_X1_balance d 10 [(0, .ref w0), (1, .int w1)] [] M (jQb cI b)) {v0 : Nat} {v1 : Int32} {M : jM} {b : Int32 × jM} (h : j_X1_balance_59 k10 v0 v1 M = some b) : V G m_X1_balance d 59 [(0, .ref v0), (1, .int v1)] [] M (jQb cI b) := by
  unfold j_X1_balance_59 at h
  refine v_iincC (ls2 := [(1, .int (v1 + (nI 1))), (0, .ref v0)]) dX1_balance_59 ic_1 1 rfl (by decide) rfl ?_
  refine v_goto (tgt := 10) dX1_balance_62 (by decide) ?_
  exact V.pick [1, 0] rfl (hk10 _ _ _ _ h)
def j_X1_balance_57 (k10 : Nat → Int32 → jM → jO Int32) (v0 : Nat) (v1 : Int32) (s0 : Nat) (s1 : Int32) (s2 : Int32) (s3 : Int32) (M : jM) : jO Int32 :=
  (stI M s0 s1 (s2 + s3)).bind fun M1 =>
  j_X1_balance_59 k10 v0 v1 M1
theorem t_X1_balance_57 {G : jG} {d : Nat} (hd_ : 1 ≤ d) {k10 : Nat → Int32 → jM → jO Int32} (hk10 : ∀ (w0 : Nat) (w1 : Int32) (M : jM) (b : Int32 × jM), k10 w0 w1 M = some b → V G m_X1_balance d 10 [(0, .ref w0), (1, .int w1)] [] M (jQb cI b)) {v0 : Nat} {v1 : Int32} {s0 : Nat} {s1 : Int32} {s2 : Int32} {s3 : Int32} {M : jM} {b : Int32 × jM} (h : j_X1_balance_57 k10 v0 v1 s0 s1 s2 s3 M = some b) : V G m_X1_balance d 57 [(0, .ref v0), (1, .int v1)] [.int s3, .int s2, .int s1, .ref s0] M (jQb cI b) := by
  unfold j_X1_balance_57 at h
  refine v_iadd dX1_balance_57 ?_
  refine x_stI dX1_balance_58 h (fun M1 h => ?_)
  exact t_X1_balance_59 hd_ hk10 h
def b_X1_balance_67  (k67 : Nat → Int32 → jM → jO Int32) (v0 : Nat) (v1 : Int32) (M : jM) : jO Int32 :=
  (gR 1 M v0 3).bind fun r1 =>
  (ln M r1).bind fun x2 =>
  if x2 ≤ v1 then
    rZ (nI 1) M
  else
    (gR 1 M v0 3).bind fun r3 =>
    (ldI M r3 v1).bind fun x4 =>
    if x4 = 0 then
      k67 v0 (v1 + (nI 1)) M
    else
      rZ (nI 0) M
def l_X1_balance_67  : Nat → Nat → Int32 → jM → jO Int32
  | 0 => fun _ _ _ => none
  | n + 1 => b_X1_balance_67  (l_X1_balance_67  n)
theorem tb_X1_balance_67 {G : jG} {d : Nat} (hd_ : 1 ≤ d)  {k67 : Nat → Int32 → jM → jO Int32} (hk67 : ∀ (w0 : Nat) (w1 : Int32) (M : jM) (b : Int32 × jM), k67 w0 w1 M = some b → V G m_X1_balance d 67 [(0, .ref w0), (1, .int w1)] [] M (jQb cI b)) {v0 : Nat} {v1 : Int32} {M : jM} {b : Int32 × jM} (h : b_X1_balance_67  k67 v0 v1 M = some b) : V G m_X1_balance d 67 [(0, .ref v0), (1, .int v1)] [] M (jQb cI b) := by
  unfold b_X1_balance_67 at h
  refine v_iload_n dX1_balance_67 rfl 1 rfl ?_
  refine v_aload_n dX1_balance_68 rfl 0 rfl ?_
  refine x_gR dX1_balance_69 kf_X1_22 rfl h (fun r1 h => ?_)
  refine x_ln dX1_balance_72 h (fun x2 h => ?_)
  refine x_ic_ge (tgt := 93) dX1_balance_73 (by decide) h (fun h => ?_) (fun h => ?_)
  · refine v_iconst dX1_balance_93 ic_1 ?_
    exact x_zret dX1_balance_94 rfl h
  · refine v_aload_n dX1_balance_76 rfl 0 rfl ?_
    refine x_gR dX1_balance_77 kf_X1_22 rfl h (fun r3 h => ?_)
    refine v_iload_n dX1_balance_80 rfl 1 rfl ?_
    refine x_ldI dX1_balance_81 h (fun x4 h => ?_)
    refine x_if_eq (tgt := 87) dX1_balance_82 (by decide) h (fun h => ?_) (fun h => ?_)
    · refine v_iincC (ls2 := [(1, .int (v1 + (nI 1))), (0, .ref v0)]) dX1_balance_87 ic_1 1 rfl (by decide) rfl ?_
      refine v_goto (tgt := 67) dX1_balance_90 (by decide) ?_
      exact V.pick [1, 0] rfl (hk67 _ _ _ _ h)
    · refine v_iconst dX1_balance_85 ic_0 ?_
      exact x_zret dX1_balance_86 rfl h
theorem t_X1_balance_67 {G : jG} {d : Nat} (hd_ : 1 ≤ d)  : ∀ (n : Nat) (v0 : Nat) (v1 : Int32) (M : jM) (b : Int32 × jM), l_X1_balance_67  n v0 v1 M = some b → V G m_X1_balance d 67 [(0, .ref v0), (1, .int v1)] [] M (jQb cI b) := by
  intro n
  induction n with
  | zero => intro v0 v1 M b h; exact nomatch (show (none : jO Int32) = some b from h)
  | succ n ih => intro v0 v1 M b h; exact tb_X1_balance_67 hd_  ih h
def b_X1_balance_10  (k10 : Nat → Int32 → jM → jO Int32) (v0 : Nat) (v1 : Int32) (M : jM) : jO Int32 :=
  (gI 1 M v0 4).bind fun x1 =>
  if x1 ≤ v1 then
    l_X1_balance_67 jF0 v0 (nI 0) M
  else
    jb2 (jiv 1 M v0 (f_X1_colourAt v0 v1 M)) fun x3 M2 =>
    if x3 < 0 then
      j_X1_balance_59 k10 v0 v1 M2
    else
      (gR 1 M2 v0 3).bind fun r4 =>
      (ln M2 r4).bind fun x5 =>
      if x5 ≤ x3 then
        j_X1_balance_59 k10 v0 v1 M2
      else
        (gR 1 M2 v0 3).bind fun r6 =>
        (ldI M2 r6 x3).bind fun x7 =>
        (gI 1 M2 v0 5).bind fun x8 =>
        if x8 ≤ v1 then
          j_X1_balance_57 k10 v0 v1 r6 x3 x7 (-1 : Int32) M2
        else
          j_X1_balance_57 k10 v0 v1 r6 x3 x7 (nI 1) M2
def l_X1_balance_10  : Nat → Nat → Int32 → jM → jO Int32
  | 0 => fun _ _ _ => none
  | n + 1 => b_X1_balance_10  (l_X1_balance_10  n)
theorem tb_X1_balance_10 {G : jG} {d : Nat} (hd_ : 1 ≤ d)  {k10 : Nat → Int32 → jM → jO Int32} (hk10 : ∀ (w0 : Nat) (w1 : Int32) (M : jM) (b : Int32 × jM), k10 w0 w1 M = some b → V G m_X1_balance d 10 [(0, .ref w0), (1, .int w1)] [] M (jQb cI b)) {v0 : Nat} {v1 : Int32} {M : jM} {b : Int32 × jM} (h : b_X1_balance_10  k10 v0 v1 M = some b) : V G m_X1_balance d 10 [(0, .ref v0), (1, .int v1)] [] M (jQb cI b) := by
  unfold b_X1_balance_10 at h
  refine v_iload_n dX1_balance_10 rfl 1 rfl ?_
  refine v_aload_n dX1_balance_11 rfl 0 rfl ?_
  refine x_gI dX1_balance_12 kf_X1_25 rfl h (fun x1 h => ?_)
  refine x_ic_ge (tgt := 65) dX1_balance_15 (by decide) h (fun h => ?_) (fun h => ?_)
  · refine v_iconst dX1_balance_65 ic_0 ?_
    refine v_istore_n (ls2 := [(1, .int (nI 0)), (0, .ref v0)]) dX1_balance_66 rfl (by decide) rfl ?_
    exact V.pick [1, 0] rfl (t_X1_balance_67 hd_ _ _ _ _ _ h)
  · refine v_aload_n dX1_balance_18 rfl 0 rfl ?_
    refine v_iload_n dX1_balance_19 rfl 1 rfl ?_
    refine x_inv (cv := cI) (As := [.int v1]) (rest := []) (ls2 := [(0, .ref v0), (1, .int v1)]) (ci := 1) (by omega) dX1_balance_20 ke_X1_colourAt kv_X1_38 rfl rfl (by decide) (Nat.le_of_ble_eq_true rfl) rfl rfl rfl rfl h (fun _ hq => s_X1_colourAt (by omega) hq) (fun x3 M2 h => ?_)
    refine v_istore_n (ls2 := [(2, .int x3), (0, .ref v0), (1, .int v1)]) dX1_balance_23 rfl (by decide) rfl ?_
    refine v_iload_n dX1_balance_24 rfl 0 rfl ?_
    refine x_if_lt (tgt := 59) dX1_balance_25 (by decide) h (fun h => ?_) (fun h => ?_)
    · exact V.pick [1, 2] rfl (t_X1_balance_59 hd_ hk10 h)
    · refine v_iload_n dX1_balance_28 rfl 0 rfl ?_
      refine v_aload_n dX1_balance_29 rfl 1 rfl ?_
      refine x_gR dX1_balance_30 kf_X1_22 rfl h (fun r4 h => ?_)
      refine x_ln dX1_balance_33 h (fun x5 h => ?_)
      refine x_ic_ge (tgt := 59) dX1_balance_34 (by decide) h (fun h => ?_) (fun h => ?_)
      · exact V.pick [1, 2] rfl (t_X1_balance_59 hd_ hk10 h)
      · refine v_aload_n dX1_balance_37 rfl 1 rfl ?_
        refine x_gR dX1_balance_38 kf_X1_22 rfl h (fun r6 h => ?_)
        refine v_iload_n dX1_balance_41 rfl 0 rfl ?_
        refine v_dup2 dX1_balance_42 rfl rfl ?_
        refine x_ldI dX1_balance_43 h (fun x7 h => ?_)
        refine v_iload_n dX1_balance_44 rfl 2 rfl ?_
        refine v_aload_n dX1_balance_45 rfl 1 rfl ?_
        refine x_gI dX1_balance_46 kf_X1_29 rfl h (fun x8 h => ?_)
        refine x_ic_ge (tgt := 56) dX1_balance_49 (by decide) h (fun h => ?_) (fun h => ?_)
        · refine v_iconst dX1_balance_56 ic_m1 ?_
          exact V.pick [1, 2] rfl (t_X1_balance_57 hd_ hk10 h)
        · refine v_iconst dX1_balance_52 ic_1 ?_
          refine v_goto (tgt := 57) dX1_balance_53 (by decide) ?_
          exact V.pick [1, 2] rfl (t_X1_balance_57 hd_ hk10 h)
theorem t_X1_balance_10 {G : jG} {d : Nat} (hd_ : 1 ≤ d)  : ∀ (n : Nat) (v0 : Nat) (v1 : Int32) (M : jM) (b : Int32 × jM), l_X1_balance_10  n v0 v1 M = some b → V G m_X1_balance d 10 [(0, .ref v0), (1, .int v1)] [] M (jQb cI b) := by
  intro n
  induction n with
  | zero => intro v0 v1 M b h; exact nomatch (show (none : jO Int32) = some b from h)
  | succ n ih => intro v0 v1 M b h; exact tb_X1_balance_10 hd_  ih h
def f_X1_balance (v0 : Nat) (M : jM) : jO Int32 :=
  (gR 1 M v0 3).bind fun r1 =>
  jb2 (f_J7_fill_53178 r1 (nI 0) M) fun _ M2 =>
  l_X1_balance_10 jF0 v0 (nI 0) M2
theorem s_X1_balance {G : jG} {d : Nat} (hd_ : 1 ≤ d) {v0 : Nat} {M : jM} {b : Int32 × jM} (h : f_X1_balance  v0 M = some b) : V G m_X1_balance d 0 [(0, .ref v0)] [] M (jQb cI b) := by
  unfold f_X1_balance at h
  refine v_aload_n dX1_balance_0 rfl 0 rfl ?_
  refine x_gR dX1_balance_1 kf_X1_22 rfl h (fun r1 h => ?_)
  refine v_iconst dX1_balance_4 ic_0 ?_
  refine x_invs (cv := cU) (As := [.ref r1, .int (nI 0)]) (rest := []) (ls2 := [(0, .ref r1), (1, .int (nI 0))]) (by omega) dX1_balance_5 ke_J7_fill_53178 ks_X1_48 (Nat.le_of_ble_eq_true rfl) rfl rfl rfl rfl h (fun _ hq => s_J7_fill_53178 (by omega) hq) (fun _ M2 h => ?_)
  refine v_iconst dX1_balance_8 ic_0 ?_
  refine v_istore_n (ls2 := [(1, .int (nI 0)), (0, .ref v0)]) dX1_balance_9 rfl (by decide) rfl ?_
  exact V.pick [1, 0] rfl (t_X1_balance_10 hd_ _ _ _ _ _ h)
def f_X1_items (v0 : Nat) (M : jM) : jO Int32 :=
  (gI 1 M v0 4).bind fun x1 =>
  rt x1 M
theorem s_X1_items {G : jG} {d : Nat} (hd_ : 0 ≤ d) {v0 : Nat} {M : jM} {b : Int32 × jM} (h : f_X1_items  v0 M = some b) : V G m_X1_items d 0 [(0, .ref v0)] [] M (jQb cI b) := by
  unfold f_X1_items at h
  refine v_aload_n dX1_items_0 rfl 0 rfl ?_
  refine x_gI dX1_items_1 kf_X1_25 rfl h (fun x1 h => ?_)
  exact x_iret dX1_items_4 rfl h
def f_X1_steps (v0 : Nat) (M : jM) : jO Int32 :=
  (gI 1 M v0 7).bind fun x1 =>
  rt x1 M
theorem s_X1_steps {G : jG} {d : Nat} (hd_ : 0 ≤ d) {v0 : Nat} {M : jM} {b : Int32 × jM} (h : f_X1_steps  v0 M = some b) : V G m_X1_steps d 0 [(0, .ref v0)] [] M (jQb cI b) := by
  unfold f_X1_steps at h
  refine v_aload_n dX1_steps_0 rfl 0 rfl ?_
  refine x_gI dX1_steps_1 kf_X1_35 rfl h (fun x1 h => ?_)
  exact x_iret dX1_steps_4 rfl h
def j_X11_still_12  (v0 : Nat) (v1 : Int32) (M : jM) : jO Int32 :=
  (gR 10 M v0 11).bind fun r1 =>
  jb2 (jiv 1 M r1 (f_X1_items r1 M)) fun x3 M2 =>
  if x3 = 0 then
    rt (-3 : Int32) M2
  else
    if v1 = 0 then
      (gR 10 M2 v0 11).bind fun r4 =>
      jb2 (jiv 1 M2 r4 (f_X1_steps r4 M2)) fun x6 M5 =>
      rt x6 M5
    else
      (gR 10 M2 v0 11).bind fun r7 =>
      jb2 (jiv 1 M2 r7 (f_X1_balance r7 M2)) fun x9 M8 =>
      if x9 = 0 then
        rt (nI 0) M8
      else
        rt (nI 1) M8
theorem t_X11_still_12 {G : jG} {d : Nat} (hd_ : 2 ≤ d)  {v0 : Nat} {v1 : Int32} {M : jM} {b : Int32 × jM} (h : j_X11_still_12  v0 v1 M = some b) : V G m_X11_still d 12 [(0, .ref v0), (1, .int v1)] [] M (jQb cI b) := by
  unfold j_X11_still_12 at h
  refine v_aload_n dX11_still_12 rfl 0 rfl ?_
  refine x_gR dX11_still_13 kf_X11_82 rfl h (fun r1 h => ?_)
  refine x_inv (cv := cI) (As := []) (rest := []) (ls2 := [(0, .ref r1)]) (ci := 1) (by omega) dX11_still_16 ke_X1_items kv_X11_233 rfl rfl (by decide) (Nat.le_of_ble_eq_true rfl) rfl rfl rfl rfl h (fun _ hq => s_X1_items (by omega) hq) (fun x3 M2 h => ?_)
  refine x_if_ne (tgt := 25) dX11_still_19 (by decide) h (fun h => ?_) (fun h => ?_)
  · refine v_bipush dX11_still_22 bp_m3 ?_
    exact x_iret dX11_still_24 rfl h
  · refine v_iload_n dX11_still_25 rfl 1 rfl ?_
    refine x_if_ne (tgt := 37) dX11_still_26 (by decide) h (fun h => ?_) (fun h => ?_)
    · refine v_aload_n dX11_still_29 rfl 0 rfl ?_
      refine x_gR dX11_still_30 kf_X11_82 rfl h (fun r4 h => ?_)
      refine x_inv (cv := cI) (As := []) (rest := []) (ls2 := [(0, .ref r4)]) (ci := 1) (by omega) dX11_still_33 ke_X1_steps kv_X11_236 rfl rfl (by decide) (Nat.le_of_ble_eq_true rfl) rfl rfl rfl rfl h (fun _ hq => s_X1_steps (by omega) hq) (fun x6 M5 h => ?_)
      exact x_iret dX11_still_36 rfl h
    · refine v_aload_n dX11_still_37 rfl 0 rfl ?_
      refine x_gR dX11_still_38 kf_X11_82 rfl h (fun r7 h => ?_)
      refine x_inv (cv := cI) (As := []) (rest := []) (ls2 := [(0, .ref r7)]) (ci := 1) (by omega) dX11_still_41 ke_X1_balance kv_X11_239 rfl rfl (by decide) (Nat.le_of_ble_eq_true rfl) rfl rfl rfl rfl h (fun _ hq => s_X1_balance (by omega) hq) (fun x9 M8 h => ?_)
      refine x_if_eq (tgt := 51) dX11_still_44 (by decide) h (fun h => ?_) (fun h => ?_)
      · refine v_iconst dX11_still_51 ic_0 ?_
        exact x_iret dX11_still_52 rfl h
      · refine v_iconst dX11_still_47 ic_1 ?_
        refine v_goto (tgt := 52) dX11_still_48 (by decide) ?_
        exact x_iret dX11_still_52 rfl h
def f_X11_still (v0 : Nat) (v1 : Int32) (M : jM) : jO Int32 :=
  if v1 = 0 then
    j_X11_still_12 v0 v1 M
  else
    if v1 = (nI 1) then
      j_X11_still_12 v0 v1 M
    else
      rt (-2 : Int32) M
theorem s_X11_still {G : jG} {d : Nat} (hd_ : 2 ≤ d) {v0 : Nat} {v1 : Int32} {M : jM} {b : Int32 × jM} (h : f_X11_still  v0 v1 M = some b) : V G m_X11_still d 0 [(0, .ref v0), (1, .int v1)] [] M (jQb cI b) := by
  unfold f_X11_still at h
  refine v_iload_n dX11_still_0 rfl 1 rfl ?_
  refine x_if_eq (tgt := 12) dX11_still_1 (by decide) h (fun h => ?_) (fun h => ?_)
  · exact t_X11_still_12 hd_ h
  · refine v_iload_n dX11_still_4 rfl 1 rfl ?_
    refine v_iconst dX11_still_5 ic_1 ?_
    refine x_ic_eq (tgt := 12) dX11_still_6 (by decide) h (fun h => ?_) (fun h => ?_)
    · exact t_X11_still_12 hd_ h
    · refine v_bipush dX11_still_9 bp_m2 ?_
      exact x_iret dX11_still_11 rfl h
def f_X9_setTie (v0 : Nat) (v1 : Int32) (v2 : Int32) (v3 : Int32) (M : jM) : jO Int32 :=
  jb2 (jiv 8 M v0 (f_X9_has v0 v1 M)) fun x2 M1 =>
  if x2 = 0 then
    rZ (nI 0) M1
  else
    jb2 (jiv 8 M1 v0 (f_X9_has v0 v2 M1)) fun x4 M3 =>
    if x4 = 0 then
      rZ (nI 0) M3
    else
      (gR 8 M3 v0 2).bind fun r5 =>
      (ldI M3 r5 v1).bind fun x6 =>
      (gR 8 M3 v0 2).bind fun r7 =>
      jb2 (f_X9_withBit x6 v2 v3 M3) fun x9 M8 =>
      (stI M8 r7 v1 x9).bind fun M10 =>
      (gR 8 M10 v0 2).bind fun r11 =>
      (ldI M10 r11 v1).bind fun x12 =>
      if x12 = x6 then
        rZ (nI 0) M10
      else
        rZ (nI 1) M10
theorem s_X9_setTie {G : jG} {d : Nat} (hd_ : 1 ≤ d) {v0 : Nat} {v1 : Int32} {v2 : Int32} {v3 : Int32} {M : jM} {b : Int32 × jM} (h : f_X9_setTie  v0 v1 v2 v3 M = some b) : V G m_X9_setTie d 0 [(0, .ref v0), (1, .int v1), (2, .int v2), (3, .int v3)] [] M (jQb cI b) := by
  unfold f_X9_setTie at h
  refine v_aload_n dX9_setTie_0 rfl 0 rfl ?_
  refine v_iload_n dX9_setTie_1 rfl 1 rfl ?_
  refine x_inv (cv := cI) (As := [.int v1]) (rest := []) (ls2 := [(0, .ref v0), (1, .int v1)]) (ci := 8) (by omega) dX9_setTie_2 ke_X9_has kv_X9_37 rfl rfl (by decide) (Nat.le_of_ble_eq_true rfl) rfl rfl rfl rfl h (fun _ hq => s_X9_has (by omega) hq) (fun x2 M1 h => ?_)
  refine x_if_eq (tgt := 16) dX9_setTie_5 (by decide) h (fun h => ?_) (fun h => ?_)
  · refine v_iconst dX9_setTie_16 ic_0 ?_
    exact x_zret dX9_setTie_17 rfl h
  · refine v_aload_n dX9_setTie_8 rfl 0 rfl ?_
    refine v_iload_n dX9_setTie_9 rfl 2 rfl ?_
    refine x_inv (cv := cI) (As := [.int v2]) (rest := []) (ls2 := [(0, .ref v0), (1, .int v2)]) (ci := 8) (by omega) dX9_setTie_10 ke_X9_has kv_X9_37 rfl rfl (by decide) (Nat.le_of_ble_eq_true rfl) rfl rfl rfl rfl h (fun _ hq => s_X9_has (by omega) hq) (fun x4 M3 h => ?_)
    refine x_if_ne (tgt := 18) dX9_setTie_13 (by decide) h (fun h => ?_) (fun h => ?_)
    · refine v_iconst dX9_setTie_16 ic_0 ?_
      exact x_zret dX9_setTie_17 rfl h
    · refine v_aload_n dX9_setTie_18 rfl 0 rfl ?_
      refine x_gR dX9_setTie_19 kf_X9_19 rfl h (fun r5 h => ?_)
      refine v_iload_n dX9_setTie_22 rfl 1 rfl ?_
      refine x_ldI dX9_setTie_23 h (fun x6 h => ?_)
      refine v_istore (ls2 := [(4, .int x6), (0, .ref v0), (1, .int v1), (2, .int v2), (3, .int v3)]) dX9_setTie_24 (by decide) rfl ?_
      refine v_aload_n dX9_setTie_26 rfl 1 rfl ?_
      refine x_gR dX9_setTie_27 kf_X9_19 rfl h (fun r7 h => ?_)
      refine v_iload_n dX9_setTie_30 rfl 2 rfl ?_
      refine v_iload dX9_setTie_31 0 rfl ?_
      refine v_iload_n dX9_setTie_33 rfl 3 rfl ?_
      refine v_iload_n dX9_setTie_34 rfl 4 rfl ?_
      refine x_invs (cv := cI) (As := [.int x6, .int v2, .int v3]) (rest := [.int v1, .ref r7]) (ls2 := [(0, .int x6), (1, .int v2), (2, .int v3)]) (by omega) dX9_setTie_35 ke_X9_withBit ks_X9_48 (Nat.le_of_ble_eq_true rfl) rfl rfl rfl rfl h (fun _ hq => s_X9_withBit (by omega) hq) (fun x9 M8 h => ?_)
      refine x_stI dX9_setTie_38 h (fun M10 h => ?_)
      refine v_aload_n dX9_setTie_39 rfl 1 rfl ?_
      refine x_gR dX9_setTie_40 kf_X9_19 rfl h (fun r11 h => ?_)
      refine v_iload_n dX9_setTie_43 rfl 2 rfl ?_
      refine x_ldI dX9_setTie_44 h (fun x12 h => ?_)
      refine v_iload dX9_setTie_45 0 rfl ?_
      refine x_ic_eq (tgt := 54) dX9_setTie_47 (by decide) h (fun h => ?_) (fun h => ?_)
      · refine v_iconst dX9_setTie_54 ic_0 ?_
        exact x_zret dX9_setTie_55 rfl h
      · refine v_iconst dX9_setTie_50 ic_1 ?_
        refine v_goto (tgt := 55) dX9_setTie_51 (by decide) ?_
        exact x_zret dX9_setTie_55 rfl h
def f_X11_tie (v0 : Nat) (v1 : Int32) (v2 : Int32) (v3 : Int32) (v4 : Int32) (M : jM) : jO Int32 :=
  jb2 (jiv 10 M v0 (f_X11_worldOf v0 v1 M)) fun o2 M1 =>
  jnl o2 (
    rt (-1 : Int32) M1
    ) fun a3 =>
    jb2 (jiv 8 M1 a3 (f_X9_has a3 v2 M1)) fun x5 M4 =>
    if x5 = 0 then
      rt (-1 : Int32) M4
    else
      jb2 (jiv 8 M4 a3 (f_X9_has a3 v3 M4)) fun x7 M6 =>
      if x7 = 0 then
        rt (-1 : Int32) M6
      else
        jb2 (jiv 8 M6 a3 (f_X9_setTie a3 v2 v3 v4 M6)) fun x9 M8 =>
        if x9 = 0 then
          rt (nI 0) M8
        else
          rt (nI 1) M8
theorem s_X11_tie {G : jG} {d : Nat} (hd_ : 2 ≤ d) {v0 : Nat} {v1 : Int32} {v2 : Int32} {v3 : Int32} {v4 : Int32} {M : jM} {b : Int32 × jM} (h : f_X11_tie  v0 v1 v2 v3 v4 M = some b) : V G m_X11_tie d 0 [(0, .ref v0), (1, .int v1), (2, .int v2), (3, .int v3), (4, .int v4)] [] M (jQb cI b) := by
  unfold f_X11_tie at h
  refine v_aload_n dX11_tie_0 rfl 0 rfl ?_
  refine v_iload_n dX11_tie_1 rfl 1 rfl ?_
  refine x_inv (cv := cN) (As := [.int v1]) (rest := []) (ls2 := [(0, .ref v0), (1, .int v1)]) (ci := 10) (by omega) dX11_tie_2 ke_X11_worldOf kv_X11_94 rfl rfl (by decide) (Nat.le_of_ble_eq_true rfl) rfl rfl rfl rfl h (fun _ hq => s_X11_worldOf (by omega) hq) (fun o2 M1 h => ?_)
  refine v_astoreQ (ls2 := [(5, va_rf o2), (0, .ref v0), (1, .int v1), (2, .int v2), (3, .int v3), (4, .int v4)]) dX11_tie_5 (by decide) rfl ?_
  refine v_aloadQ dX11_tie_7 0 rfl ?_
  cases o2 with
  | none =>
    replace h := x_nN h
    refine v_ifnullN (tgt := 30) dX11_tie_9 (by decide) ?_
    refine v_iconst dX11_tie_30 ic_m1 ?_
    exact x_iret dX11_tie_31 rfl h
  | some a3 =>
    replace h := x_nS h
    refine v_ifnull dX11_tie_9 ?_
    refine v_aload dX11_tie_12 0 rfl ?_
    refine v_iload_n dX11_tie_14 rfl 3 rfl ?_
    refine x_inv (cv := cI) (As := [.int v2]) (rest := []) (ls2 := [(0, .ref a3), (1, .int v2)]) (ci := 8) (by omega) dX11_tie_15 ke_X9_has kv_X11_97 rfl rfl (by decide) (Nat.le_of_ble_eq_true rfl) rfl rfl rfl rfl h (fun _ hq => s_X9_has (by omega) hq) (fun x5 M4 h => ?_)
    refine x_if_eq (tgt := 30) dX11_tie_18 (by decide) h (fun h => ?_) (fun h => ?_)
    · refine v_iconst dX11_tie_30 ic_m1 ?_
      exact x_iret dX11_tie_31 rfl h
    · refine v_aload dX11_tie_21 0 rfl ?_
      refine v_iload_n dX11_tie_23 rfl 4 rfl ?_
      refine x_inv (cv := cI) (As := [.int v3]) (rest := []) (ls2 := [(0, .ref a3), (1, .int v3)]) (ci := 8) (by omega) dX11_tie_24 ke_X9_has kv_X11_97 rfl rfl (by decide) (Nat.le_of_ble_eq_true rfl) rfl rfl rfl rfl h (fun _ hq => s_X9_has (by omega) hq) (fun x7 M6 h => ?_)
      refine x_if_ne (tgt := 32) dX11_tie_27 (by decide) h (fun h => ?_) (fun h => ?_)
      · refine v_iconst dX11_tie_30 ic_m1 ?_
        exact x_iret dX11_tie_31 rfl h
      · refine v_aload dX11_tie_32 0 rfl ?_
        refine v_iload_n dX11_tie_34 rfl 3 rfl ?_
        refine v_iload_n dX11_tie_35 rfl 4 rfl ?_
        refine v_iload dX11_tie_36 5 rfl ?_
        refine x_inv (cv := cI) (As := [.int v2, .int v3, .int v4]) (rest := []) (ls2 := [(0, .ref a3), (1, .int v2), (2, .int v3), (3, .int v4)]) (ci := 8) (by omega) dX11_tie_38 ke_X9_setTie kv_X11_105 rfl rfl (by decide) (Nat.le_of_ble_eq_true rfl) rfl rfl rfl rfl h (fun _ hq => s_X9_setTie (by omega) hq) (fun x9 M8 h => ?_)
        refine x_if_eq (tgt := 48) dX11_tie_41 (by decide) h (fun h => ?_) (fun h => ?_)
        · refine v_iconst dX11_tie_48 ic_0 ?_
          exact x_iret dX11_tie_49 rfl h
        · refine v_iconst dX11_tie_44 ic_1 ?_
          refine v_goto (tgt := 49) dX11_tie_45 (by decide) ?_
          exact x_iret dX11_tie_49 rfl h
def f_X11_tied (v0 : Nat) (v1 : Int32) (v2 : Int32) (v3 : Int32) (M : jM) : jO Int32 :=
  jb2 (jiv 10 M v0 (f_X11_worldOf v0 v1 M)) fun o2 M1 =>
  jnl o2 (
    rt (-1 : Int32) M1
    ) fun a3 =>
    jb2 (jiv 8 M1 a3 (f_X9_has a3 v2 M1)) fun x5 M4 =>
    if x5 = 0 then
      rt (-1 : Int32) M4
    else
      jb2 (jiv 8 M4 a3 (f_X9_has a3 v3 M4)) fun x7 M6 =>
      if x7 = 0 then
        rt (-1 : Int32) M6
      else
        jb2 (jiv 8 M6 a3 (f_X9_isTied a3 v2 v3 M6)) fun x9 M8 =>
        if x9 = 0 then
          rt (nI 0) M8
        else
          rt (nI 1) M8
theorem s_X11_tied {G : jG} {d : Nat} (hd_ : 2 ≤ d) {v0 : Nat} {v1 : Int32} {v2 : Int32} {v3 : Int32} {M : jM} {b : Int32 × jM} (h : f_X11_tied  v0 v1 v2 v3 M = some b) : V G m_X11_tied d 0 [(0, .ref v0), (1, .int v1), (2, .int v2), (3, .int v3)] [] M (jQb cI b) := by
  unfold f_X11_tied at h
  refine v_aload_n dX11_tied_0 rfl 0 rfl ?_
  refine v_iload_n dX11_tied_1 rfl 1 rfl ?_
  refine x_inv (cv := cN) (As := [.int v1]) (rest := []) (ls2 := [(0, .ref v0), (1, .int v1)]) (ci := 10) (by omega) dX11_tied_2 ke_X11_worldOf kv_X11_94 rfl rfl (by decide) (Nat.le_of_ble_eq_true rfl) rfl rfl rfl rfl h (fun _ hq => s_X11_worldOf (by omega) hq) (fun o2 M1 h => ?_)
  refine v_astoreQ (ls2 := [(4, va_rf o2), (0, .ref v0), (1, .int v1), (2, .int v2), (3, .int v3)]) dX11_tied_5 (by decide) rfl ?_
  refine v_aloadQ dX11_tied_7 0 rfl ?_
  cases o2 with
  | none =>
    replace h := x_nN h
    refine v_ifnullN (tgt := 30) dX11_tied_9 (by decide) ?_
    refine v_iconst dX11_tied_30 ic_m1 ?_
    exact x_iret dX11_tied_31 rfl h
  | some a3 =>
    replace h := x_nS h
    refine v_ifnull dX11_tied_9 ?_
    refine v_aload dX11_tied_12 0 rfl ?_
    refine v_iload_n dX11_tied_14 rfl 3 rfl ?_
    refine x_inv (cv := cI) (As := [.int v2]) (rest := []) (ls2 := [(0, .ref a3), (1, .int v2)]) (ci := 8) (by omega) dX11_tied_15 ke_X9_has kv_X11_97 rfl rfl (by decide) (Nat.le_of_ble_eq_true rfl) rfl rfl rfl rfl h (fun _ hq => s_X9_has (by omega) hq) (fun x5 M4 h => ?_)
    refine x_if_eq (tgt := 30) dX11_tied_18 (by decide) h (fun h => ?_) (fun h => ?_)
    · refine v_iconst dX11_tied_30 ic_m1 ?_
      exact x_iret dX11_tied_31 rfl h
    · refine v_aload dX11_tied_21 0 rfl ?_
      refine v_iload_n dX11_tied_23 rfl 4 rfl ?_
      refine x_inv (cv := cI) (As := [.int v3]) (rest := []) (ls2 := [(0, .ref a3), (1, .int v3)]) (ci := 8) (by omega) dX11_tied_24 ke_X9_has kv_X11_97 rfl rfl (by decide) (Nat.le_of_ble_eq_true rfl) rfl rfl rfl rfl h (fun _ hq => s_X9_has (by omega) hq) (fun x7 M6 h => ?_)
      refine x_if_ne (tgt := 32) dX11_tied_27 (by decide) h (fun h => ?_) (fun h => ?_)
      · refine v_iconst dX11_tied_30 ic_m1 ?_
        exact x_iret dX11_tied_31 rfl h
      · refine v_aload dX11_tied_32 0 rfl ?_
        refine v_iload_n dX11_tied_34 rfl 3 rfl ?_
        refine v_iload_n dX11_tied_35 rfl 4 rfl ?_
        refine x_inv (cv := cI) (As := [.int v2, .int v3]) (rest := []) (ls2 := [(0, .ref a3), (1, .int v2), (2, .int v3)]) (ci := 8) (by omega) dX11_tied_36 ke_X9_isTied kv_X11_133 rfl rfl (by decide) (Nat.le_of_ble_eq_true rfl) rfl rfl rfl rfl h (fun _ hq => s_X9_isTied (by omega) hq) (fun x9 M8 h => ?_)
        refine x_if_eq (tgt := 46) dX11_tied_39 (by decide) h (fun h => ?_) (fun h => ?_)
        · refine v_iconst dX11_tied_46 ic_0 ?_
          exact x_iret dX11_tied_47 rfl h
        · refine v_iconst dX11_tied_42 ic_1 ?_
          refine v_goto (tgt := 47) dX11_tied_43 (by decide) ?_
          exact x_iret dX11_tied_47 rfl h
def j_X11_countWorlds_21 (k4 : Nat → Int32 → Int32 → jM → jO Int32) (v0 : Nat) (v1 : Int32) (v2 : Int32) (M : jM) : jO Int32 :=
  k4 v0 v1 (v2 + (nI 1)) M
theorem t_X11_countWorlds_21 {G : jG} {d : Nat} (hd_ : 2 ≤ d) {k4 : Nat → Int32 → Int32 → jM → jO Int32} (hk4 : ∀ (w0 : Nat) (w1 : Int32) (w2 : Int32) (M : jM) (b : Int32 × jM), k4 w0 w1 w2 M = some b → V G m_X11_countWorlds d 4 [(0, .ref w0), (1, .int w1), (2, .int w2)] [] M (jQb cI b)) {v0 : Nat} {v1 : Int32} {v2 : Int32} {M : jM} {b : Int32 × jM} (h : j_X11_countWorlds_21 k4 v0 v1 v2 M = some b) : V G m_X11_countWorlds d 21 [(0, .ref v0), (1, .int v1), (2, .int v2)] [] M (jQb cI b) := by
  unfold j_X11_countWorlds_21 at h
  refine v_iincC (ls2 := [(2, .int (v2 + (nI 1))), (0, .ref v0), (1, .int v1)]) dX11_countWorlds_21 ic_1 2 rfl (by decide) rfl ?_
  refine v_goto (tgt := 4) dX11_countWorlds_24 (by decide) ?_
  exact V.pick [1, 2, 0] rfl (hk4 _ _ _ _ _ h)
def b_X11_countWorlds_4  (k4 : Nat → Int32 → Int32 → jM → jO Int32) (v0 : Nat) (v1 : Int32) (v2 : Int32) (M : jM) : jO Int32 :=
  if (nI 6) ≤ v2 then
    rt v1 M
  else
    jb2 (jiv 10 M v0 (f_X11_worldOf v0 v2 M)) fun o2 M1 =>
    jnl o2 (
      j_X11_countWorlds_21 k4 v0 v1 v2 M1
      ) fun a3 =>
      j_X11_countWorlds_21 k4 v0 (v1 + (nI 1)) v2 M1
def l_X11_countWorlds_4  : Nat → Nat → Int32 → Int32 → jM → jO Int32
  | 0 => fun _ _ _ _ => none
  | n + 1 => b_X11_countWorlds_4  (l_X11_countWorlds_4  n)
theorem tb_X11_countWorlds_4 {G : jG} {d : Nat} (hd_ : 2 ≤ d)  {k4 : Nat → Int32 → Int32 → jM → jO Int32} (hk4 : ∀ (w0 : Nat) (w1 : Int32) (w2 : Int32) (M : jM) (b : Int32 × jM), k4 w0 w1 w2 M = some b → V G m_X11_countWorlds d 4 [(0, .ref w0), (1, .int w1), (2, .int w2)] [] M (jQb cI b)) {v0 : Nat} {v1 : Int32} {v2 : Int32} {M : jM} {b : Int32 × jM} (h : b_X11_countWorlds_4  k4 v0 v1 v2 M = some b) : V G m_X11_countWorlds d 4 [(0, .ref v0), (1, .int v1), (2, .int v2)] [] M (jQb cI b) := by
  unfold b_X11_countWorlds_4 at h
  refine v_iload_n dX11_countWorlds_4 rfl 2 rfl ?_
  refine v_bipush dX11_countWorlds_5 bp_6 ?_
  refine x_ic_ge (tgt := 27) dX11_countWorlds_7 (by decide) h (fun h => ?_) (fun h => ?_)
  · refine v_iload_n dX11_countWorlds_27 rfl 1 rfl ?_
    exact x_iret dX11_countWorlds_28 rfl h
  · refine v_aload_n dX11_countWorlds_10 rfl 0 rfl ?_
    refine v_iload_n dX11_countWorlds_11 rfl 2 rfl ?_
    refine x_inv (cv := cN) (As := [.int v2]) (rest := []) (ls2 := [(0, .ref v0), (1, .int v2)]) (ci := 10) (by omega) dX11_countWorlds_12 ke_X11_worldOf kv_X11_94 rfl rfl (by decide) (Nat.le_of_ble_eq_true rfl) rfl rfl rfl rfl h (fun _ hq => s_X11_worldOf (by omega) hq) (fun o2 M1 h => ?_)
    cases o2 with
    | none =>
      replace h := x_nN h
      refine v_ifnullN (tgt := 21) dX11_countWorlds_15 (by decide) ?_
      exact t_X11_countWorlds_21 hd_ hk4 h
    | some a3 =>
      replace h := x_nS h
      refine v_ifnull dX11_countWorlds_15 ?_
      refine v_iincC (ls2 := [(1, .int (v1 + (nI 1))), (0, .ref v0), (2, .int v2)]) dX11_countWorlds_18 ic_1 1 rfl (by decide) rfl ?_
      exact V.pick [1, 0, 2] rfl (t_X11_countWorlds_21 hd_ hk4 h)
theorem t_X11_countWorlds_4 {G : jG} {d : Nat} (hd_ : 2 ≤ d)  : ∀ (n : Nat) (v0 : Nat) (v1 : Int32) (v2 : Int32) (M : jM) (b : Int32 × jM), l_X11_countWorlds_4  n v0 v1 v2 M = some b → V G m_X11_countWorlds d 4 [(0, .ref v0), (1, .int v1), (2, .int v2)] [] M (jQb cI b) := by
  intro n
  induction n with
  | zero => intro v0 v1 v2 M b h; exact nomatch (show (none : jO Int32) = some b from h)
  | succ n ih => intro v0 v1 v2 M b h; exact tb_X11_countWorlds_4 hd_  ih h
def f_X11_countWorlds (v0 : Nat) (M : jM) : jO Int32 :=
  l_X11_countWorlds_4 jF0 v0 (nI 0) (nI 0) M
theorem s_X11_countWorlds {G : jG} {d : Nat} (hd_ : 2 ≤ d) {v0 : Nat} {M : jM} {b : Int32 × jM} (h : f_X11_countWorlds  v0 M = some b) : V G m_X11_countWorlds d 0 [(0, .ref v0)] [] M (jQb cI b) := by
  unfold f_X11_countWorlds at h
  refine v_iconst dX11_countWorlds_0 ic_0 ?_
  refine v_istore_n (ls2 := [(1, .int (nI 0)), (0, .ref v0)]) dX11_countWorlds_1 rfl (by decide) rfl ?_
  refine v_iconst dX11_countWorlds_2 ic_0 ?_
  refine v_istore_n (ls2 := [(2, .int (nI 0)), (1, .int (nI 0)), (0, .ref v0)]) dX11_countWorlds_3 rfl (by decide) rfl ?_
  exact V.pick [2, 1, 0] rfl (t_X11_countWorlds_4 hd_ _ _ _ _ _ _ h)
def f_X2_items (v0 : Nat) (M : jM) : jO Int32 :=
  (gI 2 M v0 2).bind fun x1 =>
  rt x1 M
theorem s_X2_items {G : jG} {d : Nat} (hd_ : 0 ≤ d) {v0 : Nat} {M : jM} {b : Int32 × jM} (h : f_X2_items  v0 M = some b) : V G m_X2_items d 0 [(0, .ref v0)] [] M (jQb cI b) := by
  unfold f_X2_items at h
  refine v_aload_n dX2_items_0 rfl 0 rfl ?_
  refine x_gI dX2_items_1 kf_X2_18 rfl h (fun x1 h => ?_)
  exact x_iret dX2_items_4 rfl h
def f_X11_told (v0 : Nat) (v1 : Int32) (M : jM) : jO Int32 :=
  if v1 = 0 then
    jb2 (jiv 10 M v0 (f_X11_countWorlds v0 M)) fun x2 M1 =>
    rt x2 M1
  else
    if v1 = (nI 1) then
      (gI 10 M v0 9).bind fun x3 =>
      rt x3 M
    else
      if v1 = (nI 2) then
        (gR 10 M v0 4).bind fun r4 =>
        jb2 (jiv 7 M r4 (f_X8_length r4 M)) fun x6 M5 =>
        rt x6 M5
      else
        if v1 = (nI 3) then
          (gR 10 M v0 10).bind fun r7 =>
          jb2 (jiv 2 M r7 (f_X2_items r7 M)) fun x9 M8 =>
          rt x9 M8
        else
          if v1 = (nI 4) then
            (gR 10 M v0 11).bind fun r10 =>
            jb2 (jiv 1 M r10 (f_X1_items r10 M)) fun x12 M11 =>
            rt x12 M11
          else
            rt (-2 : Int32) M
theorem s_X11_told {G : jG} {d : Nat} (hd_ : 3 ≤ d) {v0 : Nat} {v1 : Int32} {M : jM} {b : Int32 × jM} (h : f_X11_told  v0 v1 M = some b) : V G m_X11_told d 0 [(0, .ref v0), (1, .int v1)] [] M (jQb cI b) := by
  unfold f_X11_told at h
  refine v_iload_n dX11_told_0 rfl 1 rfl ?_
  refine x_if_ne (tgt := 9) dX11_told_1 (by decide) h (fun h => ?_) (fun h => ?_)
  · refine v_aload_n dX11_told_4 rfl 0 rfl ?_
    refine x_inv (cv := cI) (As := []) (rest := []) (ls2 := [(0, .ref v0)]) (ci := 10) (by omega) dX11_told_5 ke_X11_countWorlds kv_X11_243 rfl rfl (by decide) (Nat.le_of_ble_eq_true rfl) rfl rfl rfl rfl h (fun _ hq => s_X11_countWorlds (by omega) hq) (fun x2 M1 h => ?_)
    exact x_iret dX11_told_8 rfl h
  · refine v_iload_n dX11_told_9 rfl 1 rfl ?_
    refine v_iconst dX11_told_10 ic_1 ?_
    refine x_ic_ne (tgt := 19) dX11_told_11 (by decide) h (fun h => ?_) (fun h => ?_)
    · refine v_aload_n dX11_told_14 rfl 0 rfl ?_
      refine x_gI dX11_told_15 kf_X11_68 rfl h (fun x3 h => ?_)
      exact x_iret dX11_told_18 rfl h
    · refine v_iload_n dX11_told_19 rfl 1 rfl ?_
      refine v_iconst dX11_told_20 ic_2 ?_
      refine x_ic_ne (tgt := 32) dX11_told_21 (by decide) h (fun h => ?_) (fun h => ?_)
      · refine v_aload_n dX11_told_24 rfl 0 rfl ?_
        refine x_gR dX11_told_25 kf_X11_37 rfl h (fun r4 h => ?_)
        refine x_inv (cv := cI) (As := []) (rest := []) (ls2 := [(0, .ref r4)]) (ci := 7) (by omega) dX11_told_28 ke_X8_length kv_X11_166 rfl rfl (by decide) (Nat.le_of_ble_eq_true rfl) rfl rfl rfl rfl h (fun _ hq => s_X8_length (by omega) hq) (fun x6 M5 h => ?_)
        exact x_iret dX11_told_31 rfl h
      · refine v_iload_n dX11_told_32 rfl 1 rfl ?_
        refine v_iconst dX11_told_33 ic_3 ?_
        refine x_ic_ne (tgt := 45) dX11_told_34 (by decide) h (fun h => ?_) (fun h => ?_)
        · refine v_aload_n dX11_told_37 rfl 0 rfl ?_
          refine x_gR dX11_told_38 kf_X11_75 rfl h (fun r7 h => ?_)
          refine x_inv (cv := cI) (As := []) (rest := []) (ls2 := [(0, .ref r7)]) (ci := 2) (by omega) dX11_told_41 ke_X2_items kv_X11_246 rfl rfl (by decide) (Nat.le_of_ble_eq_true rfl) rfl rfl rfl rfl h (fun _ hq => s_X2_items (by omega) hq) (fun x9 M8 h => ?_)
          exact x_iret dX11_told_44 rfl h
        · refine v_iload_n dX11_told_45 rfl 1 rfl ?_
          refine v_iconst dX11_told_46 ic_4 ?_
          refine x_ic_ne (tgt := 60) dX11_told_47 (by decide) h (fun h => ?_) (fun h => ?_)
          · refine v_aload_n dX11_told_50 rfl 0 rfl ?_
            refine x_gR dX11_told_51 kf_X11_82 rfl h (fun r10 h => ?_)
            refine x_inv (cv := cI) (As := []) (rest := []) (ls2 := [(0, .ref r10)]) (ci := 1) (by omega) dX11_told_54 ke_X1_items kv_X11_233 rfl rfl (by decide) (Nat.le_of_ble_eq_true rfl) rfl rfl rfl rfl h (fun _ hq => s_X1_items (by omega) hq) (fun x12 M11 h => ?_)
            refine v_goto (tgt := 62) dX11_told_57 (by decide) ?_
            exact x_iret dX11_told_62 rfl h
          · refine v_bipush dX11_told_60 bp_m2 ?_
            exact x_iret dX11_told_62 rfl h
def f_X11_trim (v0 : Nat) (v1 : Int32) (M : jM) : jO Int32 :=
  if v1 < 0 then
    rt (-2 : Int32) M
  else
    (gR 10 M v0 4).bind fun r1 =>
    jb2 (jiv 7 M r1 (f_X8_length r1 M)) fun x3 M2 =>
    if v1 ≤ x3 then
      (gR 10 M2 v0 4).bind fun r4 =>
      jb2 (jiv 7 M2 r4 (f_X8_cutTo r4 v1 M2)) fun _ M5 =>
      rt v1 M5
    else
      rt (-2 : Int32) M2
theorem s_X11_trim {G : jG} {d : Nat} (hd_ : 2 ≤ d) {v0 : Nat} {v1 : Int32} {M : jM} {b : Int32 × jM} (h : f_X11_trim  v0 v1 M = some b) : V G m_X11_trim d 0 [(0, .ref v0), (1, .int v1)] [] M (jQb cI b) := by
  unfold f_X11_trim at h
  refine v_iload_n dX11_trim_0 rfl 1 rfl ?_
  refine x_if_lt (tgt := 15) dX11_trim_1 (by decide) h (fun h => ?_) (fun h => ?_)
  · refine v_bipush dX11_trim_15 bp_m2 ?_
    exact x_iret dX11_trim_17 rfl h
  · refine v_iload_n dX11_trim_4 rfl 1 rfl ?_
    refine v_aload_n dX11_trim_5 rfl 0 rfl ?_
    refine x_gR dX11_trim_6 kf_X11_37 rfl h (fun r1 h => ?_)
    refine x_inv (cv := cI) (As := []) (rest := [.int v1]) (ls2 := [(0, .ref r1)]) (ci := 7) (by omega) dX11_trim_9 ke_X8_length kv_X11_166 rfl rfl (by decide) (Nat.le_of_ble_eq_true rfl) rfl rfl rfl rfl h (fun _ hq => s_X8_length (by omega) hq) (fun x3 M2 h => ?_)
    refine x_ic_le (tgt := 18) dX11_trim_12 (by decide) h (fun h => ?_) (fun h => ?_)
    · refine v_aload_n dX11_trim_18 rfl 0 rfl ?_
      refine x_gR dX11_trim_19 kf_X11_37 rfl h (fun r4 h => ?_)
      refine v_iload_n dX11_trim_22 rfl 1 rfl ?_
      refine x_inv (cv := cU) (As := [.int v1]) (rest := []) (ls2 := [(0, .ref r4), (1, .int v1)]) (ci := 7) (by omega) dX11_trim_23 ke_X8_cutTo kv_X11_172 rfl rfl (by decide) (Nat.le_of_ble_eq_true rfl) rfl rfl rfl rfl h (fun _ hq => s_X8_cutTo (by omega) hq) (fun _ M5 h => ?_)
      refine v_iload_n dX11_trim_26 rfl 1 rfl ?_
      exact x_iret dX11_trim_27 rfl h
    · refine v_bipush dX11_trim_15 bp_m2 ?_
      exact x_iret dX11_trim_17 rfl h
def b_X9_exchange_74  (k74 : Nat → Int32 → Int32 → Int32 → jM → jO Unit) (v0 : Nat) (v1 : Int32) (v2 : Int32) (v5 : Int32) (M : jM) : jO Unit :=
  if (nI 6) ≤ v5 then
    rt () M
  else
    (gR 8 M v0 2).bind fun r1 =>
    (ldI M r1 v5).bind fun x2 =>
    (jv (((x2 >>> (v1 &&& 31)) ^^^ (x2 >>> (v2 &&& 31))) &&& (nI 1))).bind fun y3 =>
    (gR 8 M v0 2).bind fun r4 =>
    (stI M r4 v5 (x2 ^^^ ((y3 <<< (v1 &&& 31)) ^^^ (y3 <<< (v2 &&& 31))))).bind fun M5 =>
    k74 v0 v1 v2 (v5 + (nI 1)) M5
def l_X9_exchange_74  : Nat → Nat → Int32 → Int32 → Int32 → jM → jO Unit
  | 0 => fun _ _ _ _ _ => none
  | n + 1 => b_X9_exchange_74  (l_X9_exchange_74  n)
theorem tb_X9_exchange_74 {G : jG} {d : Nat} (hd_ : 1 ≤ d)  {k74 : Nat → Int32 → Int32 → Int32 → jM → jO Unit} (hk74 : ∀ (w0 : Nat) (w1 : Int32) (w2 : Int32) (w5 : Int32) (M : jM) (b : Unit × jM), k74 w0 w1 w2 w5 M = some b → V G m_X9_exchange d 74 [(0, .ref w0), (1, .int w1), (2, .int w2), (5, .int w5)] [] M (jQb cU b)) {v0 : Nat} {v1 : Int32} {v2 : Int32} {v5 : Int32} {M : jM} {b : Unit × jM} (h : b_X9_exchange_74  k74 v0 v1 v2 v5 M = some b) : V G m_X9_exchange d 74 [(0, .ref v0), (1, .int v1), (2, .int v2), (5, .int v5)] [] M (jQb cU b) := by
  unfold b_X9_exchange_74 at h
  refine v_iload dX9_exchange_74 3 rfl ?_
  refine v_bipush dX9_exchange_76 bp_6 ?_
  refine x_ic_ge (tgt := 128) dX9_exchange_78 (by decide) h (fun h => ?_) (fun h => ?_)
  · exact x_vret dX9_exchange_128 rfl h
  · refine v_aload_n dX9_exchange_81 rfl 0 rfl ?_
    refine x_gR dX9_exchange_82 kf_X9_19 rfl h (fun r1 h => ?_)
    refine v_iload dX9_exchange_85 3 rfl ?_
    refine x_ldI dX9_exchange_87 h (fun x2 h => ?_)
    refine v_istore (ls2 := [(6, .int x2), (0, .ref v0), (1, .int v1), (2, .int v2), (5, .int v5)]) dX9_exchange_88 (by decide) rfl ?_
    refine v_iload dX9_exchange_90 0 rfl ?_
    refine v_iload_n dX9_exchange_92 rfl 2 rfl ?_
    refine v_ishr dX9_exchange_93 ?_
    refine v_iload dX9_exchange_94 0 rfl ?_
    refine v_iload_n dX9_exchange_96 rfl 3 rfl ?_
    refine v_ishr dX9_exchange_97 ?_
    refine v_ixor dX9_exchange_98 ?_
    refine v_iconst dX9_exchange_99 ic_1 ?_
    refine v_iand dX9_exchange_100 ?_
    refine x_jvI h (fun y3 h => ?_)
    refine v_istore (ls2 := [(7, .int y3), (6, .int x2), (0, .ref v0), (1, .int v1), (2, .int v2), (5, .int v5)]) dX9_exchange_101 (by decide) rfl ?_
    refine v_aload_n dX9_exchange_103 rfl 2 rfl ?_
    refine x_gR dX9_exchange_104 kf_X9_19 rfl h (fun r4 h => ?_)
    refine v_iload dX9_exchange_107 5 rfl ?_
    refine v_iload dX9_exchange_109 1 rfl ?_
    refine v_iload dX9_exchange_111 0 rfl ?_
    refine v_iload_n dX9_exchange_113 rfl 3 rfl ?_
    refine v_ishl dX9_exchange_114 ?_
    refine v_iload dX9_exchange_115 0 rfl ?_
    refine v_iload_n dX9_exchange_117 rfl 4 rfl ?_
    refine v_ishl dX9_exchange_118 ?_
    refine v_ixor dX9_exchange_119 ?_
    refine v_ixor dX9_exchange_120 ?_
    refine x_stI dX9_exchange_121 h (fun M5 h => ?_)
    refine v_iincC (ls2 := [(5, .int (v5 + (nI 1))), (7, .int y3), (6, .int x2), (0, .ref v0), (1, .int v1), (2, .int v2)]) dX9_exchange_122 ic_1 5 rfl (by decide) rfl ?_
    refine v_goto (tgt := 74) dX9_exchange_125 (by decide) ?_
    exact V.pick [3, 4, 5, 0] rfl (hk74 _ _ _ _ _ _ h)
theorem t_X9_exchange_74 {G : jG} {d : Nat} (hd_ : 1 ≤ d)  : ∀ (n : Nat) (v0 : Nat) (v1 : Int32) (v2 : Int32) (v5 : Int32) (M : jM) (b : Unit × jM), l_X9_exchange_74  n v0 v1 v2 v5 M = some b → V G m_X9_exchange d 74 [(0, .ref v0), (1, .int v1), (2, .int v2), (5, .int v5)] [] M (jQb cU b) := by
  intro n
  induction n with
  | zero => intro v0 v1 v2 v5 M b h; exact nomatch (show (none : jO Unit) = some b from h)
  | succ n ih => intro v0 v1 v2 v5 M b h; exact tb_X9_exchange_74 hd_  ih h
def f_X9_exchange (v0 : Nat) (v1 : Int32) (v2 : Int32) (M : jM) : jO Unit :=
  jb2 (jiv 8 M v0 (f_X9_has v0 v1 M)) fun x2 M1 =>
  if x2 = 0 then
    rt () M1
  else
    jb2 (jiv 8 M1 v0 (f_X9_has v0 v2 M1)) fun x4 M3 =>
    if x4 = 0 then
      rt () M3
    else
      (gR 8 M3 v0 1).bind fun r5 =>
      (ldI M3 r5 v1).bind fun x6 =>
      (gR 8 M3 v0 1).bind fun r7 =>
      (gR 8 M3 v0 1).bind fun r8 =>
      (ldI M3 r8 v2).bind fun x9 =>
      (stI M3 r7 v1 x9).bind fun M10 =>
      (gR 8 M10 v0 1).bind fun r11 =>
      (stI M10 r11 v2 x6).bind fun M12 =>
      (gR 8 M12 v0 2).bind fun r13 =>
      (ldI M12 r13 v1).bind fun x14 =>
      (gR 8 M12 v0 2).bind fun r15 =>
      (gR 8 M12 v0 2).bind fun r16 =>
      (ldI M12 r16 v2).bind fun x17 =>
      (stI M12 r15 v1 x17).bind fun M18 =>
      (gR 8 M18 v0 2).bind fun r19 =>
      (stI M18 r19 v2 x14).bind fun M20 =>
      l_X9_exchange_74 jF0 v0 v1 v2 (nI 0) M20
theorem s_X9_exchange {G : jG} {d : Nat} (hd_ : 1 ≤ d) {v0 : Nat} {v1 : Int32} {v2 : Int32} {M : jM} {b : Unit × jM} (h : f_X9_exchange  v0 v1 v2 M = some b) : V G m_X9_exchange d 0 [(0, .ref v0), (1, .int v1), (2, .int v2)] [] M (jQb cU b) := by
  unfold f_X9_exchange at h
  refine v_aload_n dX9_exchange_0 rfl 0 rfl ?_
  refine v_iload_n dX9_exchange_1 rfl 1 rfl ?_
  refine x_inv (cv := cI) (As := [.int v1]) (rest := []) (ls2 := [(0, .ref v0), (1, .int v1)]) (ci := 8) (by omega) dX9_exchange_2 ke_X9_has kv_X9_37 rfl rfl (by decide) (Nat.le_of_ble_eq_true rfl) rfl rfl rfl rfl h (fun _ hq => s_X9_has (by omega) hq) (fun x2 M1 h => ?_)
  refine x_if_eq (tgt := 16) dX9_exchange_5 (by decide) h (fun h => ?_) (fun h => ?_)
  · exact x_vret dX9_exchange_16 rfl h
  · refine v_aload_n dX9_exchange_8 rfl 0 rfl ?_
    refine v_iload_n dX9_exchange_9 rfl 2 rfl ?_
    refine x_inv (cv := cI) (As := [.int v2]) (rest := []) (ls2 := [(0, .ref v0), (1, .int v2)]) (ci := 8) (by omega) dX9_exchange_10 ke_X9_has kv_X9_37 rfl rfl (by decide) (Nat.le_of_ble_eq_true rfl) rfl rfl rfl rfl h (fun _ hq => s_X9_has (by omega) hq) (fun x4 M3 h => ?_)
    refine x_if_ne (tgt := 17) dX9_exchange_13 (by decide) h (fun h => ?_) (fun h => ?_)
    · exact x_vret dX9_exchange_16 rfl h
    · refine v_aload_n dX9_exchange_17 rfl 0 rfl ?_
      refine x_gR dX9_exchange_18 kf_X9_15 rfl h (fun r5 h => ?_)
      refine v_iload_n dX9_exchange_21 rfl 1 rfl ?_
      refine x_ldI dX9_exchange_22 h (fun x6 h => ?_)
      refine v_istore_n (ls2 := [(3, .int x6), (0, .ref v0), (1, .int v1), (2, .int v2)]) dX9_exchange_23 rfl (by decide) rfl ?_
      refine v_aload_n dX9_exchange_24 rfl 1 rfl ?_
      refine x_gR dX9_exchange_25 kf_X9_15 rfl h (fun r7 h => ?_)
      refine v_iload_n dX9_exchange_28 rfl 2 rfl ?_
      refine v_aload_n dX9_exchange_29 rfl 1 rfl ?_
      refine x_gR dX9_exchange_30 kf_X9_15 rfl h (fun r8 h => ?_)
      refine v_iload_n dX9_exchange_33 rfl 3 rfl ?_
      refine x_ldI dX9_exchange_34 h (fun x9 h => ?_)
      refine x_stI dX9_exchange_35 h (fun M10 h => ?_)
      refine v_aload_n dX9_exchange_36 rfl 1 rfl ?_
      refine x_gR dX9_exchange_37 kf_X9_15 rfl h (fun r11 h => ?_)
      refine v_iload_n dX9_exchange_40 rfl 3 rfl ?_
      refine v_iload_n dX9_exchange_41 rfl 0 rfl ?_
      refine x_stI dX9_exchange_42 h (fun M12 h => ?_)
      refine v_aload_n dX9_exchange_43 rfl 1 rfl ?_
      refine x_gR dX9_exchange_44 kf_X9_19 rfl h (fun r13 h => ?_)
      refine v_iload_n dX9_exchange_47 rfl 2 rfl ?_
      refine x_ldI dX9_exchange_48 h (fun x14 h => ?_)
      refine v_istore (ls2 := [(4, .int x14), (3, .int x6), (0, .ref v0), (1, .int v1), (2, .int v2)]) dX9_exchange_49 (by decide) rfl ?_
      refine v_aload_n dX9_exchange_51 rfl 2 rfl ?_
      refine x_gR dX9_exchange_52 kf_X9_19 rfl h (fun r15 h => ?_)
      refine v_iload_n dX9_exchange_55 rfl 3 rfl ?_
      refine v_aload_n dX9_exchange_56 rfl 2 rfl ?_
      refine x_gR dX9_exchange_57 kf_X9_19 rfl h (fun r16 h => ?_)
      refine v_iload_n dX9_exchange_60 rfl 4 rfl ?_
      refine x_ldI dX9_exchange_61 h (fun x17 h => ?_)
      refine x_stI dX9_exchange_62 h (fun M18 h => ?_)
      refine v_aload_n dX9_exchange_63 rfl 2 rfl ?_
      refine x_gR dX9_exchange_64 kf_X9_19 rfl h (fun r19 h => ?_)
      refine v_iload_n dX9_exchange_67 rfl 4 rfl ?_
      refine v_iload dX9_exchange_68 0 rfl ?_
      refine x_stI dX9_exchange_70 h (fun M20 h => ?_)
      refine v_iconst dX9_exchange_71 ic_0 ?_
      refine v_istore (ls2 := [(5, .int (nI 0)), (4, .int x14), (3, .int x6), (0, .ref v0), (1, .int v1), (2, .int v2)]) dX9_exchange_72 (by decide) rfl ?_
      exact V.pick [3, 4, 5, 0] rfl (t_X9_exchange_74 hd_ _ _ _ _ _ _ _ h)
def f_X11_turn (v0 : Nat) (v1 : Int32) (v2 : Int32) (v3 : Int32) (v4 : Int32) (M : jM) : jO Int32 :=
  jb2 (jiv 10 M v0 (f_X11_worldOf v0 v1 M)) fun o2 M1 =>
  jb2 (jiv 10 M1 v0 (f_X11_placeOf v0 v4 M1)) fun o4 M3 =>
  jnl o2 (
    rt (-1 : Int32) M3
    ) fun a5 =>
    jb2 (jiv 8 M3 a5 (f_X9_has a5 v2 M3)) fun x7 M6 =>
    if x7 = 0 then
      rt (-1 : Int32) M6
    else
      jb2 (jiv 8 M6 a5 (f_X9_has a5 v3 M6)) fun x9 M8 =>
      if x9 = 0 then
        rt (-1 : Int32) M8
      else
        jnl o4 (
          rt (-1 : Int32) M8
          ) fun a10 =>
          jb2 (jiv 8 M8 a10 (f_X9_become a10 a5 M8)) fun _ M11 =>
          jb2 (jiv 8 M11 a10 (f_X9_exchange a10 v2 v3 M11)) fun _ M12 =>
          rt (nI 1) M12
theorem s_X11_turn {G : jG} {d : Nat} (hd_ : 2 ≤ d) {v0 : Nat} {v1 : Int32} {v2 : Int32} {v3 : Int32} {v4 : Int32} {M : jM} {b : Int32 × jM} (h : f_X11_turn  v0 v1 v2 v3 v4 M = some b) : V G m_X11_turn d 0 [(0, .ref v0), (1, .int v1), (2, .int v2), (3, .int v3), (4, .int v4)] [] M (jQb cI b) := by
  unfold f_X11_turn at h
  refine v_aload_n dX11_turn_0 rfl 0 rfl ?_
  refine v_iload_n dX11_turn_1 rfl 1 rfl ?_
  refine x_inv (cv := cN) (As := [.int v1]) (rest := []) (ls2 := [(0, .ref v0), (1, .int v1)]) (ci := 10) (by omega) dX11_turn_2 ke_X11_worldOf kv_X11_94 rfl rfl (by decide) (Nat.le_of_ble_eq_true rfl) rfl rfl rfl rfl h (fun _ hq => s_X11_worldOf (by omega) hq) (fun o2 M1 h => ?_)
  refine v_astoreQ (ls2 := [(5, va_rf o2), (0, .ref v0), (1, .int v1), (2, .int v2), (3, .int v3), (4, .int v4)]) dX11_turn_5 (by decide) rfl ?_
  refine v_aload_n dX11_turn_7 rfl 1 rfl ?_
  refine v_iload dX11_turn_8 5 rfl ?_
  refine x_inv (cv := cN) (As := [.int v4]) (rest := []) (ls2 := [(0, .ref v0), (1, .int v4)]) (ci := 10) (by omega) dX11_turn_10 ke_X11_placeOf kv_X11_86 rfl rfl (by decide) (Nat.le_of_ble_eq_true rfl) rfl rfl rfl rfl h (fun _ hq => s_X11_placeOf (by omega) hq) (fun o4 M3 h => ?_)
  refine v_astoreQ (ls2 := [(6, va_rf o4), (5, va_rf o2), (0, .ref v0), (1, .int v1), (2, .int v2), (3, .int v3), (4, .int v4)]) dX11_turn_13 (by decide) (by simp [jst, jcatQ]) ?_
  refine v_aloadQ dX11_turn_15 1 rfl ?_
  cases o2 with
  | none =>
    replace h := x_nN h
    refine v_ifnullN (tgt := 43) dX11_turn_17 (by decide) ?_
    refine v_iconst dX11_turn_43 ic_m1 ?_
    exact x_iret dX11_turn_44 rfl h
  | some a5 =>
    replace h := x_nS h
    refine v_ifnull dX11_turn_17 ?_
    refine v_aload dX11_turn_20 1 rfl ?_
    refine v_iload_n dX11_turn_22 rfl 4 rfl ?_
    refine x_inv (cv := cI) (As := [.int v2]) (rest := []) (ls2 := [(0, .ref a5), (1, .int v2)]) (ci := 8) (by omega) dX11_turn_23 ke_X9_has kv_X11_97 rfl rfl (by decide) (Nat.le_of_ble_eq_true rfl) rfl rfl rfl rfl h (fun _ hq => s_X9_has (by omega) hq) (fun x7 M6 h => ?_)
    refine x_if_eq (tgt := 43) dX11_turn_26 (by decide) h (fun h => ?_) (fun h => ?_)
    · refine v_iconst dX11_turn_43 ic_m1 ?_
      exact x_iret dX11_turn_44 rfl h
    · refine v_aload dX11_turn_29 1 rfl ?_
      refine v_iload_n dX11_turn_31 rfl 5 rfl ?_
      refine x_inv (cv := cI) (As := [.int v3]) (rest := []) (ls2 := [(0, .ref a5), (1, .int v3)]) (ci := 8) (by omega) dX11_turn_32 ke_X9_has kv_X11_97 rfl rfl (by decide) (Nat.le_of_ble_eq_true rfl) rfl rfl rfl rfl h (fun _ hq => s_X9_has (by omega) hq) (fun x9 M8 h => ?_)
      refine x_if_eq (tgt := 43) dX11_turn_35 (by decide) h (fun h => ?_) (fun h => ?_)
      · refine v_iconst dX11_turn_43 ic_m1 ?_
        exact x_iret dX11_turn_44 rfl h
      · refine v_aloadQ dX11_turn_38 0 rfl ?_
        cases o4 with
        | none =>
          replace h := x_nN h
          refine v_ifnonnullN dX11_turn_40 ?_
          refine v_iconst dX11_turn_43 ic_m1 ?_
          exact x_iret dX11_turn_44 rfl h
        | some a10 =>
          replace h := x_nS h
          refine v_ifnonnull (tgt := 45) dX11_turn_40 (by decide) ?_
          refine v_aload dX11_turn_45 0 rfl ?_
          refine v_aload dX11_turn_47 1 rfl ?_
          refine x_inv (cv := cU) (As := [.ref a5]) (rest := []) (ls2 := [(0, .ref a10), (1, .ref a5)]) (ci := 8) (by omega) dX11_turn_49 ke_X9_become kv_X11_108 rfl rfl (by decide) (Nat.le_of_ble_eq_true rfl) rfl rfl rfl rfl h (fun _ hq => s_X9_become (by omega) hq) (fun _ M11 h => ?_)
          refine v_aload dX11_turn_52 0 rfl ?_
          refine v_iload_n dX11_turn_54 rfl 4 rfl ?_
          refine v_iload_n dX11_turn_55 rfl 5 rfl ?_
          refine x_inv (cv := cU) (As := [.int v2, .int v3]) (rest := []) (ls2 := [(0, .ref a10), (1, .int v2), (2, .int v3)]) (ci := 8) (by omega) dX11_turn_56 ke_X9_exchange kv_X11_112 rfl rfl (by decide) (Nat.le_of_ble_eq_true rfl) rfl rfl rfl rfl h (fun _ hq => s_X9_exchange (by omega) hq) (fun _ M12 h => ?_)
          refine v_iconst dX11_turn_59 ic_1 ?_
          exact x_iret dX11_turn_60 rfl h
def f_X9_makeBare (v0 : Nat) (v1 : Int32) (M : jM) : jO Unit :=
  (pI 8 M v0 0 (jmx (nI 0) (jmn v1 (nI 6)))).bind fun M1 =>
  (gR 8 M1 v0 1).bind fun r2 =>
  jb2 (f_J7_fill_53178 r2 (nI 0) M1) fun _ M3 =>
  (gR 8 M3 v0 2).bind fun r4 =>
  jb2 (f_J7_fill_53178 r4 (nI 0) M3) fun _ M5 =>
  rt () M5
theorem s_X9_makeBare {G : jG} {d : Nat} (hd_ : 1 ≤ d) {v0 : Nat} {v1 : Int32} {M : jM} {b : Unit × jM} (h : f_X9_makeBare  v0 v1 M = some b) : V G m_X9_makeBare d 0 [(0, .ref v0), (1, .int v1)] [] M (jQb cU b) := by
  unfold f_X9_makeBare at h
  refine v_aload_n dX9_makeBare_0 rfl 0 rfl ?_
  refine v_iconst dX9_makeBare_1 ic_0 ?_
  refine v_iload_n dX9_makeBare_2 rfl 1 rfl ?_
  refine v_bipush dX9_makeBare_3 bp_6 ?_
  refine v_mmin (by omega) dX9_makeBare_5 kh_X9_22 rfl ?_
  refine v_mmax (by omega) dX9_makeBare_8 kh_X9_28 rfl ?_
  refine x_pI dX9_makeBare_11 kf_X9_9 rfl (fun q => Bool.noConfusion q) h (fun M1 h => ?_)
  refine v_aload_n dX9_makeBare_14 rfl 0 rfl ?_
  refine x_gR dX9_makeBare_15 kf_X9_15 rfl h (fun r2 h => ?_)
  refine v_iconst dX9_makeBare_18 ic_0 ?_
  refine x_invs (cv := cU) (As := [.ref r2, .int (nI 0)]) (rest := []) (ls2 := [(0, .ref r2), (1, .int (nI 0))]) (by omega) dX9_makeBare_19 ke_J7_fill_53178 ks_X9_31 (Nat.le_of_ble_eq_true rfl) rfl rfl rfl rfl h (fun _ hq => s_J7_fill_53178 (by omega) hq) (fun _ M3 h => ?_)
  refine v_aload_n dX9_makeBare_22 rfl 0 rfl ?_
  refine x_gR dX9_makeBare_23 kf_X9_19 rfl h (fun r4 h => ?_)
  refine v_iconst dX9_makeBare_26 ic_0 ?_
  refine x_invs (cv := cU) (As := [.ref r4, .int (nI 0)]) (rest := []) (ls2 := [(0, .ref r4), (1, .int (nI 0))]) (by omega) dX9_makeBare_27 ke_J7_fill_53178 ks_X9_31 (Nat.le_of_ble_eq_true rfl) rfl rfl rfl rfl h (fun _ hq => s_J7_fill_53178 (by omega) hq) (fun _ M5 h => ?_)
  exact x_vret dX9_makeBare_30 rfl h
def f_X11_world (v0 : Nat) (v1 : Int32) (v2 : Int32) (M : jM) : jO Int32 :=
  jb2 (jiv 10 M v0 (f_X11_placeOf v0 v1 M)) fun o2 M1 =>
  jnl o2 (
    rt (-1 : Int32) M1
    ) fun a3 =>
    if v2 < (nI 1) then
      rt (-2 : Int32) M1
    else
      if v2 ≤ (nI 6) then
        jb2 (jiv 8 M1 a3 (f_X9_makeBare a3 v2 M1)) fun _ M4 =>
        rt v2 M4
      else
        rt (-2 : Int32) M1
theorem s_X11_world {G : jG} {d : Nat} (hd_ : 2 ≤ d) {v0 : Nat} {v1 : Int32} {v2 : Int32} {M : jM} {b : Int32 × jM} (h : f_X11_world  v0 v1 v2 M = some b) : V G m_X11_world d 0 [(0, .ref v0), (1, .int v1), (2, .int v2)] [] M (jQb cI b) := by
  unfold f_X11_world at h
  refine v_aload_n dX11_world_0 rfl 0 rfl ?_
  refine v_iload_n dX11_world_1 rfl 1 rfl ?_
  refine x_inv (cv := cN) (As := [.int v1]) (rest := []) (ls2 := [(0, .ref v0), (1, .int v1)]) (ci := 10) (by omega) dX11_world_2 ke_X11_placeOf kv_X11_86 rfl rfl (by decide) (Nat.le_of_ble_eq_true rfl) rfl rfl rfl rfl h (fun _ hq => s_X11_placeOf (by omega) hq) (fun o2 M1 h => ?_)
  refine v_astore_nQ (ls2 := [(3, va_rf o2), (0, .ref v0), (1, .int v1), (2, .int v2)]) dX11_world_5 rfl (by decide) rfl ?_
  refine v_aload_nQ dX11_world_6 rfl 0 rfl ?_
  cases o2 with
  | none =>
    replace h := x_nN h
    refine v_ifnonnullN dX11_world_7 ?_
    refine v_iconst dX11_world_10 ic_m1 ?_
    exact x_iret dX11_world_11 rfl h
  | some a3 =>
    replace h := x_nS h
    refine v_ifnonnull (tgt := 12) dX11_world_7 (by decide) ?_
    refine v_iload_n dX11_world_12 rfl 3 rfl ?_
    refine v_iconst dX11_world_13 ic_1 ?_
    refine x_ic_lt (tgt := 23) dX11_world_14 (by decide) h (fun h => ?_) (fun h => ?_)
    · refine v_bipush dX11_world_23 bp_m2 ?_
      exact x_iret dX11_world_25 rfl h
    · refine v_iload_n dX11_world_17 rfl 3 rfl ?_
      refine v_bipush dX11_world_18 bp_6 ?_
      refine x_ic_le (tgt := 26) dX11_world_20 (by decide) h (fun h => ?_) (fun h => ?_)
      · refine v_aload_n dX11_world_26 rfl 0 rfl ?_
        refine v_iload_n dX11_world_27 rfl 3 rfl ?_
        refine x_inv (cv := cU) (As := [.int v2]) (rest := []) (ls2 := [(0, .ref a3), (1, .int v2)]) (ci := 8) (by omega) dX11_world_28 ke_X9_makeBare kv_X11_90 rfl rfl (by decide) (Nat.le_of_ble_eq_true rfl) rfl rfl rfl rfl h (fun _ hq => s_X9_makeBare (by omega) hq) (fun _ M4 h => ?_)
        refine v_iload_n dX11_world_31 rfl 3 rfl ?_
        exact x_iret dX11_world_32 rfl h
      · refine v_bipush dX11_world_23 bp_m2 ?_
        exact x_iret dX11_world_25 rfl h
def f_X11_written (v0 : Nat) (v1 : Int32) (v2 : Int32) (M : jM) : jO Int32 :=
  jb2 (jiv 10 M v0 (f_X11_sentenceOf v0 v1 M)) fun o2 M1 =>
  jnl o2 (
    rt (-1 : Int32) M1
    ) fun a3 =>
    jb2 (jiv 6 M1 a3 (f_X7_text a3 M1)) fun r5 M4 =>
    if v2 < 0 then
      rt (-1 : Int32) M4
    else
      (ln M4 r5).bind fun x6 =>
      if x6 ≤ v2 then
        rt (-1 : Int32) M4
      else
        (ldB M4 r5 v2).bind fun x7 =>
        rt x7 M4
theorem s_X11_written {G : jG} {d : Nat} (hd_ : 1 ≤ d) {v0 : Nat} {v1 : Int32} {v2 : Int32} {M : jM} {b : Int32 × jM} (h : f_X11_written  v0 v1 v2 M = some b) : V G m_X11_written d 0 [(0, .ref v0), (1, .int v1), (2, .int v2)] [] M (jQb cI b) := by
  unfold f_X11_written at h
  refine v_aload_n dX11_written_0 rfl 0 rfl ?_
  refine v_iload_n dX11_written_1 rfl 1 rfl ?_
  refine x_inv (cv := cN) (As := [.int v1]) (rest := []) (ls2 := [(0, .ref v0), (1, .int v1)]) (ci := 10) (by omega) dX11_written_2 ke_X11_sentenceOf kv_X11_188 rfl rfl (by decide) (Nat.le_of_ble_eq_true rfl) rfl rfl rfl rfl h (fun _ hq => s_X11_sentenceOf (by omega) hq) (fun o2 M1 h => ?_)
  refine v_astore_nQ (ls2 := [(3, va_rf o2), (0, .ref v0), (1, .int v1), (2, .int v2)]) dX11_written_5 rfl (by decide) rfl ?_
  refine v_aload_nQ dX11_written_6 rfl 0 rfl ?_
  cases o2 with
  | none =>
    replace h := x_nN h
    refine v_ifnonnullN dX11_written_7 ?_
    refine v_iconst dX11_written_10 ic_m1 ?_
    exact x_iret dX11_written_11 rfl h
  | some a3 =>
    replace h := x_nS h
    refine v_ifnonnull (tgt := 12) dX11_written_7 (by decide) ?_
    refine v_aload_n dX11_written_12 rfl 0 rfl ?_
    refine x_inv (cv := cR) (As := []) (rest := []) (ls2 := [(0, .ref a3)]) (ci := 6) (by omega) dX11_written_13 ke_X7_text kv_X11_198 rfl rfl (by decide) (Nat.le_of_ble_eq_true rfl) rfl rfl rfl rfl h (fun _ hq => s_X7_text (by omega) hq) (fun r5 M4 h => ?_)
    refine v_astore (ls2 := [(4, .ref r5), (3, .ref a3), (0, .ref v0), (1, .int v1), (2, .int v2)]) dX11_written_16 (by decide) rfl ?_
    refine v_iload_n dX11_written_18 rfl 4 rfl ?_
    refine x_if_lt (tgt := 36) dX11_written_19 (by decide) h (fun h => ?_) (fun h => ?_)
    · refine v_iconst dX11_written_36 ic_m1 ?_
      exact x_iret dX11_written_37 rfl h
    · refine v_iload_n dX11_written_22 rfl 4 rfl ?_
      refine v_aload dX11_written_23 0 rfl ?_
      refine x_ln dX11_written_25 h (fun x6 h => ?_)
      refine x_ic_ge (tgt := 36) dX11_written_26 (by decide) h (fun h => ?_) (fun h => ?_)
      · refine v_iconst dX11_written_36 ic_m1 ?_
        exact x_iret dX11_written_37 rfl h
      · refine v_aload dX11_written_29 0 rfl ?_
        refine v_iload_n dX11_written_31 rfl 4 rfl ?_
        refine x_ldB dX11_written_32 h (fun x7 h => ?_)
        refine v_goto (tgt := 37) dX11_written_33 (by decide) ?_
        exact x_iret dX11_written_37 rfl h
def b_X12_bits_4  (k4 : Int32 → Int32 → Int32 → jM → jO Int32) (v0 : Int32) (v1 : Int32) (v2 : Int32) (M : jM) : jO Int32 :=
  if (nI 6) ≤ v2 then
    rt v1 M
  else
    (jv (v1 + ((v0 >>> (v2 &&& 31)) &&& (nI 1)))).bind fun y1 =>
    k4 v0 y1 (v2 + (nI 1)) M
def l_X12_bits_4  : Nat → Int32 → Int32 → Int32 → jM → jO Int32
  | 0 => fun _ _ _ _ => none
  | n + 1 => b_X12_bits_4  (l_X12_bits_4  n)
theorem tb_X12_bits_4 {G : jG} {d : Nat} (hd_ : 0 ≤ d)  {k4 : Int32 → Int32 → Int32 → jM → jO Int32} (hk4 : ∀ (w0 : Int32) (w1 : Int32) (w2 : Int32) (M : jM) (b : Int32 × jM), k4 w0 w1 w2 M = some b → V G m_X12_bits d 4 [(0, .int w0), (1, .int w1), (2, .int w2)] [] M (jQb cI b)) {v0 : Int32} {v1 : Int32} {v2 : Int32} {M : jM} {b : Int32 × jM} (h : b_X12_bits_4  k4 v0 v1 v2 M = some b) : V G m_X12_bits d 4 [(0, .int v0), (1, .int v1), (2, .int v2)] [] M (jQb cI b) := by
  unfold b_X12_bits_4 at h
  refine v_iload_n dX12_bits_4 rfl 2 rfl ?_
  refine v_bipush dX12_bits_5 bp_6 ?_
  refine x_ic_ge (tgt := 24) dX12_bits_7 (by decide) h (fun h => ?_) (fun h => ?_)
  · refine v_iload_n dX12_bits_24 rfl 1 rfl ?_
    exact x_iret dX12_bits_25 rfl h
  · refine v_iload_n dX12_bits_10 rfl 1 rfl ?_
    refine v_iload_n dX12_bits_11 rfl 0 rfl ?_
    refine v_iload_n dX12_bits_12 rfl 2 rfl ?_
    refine v_ishr dX12_bits_13 ?_
    refine v_iconst dX12_bits_14 ic_1 ?_
    refine v_iand dX12_bits_15 ?_
    refine v_iadd dX12_bits_16 ?_
    refine x_jvI h (fun y1 h => ?_)
    refine v_istore_n (ls2 := [(1, .int y1), (0, .int v0), (2, .int v2)]) dX12_bits_17 rfl (by decide) rfl ?_
    refine v_iincC (ls2 := [(2, .int (v2 + (nI 1))), (1, .int y1), (0, .int v0)]) dX12_bits_18 ic_1 2 rfl (by decide) rfl ?_
    refine v_goto (tgt := 4) dX12_bits_21 (by decide) ?_
    exact V.pick [2, 1, 0] rfl (hk4 _ _ _ _ _ h)
theorem t_X12_bits_4 {G : jG} {d : Nat} (hd_ : 0 ≤ d)  : ∀ (n : Nat) (v0 : Int32) (v1 : Int32) (v2 : Int32) (M : jM) (b : Int32 × jM), l_X12_bits_4  n v0 v1 v2 M = some b → V G m_X12_bits d 4 [(0, .int v0), (1, .int v1), (2, .int v2)] [] M (jQb cI b) := by
  intro n
  induction n with
  | zero => intro v0 v1 v2 M b h; exact nomatch (show (none : jO Int32) = some b from h)
  | succ n ih => intro v0 v1 v2 M b h; exact tb_X12_bits_4 hd_  ih h
def f_X12_bits (v0 : Int32) (M : jM) : jO Int32 :=
  l_X12_bits_4 jF0 v0 (nI 0) (nI 0) M
theorem s_X12_bits {G : jG} {d : Nat} (hd_ : 0 ≤ d) {v0 : Int32} {M : jM} {b : Int32 × jM} (h : f_X12_bits  v0 M = some b) : V G m_X12_bits d 0 [(0, .int v0)] [] M (jQb cI b) := by
  unfold f_X12_bits at h
  refine v_iconst dX12_bits_0 ic_0 ?_
  refine v_istore_n (ls2 := [(1, .int (nI 0)), (0, .int v0)]) dX12_bits_1 rfl (by decide) rfl ?_
  refine v_iconst dX12_bits_2 ic_0 ?_
  refine v_istore_n (ls2 := [(2, .int (nI 0)), (1, .int (nI 0)), (0, .int v0)]) dX12_bits_3 rfl (by decide) rfl ?_
  exact V.pick [2, 1, 0] rfl (t_X12_bits_4 hd_ _ _ _ _ _ _ h)
def f_X12_in (v0 : Int32) (v1 : Int32) (v2 : Int32) (M : jM) : jO Int32 :=
  if v0 < v1 then
    rZ (nI 0) M
  else
    if v2 < v0 then
      rZ (nI 0) M
    else
      rZ (nI 1) M
theorem s_X12_in {G : jG} {d : Nat} (hd_ : 0 ≤ d) {v0 : Int32} {v1 : Int32} {v2 : Int32} {M : jM} {b : Int32 × jM} (h : f_X12_in  v0 v1 v2 M = some b) : V G m_X12_in d 0 [(0, .int v0), (1, .int v1), (2, .int v2)] [] M (jQb cI b) := by
  unfold f_X12_in at h
  refine v_iload_n dX12_in_0 rfl 0 rfl ?_
  refine v_iload_n dX12_in_1 rfl 1 rfl ?_
  refine x_ic_lt (tgt := 14) dX12_in_2 (by decide) h (fun h => ?_) (fun h => ?_)
  · refine v_iconst dX12_in_14 ic_0 ?_
    exact x_zret dX12_in_15 rfl h
  · refine v_iload_n dX12_in_5 rfl 0 rfl ?_
    refine v_iload_n dX12_in_6 rfl 2 rfl ?_
    refine x_ic_gt (tgt := 14) dX12_in_7 (by decide) h (fun h => ?_) (fun h => ?_)
    · refine v_iconst dX12_in_14 ic_0 ?_
      exact x_zret dX12_in_15 rfl h
    · refine v_iconst dX12_in_10 ic_1 ?_
      refine v_goto (tgt := 15) dX12_in_11 (by decide) ?_
      exact x_zret dX12_in_15 rfl h
def f_X12_noPlace (v0 : Int32) (M : jM) : jO Int32 :=
  jb2 (f_X12_in v0 (nI 0) (nI 5) M) fun x2 M1 =>
  if x2 = 0 then
    rZ (nI 1) M1
  else
    rZ (nI 0) M1
theorem s_X12_noPlace {G : jG} {d : Nat} (hd_ : 1 ≤ d) {v0 : Int32} {M : jM} {b : Int32 × jM} (h : f_X12_noPlace  v0 M = some b) : V G m_X12_noPlace d 0 [(0, .int v0)] [] M (jQb cI b) := by
  unfold f_X12_noPlace at h
  refine v_iload_n dX12_noPlace_0 rfl 0 rfl ?_
  refine v_iconst dX12_noPlace_1 ic_0 ?_
  refine v_iconst dX12_noPlace_2 ic_5 ?_
  refine x_invs (cv := cI) (As := [.int v0, .int (nI 0), .int (nI 5)]) (rest := []) (ls2 := [(0, .int v0), (1, .int (nI 0)), (2, .int (nI 5))]) (by omega) dX12_noPlace_3 ke_X12_in ks_X12_133 (Nat.le_of_ble_eq_true rfl) rfl rfl rfl rfl h (fun _ hq => s_X12_in (by omega) hq) (fun x2 M1 h => ?_)
  refine x_if_ne (tgt := 13) dX12_noPlace_6 (by decide) h (fun h => ?_) (fun h => ?_)
  · refine v_iconst dX12_noPlace_9 ic_1 ?_
    refine v_goto (tgt := 14) dX12_noPlace_10 (by decide) ?_
    exact x_zret dX12_noPlace_14 rfl h
  · refine v_iconst dX12_noPlace_13 ic_0 ?_
    exact x_zret dX12_noPlace_14 rfl h
def j_X12_noWorld_16   (M : jM) : jO Int32 :=
  rZ (nI 1) M
theorem t_X12_noWorld_16 {G : jG} {d : Nat} (hd_ : 2 ≤ d)   {M : jM} {b : Int32 × jM} (h : j_X12_noWorld_16   M = some b) : V G m_X12_noWorld d 16 [] [] M (jQb cI b) := by
  unfold j_X12_noWorld_16 at h
  refine v_iconst dX12_noWorld_16 ic_1 ?_
  refine v_goto (tgt := 21) dX12_noWorld_17 (by decide) ?_
  exact x_zret dX12_noWorld_21 rfl h
def f_X12_noWorld (v0 : Nat) (v1 : Int32) (M : jM) : jO Int32 :=
  jb2 (f_X12_noPlace v1 M) fun x2 M1 =>
  if x2 = 0 then
    (gR 11 M1 v0 0).bind fun r3 =>
    (ldI M1 r3 v1).bind fun x4 =>
    if x4 = 0 then
      j_X12_noWorld_16 M1
    else
      rZ (nI 0) M1
  else
    j_X12_noWorld_16 M1
theorem s_X12_noWorld {G : jG} {d : Nat} (hd_ : 2 ≤ d) {v0 : Nat} {v1 : Int32} {M : jM} {b : Int32 × jM} (h : f_X12_noWorld  v0 v1 M = some b) : V G m_X12_noWorld d 0 [(0, .ref v0), (1, .int v1)] [] M (jQb cI b) := by
  unfold f_X12_noWorld at h
  refine v_iload_n dX12_noWorld_0 rfl 1 rfl ?_
  refine x_invs (cv := cI) (As := [.int v1]) (rest := []) (ls2 := [(0, .int v1)]) (by omega) dX12_noWorld_1 ke_X12_noPlace ks_X12_137 (Nat.le_of_ble_eq_true rfl) rfl rfl rfl rfl h (fun _ hq => s_X12_noPlace (by omega) hq) (fun x2 M1 h => ?_)
  refine x_if_ne (tgt := 16) dX12_noWorld_4 (by decide) h (fun h => ?_) (fun h => ?_)
  · refine v_aload_n dX12_noWorld_7 rfl 0 rfl ?_
    refine x_gR dX12_noWorld_8 kf_X12_7 rfl h (fun r3 h => ?_)
    refine v_iload_n dX12_noWorld_11 rfl 1 rfl ?_
    refine x_ldI dX12_noWorld_12 h (fun x4 h => ?_)
    refine x_if_ne (tgt := 20) dX12_noWorld_13 (by decide) h (fun h => ?_) (fun h => ?_)
    · exact V.pick [] rfl (t_X12_noWorld_16 hd_ h)
    · refine v_iconst dX12_noWorld_20 ic_0 ?_
      exact x_zret dX12_noWorld_21 rfl h
  · exact V.pick [] rfl (t_X12_noWorld_16 hd_ h)
def j_X12_about_121 (k60 : Nat → Int32 → Int32 → Int32 → Int32 → jM → jO Int32) (v0 : Nat) (v1 : Int32) (v2 : Int32) (v4 : Int32) (s0 : Int32) (s1 : Int32) (M : jM) : jO Int32 :=
  (jv (s0 + s1)).bind fun y1 =>
  k60 v0 v1 v2 y1 (v4 + (nI 1)) M
theorem t_X12_about_121 {G : jG} {d : Nat} (hd_ : 3 ≤ d) {k60 : Nat → Int32 → Int32 → Int32 → Int32 → jM → jO Int32} (hk60 : ∀ (w0 : Nat) (w1 : Int32) (w2 : Int32) (w3 : Int32) (w4 : Int32) (M : jM) (b : Int32 × jM), k60 w0 w1 w2 w3 w4 M = some b → V G m_X12_about d 60 [(0, .ref w0), (1, .int w1), (2, .int w2), (3, .int w3), (4, .int w4)] [] M (jQb cI b)) {v0 : Nat} {v1 : Int32} {v2 : Int32} {v4 : Int32} {s0 : Int32} {s1 : Int32} {M : jM} {b : Int32 × jM} (h : j_X12_about_121 k60 v0 v1 v2 v4 s0 s1 M = some b) : V G m_X12_about d 121 [(0, .ref v0), (1, .int v1), (2, .int v2), (4, .int v4)] [.int s1, .int s0] M (jQb cI b) := by
  unfold j_X12_about_121 at h
  refine v_iadd dX12_about_121 ?_
  refine x_jvI h (fun y1 h => ?_)
  refine v_istore_n (ls2 := [(3, .int y1), (0, .ref v0), (1, .int v1), (2, .int v2), (4, .int v4)]) dX12_about_122 rfl (by decide) rfl ?_
  refine v_iincC (ls2 := [(4, .int (v4 + (nI 1))), (3, .int y1), (0, .ref v0), (1, .int v1), (2, .int v2)]) dX12_about_123 ic_1 4 rfl (by decide) rfl ?_
  refine v_goto (tgt := 60) dX12_about_126 (by decide) ?_
  exact V.pick [2, 3, 4, 1, 0] rfl (hk60 _ _ _ _ _ _ _ h)
def b_X12_about_60  (k60 : Nat → Int32 → Int32 → Int32 → Int32 → jM → jO Int32) (v0 : Nat) (v1 : Int32) (v2 : Int32) (v3 : Int32) (v4 : Int32) (M : jM) : jO Int32 :=
  (gR 11 M v0 0).bind fun r1 =>
  (ldI M r1 v1).bind fun x2 =>
  if x2 ≤ v4 then
    rt v3 M
  else
    if v2 = 0 then
      j_X12_about_121 k60 v0 v1 v2 v4 v3 (nI 1) M
    else
      if v2 = (nI 3) then
        (gR 11 M v0 2).bind fun r3 =>
        (ldI M r3 (((nI 6) * v1) + v4)).bind fun x4 =>
        jb2 (f_X12_bits x4 M) fun x6 M5 =>
        j_X12_about_121 k60 v0 v1 v2 v4 v3 x6 M5
      else
        (gR 11 M v0 1).bind fun r7 =>
        (ldI M r7 (((nI 6) * v1) + v4)).bind fun x8 =>
        j_X12_about_121 k60 v0 v1 v2 v4 v3 ((x8 >>> ((v2 - (nI 1)) &&& 31)) &&& (nI 1)) M
def l_X12_about_60  : Nat → Nat → Int32 → Int32 → Int32 → Int32 → jM → jO Int32
  | 0 => fun _ _ _ _ _ _ => none
  | n + 1 => b_X12_about_60  (l_X12_about_60  n)
theorem tb_X12_about_60 {G : jG} {d : Nat} (hd_ : 3 ≤ d)  {k60 : Nat → Int32 → Int32 → Int32 → Int32 → jM → jO Int32} (hk60 : ∀ (w0 : Nat) (w1 : Int32) (w2 : Int32) (w3 : Int32) (w4 : Int32) (M : jM) (b : Int32 × jM), k60 w0 w1 w2 w3 w4 M = some b → V G m_X12_about d 60 [(0, .ref w0), (1, .int w1), (2, .int w2), (3, .int w3), (4, .int w4)] [] M (jQb cI b)) {v0 : Nat} {v1 : Int32} {v2 : Int32} {v3 : Int32} {v4 : Int32} {M : jM} {b : Int32 × jM} (h : b_X12_about_60  k60 v0 v1 v2 v3 v4 M = some b) : V G m_X12_about d 60 [(0, .ref v0), (1, .int v1), (2, .int v2), (3, .int v3), (4, .int v4)] [] M (jQb cI b) := by
  unfold b_X12_about_60 at h
  refine v_iload dX12_about_60 4 rfl ?_
  refine v_aload_n dX12_about_62 rfl 0 rfl ?_
  refine x_gR dX12_about_63 kf_X12_7 rfl h (fun r1 h => ?_)
  refine v_iload_n dX12_about_66 rfl 1 rfl ?_
  refine x_ldI dX12_about_67 h (fun x2 h => ?_)
  refine x_ic_ge (tgt := 129) dX12_about_68 (by decide) h (fun h => ?_) (fun h => ?_)
  · refine v_iload_n dX12_about_129 rfl 3 rfl ?_
    exact x_iret dX12_about_130 rfl h
  · refine v_iload_n dX12_about_71 rfl 3 rfl ?_
    refine v_iload_n dX12_about_72 rfl 2 rfl ?_
    refine x_if_ne (tgt := 80) dX12_about_73 (by decide) h (fun h => ?_) (fun h => ?_)
    · refine v_iconst dX12_about_76 ic_1 ?_
      refine v_goto (tgt := 121) dX12_about_77 (by decide) ?_
      exact V.pick [0, 1, 2, 4] rfl (t_X12_about_121 hd_ hk60 h)
    · refine v_iload_n dX12_about_80 rfl 2 rfl ?_
      refine v_iconst dX12_about_81 ic_3 ?_
      refine x_ic_ne (tgt := 103) dX12_about_82 (by decide) h (fun h => ?_) (fun h => ?_)
      · refine v_aload_n dX12_about_85 rfl 0 rfl ?_
        refine x_gR dX12_about_86 kf_X12_16 rfl h (fun r3 h => ?_)
        refine v_bipush dX12_about_89 bp_6 ?_
        refine v_iload_n dX12_about_91 rfl 1 rfl ?_
        refine v_imul dX12_about_92 ?_
        refine v_iload dX12_about_93 4 rfl ?_
        refine v_iadd dX12_about_95 ?_
        refine x_ldI dX12_about_96 h (fun x4 h => ?_)
        refine x_invs (cv := cI) (As := [.int x4]) (rest := [.int v3]) (ls2 := [(0, .int x4)]) (by omega) dX12_about_97 ke_X12_bits ks_X12_159 (Nat.le_of_ble_eq_true rfl) rfl rfl rfl rfl h (fun _ hq => s_X12_bits (by omega) hq) (fun x6 M5 h => ?_)
        refine v_goto (tgt := 121) dX12_about_100 (by decide) ?_
        exact V.pick [0, 1, 2, 4] rfl (t_X12_about_121 hd_ hk60 h)
      · refine v_aload_n dX12_about_103 rfl 0 rfl ?_
        refine x_gR dX12_about_104 kf_X12_13 rfl h (fun r7 h => ?_)
        refine v_bipush dX12_about_107 bp_6 ?_
        refine v_iload_n dX12_about_109 rfl 1 rfl ?_
        refine v_imul dX12_about_110 ?_
        refine v_iload dX12_about_111 4 rfl ?_
        refine v_iadd dX12_about_113 ?_
        refine x_ldI dX12_about_114 h (fun x8 h => ?_)
        refine v_iload_n dX12_about_115 rfl 2 rfl ?_
        refine v_iconst dX12_about_116 ic_1 ?_
        refine v_isub dX12_about_117 ?_
        refine v_ishr dX12_about_118 ?_
        refine v_iconst dX12_about_119 ic_1 ?_
        refine v_iand dX12_about_120 ?_
        exact V.pick [0, 1, 2, 4] rfl (t_X12_about_121 hd_ hk60 h)
theorem t_X12_about_60 {G : jG} {d : Nat} (hd_ : 3 ≤ d)  : ∀ (n : Nat) (v0 : Nat) (v1 : Int32) (v2 : Int32) (v3 : Int32) (v4 : Int32) (M : jM) (b : Int32 × jM), l_X12_about_60  n v0 v1 v2 v3 v4 M = some b → V G m_X12_about d 60 [(0, .ref v0), (1, .int v1), (2, .int v2), (3, .int v3), (4, .int v4)] [] M (jQb cI b) := by
  intro n
  induction n with
  | zero => intro v0 v1 v2 v3 v4 M b h; exact nomatch (show (none : jO Int32) = some b from h)
  | succ n ih => intro v0 v1 v2 v3 v4 M b h; exact tb_X12_about_60 hd_  ih h
def f_X12_about (v0 : Nat) (v1 : Int32) (v2 : Int32) (M : jM) : jO Int32 :=
  jb2 (jiv 11 M v0 (f_X12_noWorld v0 v1 M)) fun x2 M1 =>
  if x2 = 0 then
    (gR 11 M1 v0 0).bind fun r3 =>
    (ldI M1 r3 v1).bind fun x4 =>
    jb2 (f_X12_in v2 (nI 10) ((nI 9) + x4) M1) fun x6 M5 =>
    if x6 = 0 then
      jb2 (f_X12_in v2 (nI 0) (nI 3) M5) fun x8 M7 =>
      if x8 = 0 then
        rt (-2 : Int32) M7
      else
        l_X12_about_60 jF0 v0 v1 v2 (nI 0) (nI 0) M7
    else
      (gR 11 M5 v0 1).bind fun r9 =>
      (ldI M5 r9 ((((nI 6) * v1) + v2) - (nI 10))).bind fun x10 =>
      rt x10 M5
  else
    rt (-1 : Int32) M1
theorem s_X12_about {G : jG} {d : Nat} (hd_ : 3 ≤ d) {v0 : Nat} {v1 : Int32} {v2 : Int32} {M : jM} {b : Int32 × jM} (h : f_X12_about  v0 v1 v2 M = some b) : V G m_X12_about d 0 [(0, .ref v0), (1, .int v1), (2, .int v2)] [] M (jQb cI b) := by
  unfold f_X12_about at h
  refine v_aload_n dX12_about_0 rfl 0 rfl ?_
  refine v_iload_n dX12_about_1 rfl 1 rfl ?_
  refine x_inv (cv := cI) (As := [.int v1]) (rest := []) (ls2 := [(0, .ref v0), (1, .int v1)]) (ci := 11) (by omega) dX12_about_2 ke_X12_noWorld kv_X12_141 rfl rfl (by decide) (Nat.le_of_ble_eq_true rfl) rfl rfl rfl rfl h (fun _ hq => s_X12_noWorld (by omega) hq) (fun x2 M1 h => ?_)
  refine x_if_eq (tgt := 10) dX12_about_5 (by decide) h (fun h => ?_) (fun h => ?_)
  · refine v_iload_n dX12_about_10 rfl 2 rfl ?_
    refine v_bipush dX12_about_11 bp_10 ?_
    refine v_bipush dX12_about_13 bp_9 ?_
    refine v_aload_n dX12_about_15 rfl 0 rfl ?_
    refine x_gR dX12_about_16 kf_X12_7 rfl h (fun r3 h => ?_)
    refine v_iload_n dX12_about_19 rfl 1 rfl ?_
    refine x_ldI dX12_about_20 h (fun x4 h => ?_)
    refine v_iadd dX12_about_21 ?_
    refine x_invs (cv := cI) (As := [.int v2, .int (nI 10), .int ((nI 9) + x4)]) (rest := []) (ls2 := [(0, .int v2), (1, .int (nI 10)), (2, .int ((nI 9) + x4))]) (by omega) dX12_about_22 ke_X12_in ks_X12_133 (Nat.le_of_ble_eq_true rfl) rfl rfl rfl rfl h (fun _ hq => s_X12_in (by omega) hq) (fun x6 M5 h => ?_)
    refine x_if_eq (tgt := 43) dX12_about_25 (by decide) h (fun h => ?_) (fun h => ?_)
    · refine v_iload_n dX12_about_43 rfl 2 rfl ?_
      refine v_iconst dX12_about_44 ic_0 ?_
      refine v_iconst dX12_about_45 ic_3 ?_
      refine x_invs (cv := cI) (As := [.int v2, .int (nI 0), .int (nI 3)]) (rest := []) (ls2 := [(0, .int v2), (1, .int (nI 0)), (2, .int (nI 3))]) (by omega) dX12_about_46 ke_X12_in ks_X12_133 (Nat.le_of_ble_eq_true rfl) rfl rfl rfl rfl h (fun _ hq => s_X12_in (by omega) hq) (fun x8 M7 h => ?_)
      refine x_if_ne (tgt := 55) dX12_about_49 (by decide) h (fun h => ?_) (fun h => ?_)
      · refine v_bipush dX12_about_52 bp_m2 ?_
        exact x_iret dX12_about_54 rfl h
      · refine v_iconst dX12_about_55 ic_0 ?_
        refine v_istore_n (ls2 := [(3, .int (nI 0)), (0, .ref v0), (1, .int v1), (2, .int v2)]) dX12_about_56 rfl (by decide) rfl ?_
        refine v_iconst dX12_about_57 ic_0 ?_
        refine v_istore (ls2 := [(4, .int (nI 0)), (3, .int (nI 0)), (0, .ref v0), (1, .int v1), (2, .int v2)]) dX12_about_58 (by decide) rfl ?_
        exact V.pick [2, 3, 4, 1, 0] rfl (t_X12_about_60 hd_ _ _ _ _ _ _ _ _ h)
    · refine v_aload_n dX12_about_28 rfl 0 rfl ?_
      refine x_gR dX12_about_29 kf_X12_13 rfl h (fun r9 h => ?_)
      refine v_bipush dX12_about_32 bp_6 ?_
      refine v_iload_n dX12_about_34 rfl 1 rfl ?_
      refine v_imul dX12_about_35 ?_
      refine v_iload_n dX12_about_36 rfl 2 rfl ?_
      refine v_iadd dX12_about_37 ?_
      refine v_bipush dX12_about_38 bp_10 ?_
      refine v_isub dX12_about_40 ?_
      refine x_ldI dX12_about_41 h (fun x10 h => ?_)
      exact x_iret dX12_about_42 rfl h
  · refine v_iconst dX12_about_8 ic_m1 ?_
    exact x_iret dX12_about_9 rfl h
def f_X12_isTied (v0 : Nat) (v1 : Int32) (v2 : Int32) (v3 : Int32) (M : jM) : jO Int32 :=
  (gR 11 M v0 2).bind fun r1 =>
  (ldI M r1 (((nI 6) * v1) + v2)).bind fun x2 =>
  if ((x2 >>> (v3 &&& 31)) &&& (nI 1)) = (nI 1) then
    rZ (nI 1) M
  else
    rZ (nI 0) M
theorem s_X12_isTied {G : jG} {d : Nat} (hd_ : 0 ≤ d) {v0 : Nat} {v1 : Int32} {v2 : Int32} {v3 : Int32} {M : jM} {b : Int32 × jM} (h : f_X12_isTied  v0 v1 v2 v3 M = some b) : V G m_X12_isTied d 0 [(0, .ref v0), (1, .int v1), (2, .int v2), (3, .int v3)] [] M (jQb cI b) := by
  unfold f_X12_isTied at h
  refine v_aload_n dX12_isTied_0 rfl 0 rfl ?_
  refine x_gR dX12_isTied_1 kf_X12_16 rfl h (fun r1 h => ?_)
  refine v_bipush dX12_isTied_4 bp_6 ?_
  refine v_iload_n dX12_isTied_6 rfl 1 rfl ?_
  refine v_imul dX12_isTied_7 ?_
  refine v_iload_n dX12_isTied_8 rfl 2 rfl ?_
  refine v_iadd dX12_isTied_9 ?_
  refine x_ldI dX12_isTied_10 h (fun x2 h => ?_)
  refine v_iload_n dX12_isTied_11 rfl 3 rfl ?_
  refine v_ishr dX12_isTied_12 ?_
  refine v_iconst dX12_isTied_13 ic_1 ?_
  refine v_iand dX12_isTied_14 ?_
  refine v_iconst dX12_isTied_15 ic_1 ?_
  refine x_ic_ne (tgt := 23) dX12_isTied_16 (by decide) h (fun h => ?_) (fun h => ?_)
  · refine v_iconst dX12_isTied_19 ic_1 ?_
    refine v_goto (tgt := 24) dX12_isTied_20 (by decide) ?_
    exact x_zret dX12_isTied_24 rfl h
  · refine v_iconst dX12_isTied_23 ic_0 ?_
    exact x_zret dX12_isTied_24 rfl h
def j_X12_isPlaceAlike_192 (k49 : Nat → Int32 → Int32 → Int32 → jM → jO Int32) (v0 : Nat) (v1 : Int32) (v3 : Int32) (s0 : Int32) (M : jM) : jO Int32 :=
  k49 v0 v1 s0 (v3 + (nI 1)) M
theorem t_X12_isPlaceAlike_192 {G : jG} {d : Nat} (hd_ : 1 ≤ d) {k49 : Nat → Int32 → Int32 → Int32 → jM → jO Int32} (hk49 : ∀ (w0 : Nat) (w1 : Int32) (w2 : Int32) (w3 : Int32) (M : jM) (b : Int32 × jM), k49 w0 w1 w2 w3 M = some b → V G m_X12_isPlaceAlike d 49 [(0, .ref w0), (1, .int w1), (2, .int w2), (3, .int w3)] [] M (jQb cI b)) {v0 : Nat} {v1 : Int32} {v3 : Int32} {s0 : Int32} {M : jM} {b : Int32 × jM} (h : j_X12_isPlaceAlike_192 k49 v0 v1 v3 s0 M = some b) : V G m_X12_isPlaceAlike d 192 [(0, .ref v0), (1, .int v1), (3, .int v3)] [.int s0] M (jQb cI b) := by
  unfold j_X12_isPlaceAlike_192 at h
  refine v_istore_n (ls2 := [(2, .int s0), (0, .ref v0), (1, .int v1), (3, .int v3)]) dX12_isPlaceAlike_192 rfl (by decide) rfl ?_
  refine v_iincC (ls2 := [(3, .int (v3 + (nI 1))), (2, .int s0), (0, .ref v0), (1, .int v1)]) dX12_isPlaceAlike_193 ic_1 3 rfl (by decide) rfl ?_
  refine v_goto (tgt := 49) dX12_isPlaceAlike_196 (by decide) ?_
  exact V.pick [2, 3, 1, 0] rfl (hk49 _ _ _ _ _ _ h)
def j_X12_isPlaceAlike_191 (k49 : Nat → Int32 → Int32 → Int32 → jM → jO Int32) (v0 : Nat) (v1 : Int32) (v3 : Int32) (M : jM) : jO Int32 :=
  j_X12_isPlaceAlike_192 k49 v0 v1 v3 (nI 0) M
theorem t_X12_isPlaceAlike_191 {G : jG} {d : Nat} (hd_ : 1 ≤ d) {k49 : Nat → Int32 → Int32 → Int32 → jM → jO Int32} (hk49 : ∀ (w0 : Nat) (w1 : Int32) (w2 : Int32) (w3 : Int32) (M : jM) (b : Int32 × jM), k49 w0 w1 w2 w3 M = some b → V G m_X12_isPlaceAlike d 49 [(0, .ref w0), (1, .int w1), (2, .int w2), (3, .int w3)] [] M (jQb cI b)) {v0 : Nat} {v1 : Int32} {v3 : Int32} {M : jM} {b : Int32 × jM} (h : j_X12_isPlaceAlike_191 k49 v0 v1 v3 M = some b) : V G m_X12_isPlaceAlike d 191 [(0, .ref v0), (1, .int v1), (3, .int v3)] [] M (jQb cI b) := by
  unfold j_X12_isPlaceAlike_191 at h
  refine v_iconst dX12_isPlaceAlike_191 ic_0 ?_
  exact t_X12_isPlaceAlike_192 hd_ hk49 h
def j_X12_isPlaceAlike_98 (k49 : Nat → Int32 → Int32 → Int32 → jM → jO Int32) (v0 : Nat) (v1 : Int32) (v3 : Int32) (s0 : Int32) (s1 : Int32) (M : jM) : jO Int32 :=
  if s0 = s1 then
    (gI 11 M v0 5).bind fun x1 =>
    (gR 11 M v0 8).bind fun r2 =>
    (ldI M r2 v3).bind fun x3 =>
    (gR 11 M v0 8).bind fun r4 =>
    (ldI M r4 v1).bind fun x5 =>
    jb2 (jiv 11 M v0 (f_X12_isTied v0 x1 x3 x5 M)) fun x7 M6 =>
    (gI 11 M6 v0 6).bind fun x8 =>
    (gR 11 M6 v0 9).bind fun r9 =>
    (ldI M6 r9 v3).bind fun x10 =>
    (gR 11 M6 v0 9).bind fun r11 =>
    (ldI M6 r11 v1).bind fun x12 =>
    jb2 (jiv 11 M6 v0 (f_X12_isTied v0 x8 x10 x12 M6)) fun x14 M13 =>
    if x7 = x14 then
      (gI 11 M13 v0 5).bind fun x15 =>
      (gR 11 M13 v0 8).bind fun r16 =>
      (ldI M13 r16 v1).bind fun x17 =>
      (gR 11 M13 v0 8).bind fun r18 =>
      (ldI M13 r18 v3).bind fun x19 =>
      jb2 (jiv 11 M13 v0 (f_X12_isTied v0 x15 x17 x19 M13)) fun x21 M20 =>
      (gI 11 M20 v0 6).bind fun x22 =>
      (gR 11 M20 v0 9).bind fun r23 =>
      (ldI M20 r23 v1).bind fun x24 =>
      (gR 11 M20 v0 9).bind fun r25 =>
      (ldI M20 r25 v3).bind fun x26 =>
      jb2 (jiv 11 M20 v0 (f_X12_isTied v0 x22 x24 x26 M20)) fun x28 M27 =>
      if x21 = x28 then
        j_X12_isPlaceAlike_192 k49 v0 v1 v3 (nI 1) M27
      else
        j_X12_isPlaceAlike_191 k49 v0 v1 v3 M27
    else
      j_X12_isPlaceAlike_191 k49 v0 v1 v3 M13
  else
    j_X12_isPlaceAlike_191 k49 v0 v1 v3 M
theorem t_X12_isPlaceAlike_98 {G : jG} {d : Nat} (hd_ : 1 ≤ d) {k49 : Nat → Int32 → Int32 → Int32 → jM → jO Int32} (hk49 : ∀ (w0 : Nat) (w1 : Int32) (w2 : Int32) (w3 : Int32) (M : jM) (b : Int32 × jM), k49 w0 w1 w2 w3 M = some b → V G m_X12_isPlaceAlike d 49 [(0, .ref w0), (1, .int w1), (2, .int w2), (3, .int w3)] [] M (jQb cI b)) {v0 : Nat} {v1 : Int32} {v3 : Int32} {s0 : Int32} {s1 : Int32} {M : jM} {b : Int32 × jM} (h : j_X12_isPlaceAlike_98 k49 v0 v1 v3 s0 s1 M = some b) : V G m_X12_isPlaceAlike d 98 [(0, .ref v0), (1, .int v1), (3, .int v3)] [.int s1, .int s0] M (jQb cI b) := by
  unfold j_X12_isPlaceAlike_98 at h
  refine x_ic_ne (tgt := 191) dX12_isPlaceAlike_98 (by decide) h (fun h => ?_) (fun h => ?_)
  · refine v_aload_n dX12_isPlaceAlike_101 rfl 0 rfl ?_
    refine v_aload_n dX12_isPlaceAlike_102 rfl 0 rfl ?_
    refine x_gI dX12_isPlaceAlike_103 kf_X12_163 rfl h (fun x1 h => ?_)
    refine v_aload_n dX12_isPlaceAlike_106 rfl 0 rfl ?_
    refine x_gR dX12_isPlaceAlike_107 kf_X12_25 rfl h (fun r2 h => ?_)
    refine v_iload_n dX12_isPlaceAlike_110 rfl 2 rfl ?_
    refine x_ldI dX12_isPlaceAlike_111 h (fun x3 h => ?_)
    refine v_aload_n dX12_isPlaceAlike_112 rfl 0 rfl ?_
    refine x_gR dX12_isPlaceAlike_113 kf_X12_25 rfl h (fun r4 h => ?_)
    refine v_iload_n dX12_isPlaceAlike_116 rfl 1 rfl ?_
    refine x_ldI dX12_isPlaceAlike_117 h (fun x5 h => ?_)
    refine x_inv (cv := cI) (As := [.int x1, .int x3, .int x5]) (rest := []) (ls2 := [(0, .ref v0), (1, .int x1), (2, .int x3), (3, .int x5)]) (ci := 11) (by omega) dX12_isPlaceAlike_118 ke_X12_isTied kv_X12_152 rfl rfl (by decide) (Nat.le_of_ble_eq_true rfl) rfl rfl rfl rfl h (fun _ hq => s_X12_isTied (by omega) hq) (fun x7 M6 h => ?_)
    refine v_aload_n dX12_isPlaceAlike_121 rfl 0 rfl ?_
    refine v_aload_n dX12_isPlaceAlike_122 rfl 0 rfl ?_
    refine x_gI dX12_isPlaceAlike_123 kf_X12_166 rfl h (fun x8 h => ?_)
    refine v_aload_n dX12_isPlaceAlike_126 rfl 0 rfl ?_
    refine x_gR dX12_isPlaceAlike_127 kf_X12_28 rfl h (fun r9 h => ?_)
    refine v_iload_n dX12_isPlaceAlike_130 rfl 2 rfl ?_
    refine x_ldI dX12_isPlaceAlike_131 h (fun x10 h => ?_)
    refine v_aload_n dX12_isPlaceAlike_132 rfl 0 rfl ?_
    refine x_gR dX12_isPlaceAlike_133 kf_X12_28 rfl h (fun r11 h => ?_)
    refine v_iload_n dX12_isPlaceAlike_136 rfl 1 rfl ?_
    refine x_ldI dX12_isPlaceAlike_137 h (fun x12 h => ?_)
    refine x_inv (cv := cI) (As := [.int x8, .int x10, .int x12]) (rest := [.int x7]) (ls2 := [(0, .ref v0), (1, .int x8), (2, .int x10), (3, .int x12)]) (ci := 11) (by omega) dX12_isPlaceAlike_138 ke_X12_isTied kv_X12_152 rfl rfl (by decide) (Nat.le_of_ble_eq_true rfl) rfl rfl rfl rfl h (fun _ hq => s_X12_isTied (by omega) hq) (fun x14 M13 h => ?_)
    refine x_ic_ne (tgt := 191) dX12_isPlaceAlike_141 (by decide) h (fun h => ?_) (fun h => ?_)
    · refine v_aload_n dX12_isPlaceAlike_144 rfl 0 rfl ?_
      refine v_aload_n dX12_isPlaceAlike_145 rfl 0 rfl ?_
      refine x_gI dX12_isPlaceAlike_146 kf_X12_163 rfl h (fun x15 h => ?_)
      refine v_aload_n dX12_isPlaceAlike_149 rfl 0 rfl ?_
      refine x_gR dX12_isPlaceAlike_150 kf_X12_25 rfl h (fun r16 h => ?_)
      refine v_iload_n dX12_isPlaceAlike_153 rfl 1 rfl ?_
      refine x_ldI dX12_isPlaceAlike_154 h (fun x17 h => ?_)
      refine v_aload_n dX12_isPlaceAlike_155 rfl 0 rfl ?_
      refine x_gR dX12_isPlaceAlike_156 kf_X12_25 rfl h (fun r18 h => ?_)
      refine v_iload_n dX12_isPlaceAlike_159 rfl 2 rfl ?_
      refine x_ldI dX12_isPlaceAlike_160 h (fun x19 h => ?_)
      refine x_inv (cv := cI) (As := [.int x15, .int x17, .int x19]) (rest := []) (ls2 := [(0, .ref v0), (1, .int x15), (2, .int x17), (3, .int x19)]) (ci := 11) (by omega) dX12_isPlaceAlike_161 ke_X12_isTied kv_X12_152 rfl rfl (by decide) (Nat.le_of_ble_eq_true rfl) rfl rfl rfl rfl h (fun _ hq => s_X12_isTied (by omega) hq) (fun x21 M20 h => ?_)
      refine v_aload_n dX12_isPlaceAlike_164 rfl 0 rfl ?_
      refine v_aload_n dX12_isPlaceAlike_165 rfl 0 rfl ?_
      refine x_gI dX12_isPlaceAlike_166 kf_X12_166 rfl h (fun x22 h => ?_)
      refine v_aload_n dX12_isPlaceAlike_169 rfl 0 rfl ?_
      refine x_gR dX12_isPlaceAlike_170 kf_X12_28 rfl h (fun r23 h => ?_)
      refine v_iload_n dX12_isPlaceAlike_173 rfl 1 rfl ?_
      refine x_ldI dX12_isPlaceAlike_174 h (fun x24 h => ?_)
      refine v_aload_n dX12_isPlaceAlike_175 rfl 0 rfl ?_
      refine x_gR dX12_isPlaceAlike_176 kf_X12_28 rfl h (fun r25 h => ?_)
      refine v_iload_n dX12_isPlaceAlike_179 rfl 2 rfl ?_
      refine x_ldI dX12_isPlaceAlike_180 h (fun x26 h => ?_)
      refine x_inv (cv := cI) (As := [.int x22, .int x24, .int x26]) (rest := [.int x21]) (ls2 := [(0, .ref v0), (1, .int x22), (2, .int x24), (3, .int x26)]) (ci := 11) (by omega) dX12_isPlaceAlike_181 ke_X12_isTied kv_X12_152 rfl rfl (by decide) (Nat.le_of_ble_eq_true rfl) rfl rfl rfl rfl h (fun _ hq => s_X12_isTied (by omega) hq) (fun x28 M27 h => ?_)
      refine x_ic_ne (tgt := 191) dX12_isPlaceAlike_184 (by decide) h (fun h => ?_) (fun h => ?_)
      · refine v_iconst dX12_isPlaceAlike_187 ic_1 ?_
        refine v_goto (tgt := 192) dX12_isPlaceAlike_188 (by decide) ?_
        exact t_X12_isPlaceAlike_192 hd_ hk49 h
      · exact t_X12_isPlaceAlike_191 hd_ hk49 h
    · exact t_X12_isPlaceAlike_191 hd_ hk49 h
  · exact t_X12_isPlaceAlike_191 hd_ hk49 h
def j_X12_isPlaceAlike_78 (k49 : Nat → Int32 → Int32 → Int32 → jM → jO Int32) (v0 : Nat) (v1 : Int32) (v3 : Int32) (s0 : Int32) (M : jM) : jO Int32 :=
  (gR 11 M v0 9).bind fun r1 =>
  (ldI M r1 v3).bind fun x2 =>
  (gR 11 M v0 9).bind fun r3 =>
  (ldI M r3 v1).bind fun x4 =>
  if x2 = x4 then
    j_X12_isPlaceAlike_98 k49 v0 v1 v3 s0 (nI 1) M
  else
    j_X12_isPlaceAlike_98 k49 v0 v1 v3 s0 (nI 0) M
theorem t_X12_isPlaceAlike_78 {G : jG} {d : Nat} (hd_ : 1 ≤ d) {k49 : Nat → Int32 → Int32 → Int32 → jM → jO Int32} (hk49 : ∀ (w0 : Nat) (w1 : Int32) (w2 : Int32) (w3 : Int32) (M : jM) (b : Int32 × jM), k49 w0 w1 w2 w3 M = some b → V G m_X12_isPlaceAlike d 49 [(0, .ref w0), (1, .int w1), (2, .int w2), (3, .int w3)] [] M (jQb cI b)) {v0 : Nat} {v1 : Int32} {v3 : Int32} {s0 : Int32} {M : jM} {b : Int32 × jM} (h : j_X12_isPlaceAlike_78 k49 v0 v1 v3 s0 M = some b) : V G m_X12_isPlaceAlike d 78 [(0, .ref v0), (1, .int v1), (3, .int v3)] [.int s0] M (jQb cI b) := by
  unfold j_X12_isPlaceAlike_78 at h
  refine v_aload_n dX12_isPlaceAlike_78 rfl 0 rfl ?_
  refine x_gR dX12_isPlaceAlike_79 kf_X12_28 rfl h (fun r1 h => ?_)
  refine v_iload_n dX12_isPlaceAlike_82 rfl 2 rfl ?_
  refine x_ldI dX12_isPlaceAlike_83 h (fun x2 h => ?_)
  refine v_aload_n dX12_isPlaceAlike_84 rfl 0 rfl ?_
  refine x_gR dX12_isPlaceAlike_85 kf_X12_28 rfl h (fun r3 h => ?_)
  refine v_iload_n dX12_isPlaceAlike_88 rfl 1 rfl ?_
  refine x_ldI dX12_isPlaceAlike_89 h (fun x4 h => ?_)
  refine x_ic_ne (tgt := 97) dX12_isPlaceAlike_90 (by decide) h (fun h => ?_) (fun h => ?_)
  · refine v_iconst dX12_isPlaceAlike_93 ic_1 ?_
    refine v_goto (tgt := 98) dX12_isPlaceAlike_94 (by decide) ?_
    exact t_X12_isPlaceAlike_98 hd_ hk49 h
  · refine v_iconst dX12_isPlaceAlike_97 ic_0 ?_
    exact t_X12_isPlaceAlike_98 hd_ hk49 h
def b_X12_isPlaceAlike_49  (k49 : Nat → Int32 → Int32 → Int32 → jM → jO Int32) (v0 : Nat) (v1 : Int32) (v2 : Int32) (v3 : Int32) (M : jM) : jO Int32 :=
  if v1 < v3 then
    rZ v2 M
  else
    if v2 = 0 then
      rZ v2 M
    else
      (gR 11 M v0 8).bind fun r1 =>
      (ldI M r1 v3).bind fun x2 =>
      (gR 11 M v0 8).bind fun r3 =>
      (ldI M r3 v1).bind fun x4 =>
      if x2 = x4 then
        j_X12_isPlaceAlike_78 k49 v0 v1 v3 (nI 1) M
      else
        j_X12_isPlaceAlike_78 k49 v0 v1 v3 (nI 0) M
def l_X12_isPlaceAlike_49  : Nat → Nat → Int32 → Int32 → Int32 → jM → jO Int32
  | 0 => fun _ _ _ _ _ => none
  | n + 1 => b_X12_isPlaceAlike_49  (l_X12_isPlaceAlike_49  n)
theorem tb_X12_isPlaceAlike_49 {G : jG} {d : Nat} (hd_ : 1 ≤ d)  {k49 : Nat → Int32 → Int32 → Int32 → jM → jO Int32} (hk49 : ∀ (w0 : Nat) (w1 : Int32) (w2 : Int32) (w3 : Int32) (M : jM) (b : Int32 × jM), k49 w0 w1 w2 w3 M = some b → V G m_X12_isPlaceAlike d 49 [(0, .ref w0), (1, .int w1), (2, .int w2), (3, .int w3)] [] M (jQb cI b)) {v0 : Nat} {v1 : Int32} {v2 : Int32} {v3 : Int32} {M : jM} {b : Int32 × jM} (h : b_X12_isPlaceAlike_49  k49 v0 v1 v2 v3 M = some b) : V G m_X12_isPlaceAlike d 49 [(0, .ref v0), (1, .int v1), (2, .int v2), (3, .int v3)] [] M (jQb cI b) := by
  unfold b_X12_isPlaceAlike_49 at h
  refine v_iload_n dX12_isPlaceAlike_49 rfl 3 rfl ?_
  refine v_iload_n dX12_isPlaceAlike_50 rfl 1 rfl ?_
  refine x_ic_gt (tgt := 199) dX12_isPlaceAlike_51 (by decide) h (fun h => ?_) (fun h => ?_)
  · refine v_iload_n dX12_isPlaceAlike_199 rfl 2 rfl ?_
    exact x_zret dX12_isPlaceAlike_200 rfl h
  · refine v_iload_n dX12_isPlaceAlike_54 rfl 2 rfl ?_
    refine x_if_eq (tgt := 199) dX12_isPlaceAlike_55 (by decide) h (fun h => ?_) (fun h => ?_)
    · refine v_iload_n dX12_isPlaceAlike_199 rfl 2 rfl ?_
      exact x_zret dX12_isPlaceAlike_200 rfl h
    · refine v_aload_n dX12_isPlaceAlike_58 rfl 0 rfl ?_
      refine x_gR dX12_isPlaceAlike_59 kf_X12_25 rfl h (fun r1 h => ?_)
      refine v_iload_n dX12_isPlaceAlike_62 rfl 3 rfl ?_
      refine x_ldI dX12_isPlaceAlike_63 h (fun x2 h => ?_)
      refine v_aload_n dX12_isPlaceAlike_64 rfl 0 rfl ?_
      refine x_gR dX12_isPlaceAlike_65 kf_X12_25 rfl h (fun r3 h => ?_)
      refine v_iload_n dX12_isPlaceAlike_68 rfl 1 rfl ?_
      refine x_ldI dX12_isPlaceAlike_69 h (fun x4 h => ?_)
      refine x_ic_ne (tgt := 77) dX12_isPlaceAlike_70 (by decide) h (fun h => ?_) (fun h => ?_)
      · refine v_iconst dX12_isPlaceAlike_73 ic_1 ?_
        refine v_goto (tgt := 78) dX12_isPlaceAlike_74 (by decide) ?_
        exact V.pick [0, 1, 3] rfl (t_X12_isPlaceAlike_78 hd_ hk49 h)
      · refine v_iconst dX12_isPlaceAlike_77 ic_0 ?_
        exact V.pick [0, 1, 3] rfl (t_X12_isPlaceAlike_78 hd_ hk49 h)
theorem t_X12_isPlaceAlike_49 {G : jG} {d : Nat} (hd_ : 1 ≤ d)  : ∀ (n : Nat) (v0 : Nat) (v1 : Int32) (v2 : Int32) (v3 : Int32) (M : jM) (b : Int32 × jM), l_X12_isPlaceAlike_49  n v0 v1 v2 v3 M = some b → V G m_X12_isPlaceAlike d 49 [(0, .ref v0), (1, .int v1), (2, .int v2), (3, .int v3)] [] M (jQb cI b) := by
  intro n
  induction n with
  | zero => intro v0 v1 v2 v3 M b h; exact nomatch (show (none : jO Int32) = some b from h)
  | succ n ih => intro v0 v1 v2 v3 M b h; exact tb_X12_isPlaceAlike_49 hd_  ih h
def j_X12_isPlaceAlike_46  (v0 : Nat) (v1 : Int32) (s0 : Int32) (M : jM) : jO Int32 :=
  l_X12_isPlaceAlike_49 jF0 v0 v1 s0 (nI 0) M
theorem t_X12_isPlaceAlike_46 {G : jG} {d : Nat} (hd_ : 1 ≤ d)  {v0 : Nat} {v1 : Int32} {s0 : Int32} {M : jM} {b : Int32 × jM} (h : j_X12_isPlaceAlike_46  v0 v1 s0 M = some b) : V G m_X12_isPlaceAlike d 46 [(0, .ref v0), (1, .int v1)] [.int s0] M (jQb cI b) := by
  unfold j_X12_isPlaceAlike_46 at h
  refine v_istore_n (ls2 := [(2, .int s0), (0, .ref v0), (1, .int v1)]) dX12_isPlaceAlike_46 rfl (by decide) rfl ?_
  refine v_iconst dX12_isPlaceAlike_47 ic_0 ?_
  refine v_istore_n (ls2 := [(3, .int (nI 0)), (2, .int s0), (0, .ref v0), (1, .int v1)]) dX12_isPlaceAlike_48 rfl (by decide) rfl ?_
  exact V.pick [2, 3, 1, 0] rfl (t_X12_isPlaceAlike_49 hd_ _ _ _ _ _ _ _ h)
def f_X12_isPlaceAlike (v0 : Nat) (v1 : Int32) (M : jM) : jO Int32 :=
  (gR 11 M v0 1).bind fun r1 =>
  (gI 11 M v0 5).bind fun x2 =>
  (gR 11 M v0 8).bind fun r3 =>
  (ldI M r3 v1).bind fun x4 =>
  (ldI M r1 (((nI 6) * x2) + x4)).bind fun x5 =>
  (gR 11 M v0 1).bind fun r6 =>
  (gI 11 M v0 6).bind fun x7 =>
  (gR 11 M v0 9).bind fun r8 =>
  (ldI M r8 v1).bind fun x9 =>
  (ldI M r6 (((nI 6) * x7) + x9)).bind fun x10 =>
  if x5 = x10 then
    j_X12_isPlaceAlike_46 v0 v1 (nI 1) M
  else
    j_X12_isPlaceAlike_46 v0 v1 (nI 0) M
theorem s_X12_isPlaceAlike {G : jG} {d : Nat} (hd_ : 1 ≤ d) {v0 : Nat} {v1 : Int32} {M : jM} {b : Int32 × jM} (h : f_X12_isPlaceAlike  v0 v1 M = some b) : V G m_X12_isPlaceAlike d 0 [(0, .ref v0), (1, .int v1)] [] M (jQb cI b) := by
  unfold f_X12_isPlaceAlike at h
  refine v_aload_n dX12_isPlaceAlike_0 rfl 0 rfl ?_
  refine x_gR dX12_isPlaceAlike_1 kf_X12_13 rfl h (fun r1 h => ?_)
  refine v_bipush dX12_isPlaceAlike_4 bp_6 ?_
  refine v_aload_n dX12_isPlaceAlike_6 rfl 0 rfl ?_
  refine x_gI dX12_isPlaceAlike_7 kf_X12_163 rfl h (fun x2 h => ?_)
  refine v_imul dX12_isPlaceAlike_10 ?_
  refine v_aload_n dX12_isPlaceAlike_11 rfl 0 rfl ?_
  refine x_gR dX12_isPlaceAlike_12 kf_X12_25 rfl h (fun r3 h => ?_)
  refine v_iload_n dX12_isPlaceAlike_15 rfl 1 rfl ?_
  refine x_ldI dX12_isPlaceAlike_16 h (fun x4 h => ?_)
  refine v_iadd dX12_isPlaceAlike_17 ?_
  refine x_ldI dX12_isPlaceAlike_18 h (fun x5 h => ?_)
  refine v_aload_n dX12_isPlaceAlike_19 rfl 0 rfl ?_
  refine x_gR dX12_isPlaceAlike_20 kf_X12_13 rfl h (fun r6 h => ?_)
  refine v_bipush dX12_isPlaceAlike_23 bp_6 ?_
  refine v_aload_n dX12_isPlaceAlike_25 rfl 0 rfl ?_
  refine x_gI dX12_isPlaceAlike_26 kf_X12_166 rfl h (fun x7 h => ?_)
  refine v_imul dX12_isPlaceAlike_29 ?_
  refine v_aload_n dX12_isPlaceAlike_30 rfl 0 rfl ?_
  refine x_gR dX12_isPlaceAlike_31 kf_X12_28 rfl h (fun r8 h => ?_)
  refine v_iload_n dX12_isPlaceAlike_34 rfl 1 rfl ?_
  refine x_ldI dX12_isPlaceAlike_35 h (fun x9 h => ?_)
  refine v_iadd dX12_isPlaceAlike_36 ?_
  refine x_ldI dX12_isPlaceAlike_37 h (fun x10 h => ?_)
  refine x_ic_ne (tgt := 45) dX12_isPlaceAlike_38 (by decide) h (fun h => ?_) (fun h => ?_)
  · refine v_iconst dX12_isPlaceAlike_41 ic_1 ?_
    refine v_goto (tgt := 46) dX12_isPlaceAlike_42 (by decide) ?_
    exact t_X12_isPlaceAlike_46 hd_ h
  · refine v_iconst dX12_isPlaceAlike_45 ic_0 ?_
    exact t_X12_isPlaceAlike_46 hd_ h
def b_X12_areAlike_4  (k4 : Nat → Int32 → Int32 → jM → jO Int32) (v0 : Nat) (v1 : Int32) (v2 : Int32) (M : jM) : jO Int32 :=
  (gI 11 M v0 7).bind fun x1 =>
  if x1 ≤ v2 then
    rZ v1 M
  else
    if v1 = 0 then
      rZ v1 M
    else
      jb2 (jiv 11 M v0 (f_X12_isPlaceAlike v0 v2 M)) fun x3 M2 =>
      k4 v0 x3 (v2 + (nI 1)) M2
def l_X12_areAlike_4  : Nat → Nat → Int32 → Int32 → jM → jO Int32
  | 0 => fun _ _ _ _ => none
  | n + 1 => b_X12_areAlike_4  (l_X12_areAlike_4  n)
theorem tb_X12_areAlike_4 {G : jG} {d : Nat} (hd_ : 2 ≤ d)  {k4 : Nat → Int32 → Int32 → jM → jO Int32} (hk4 : ∀ (w0 : Nat) (w1 : Int32) (w2 : Int32) (M : jM) (b : Int32 × jM), k4 w0 w1 w2 M = some b → V G m_X12_areAlike d 4 [(0, .ref w0), (1, .int w1), (2, .int w2)] [] M (jQb cI b)) {v0 : Nat} {v1 : Int32} {v2 : Int32} {M : jM} {b : Int32 × jM} (h : b_X12_areAlike_4  k4 v0 v1 v2 M = some b) : V G m_X12_areAlike d 4 [(0, .ref v0), (1, .int v1), (2, .int v2)] [] M (jQb cI b) := by
  unfold b_X12_areAlike_4 at h
  refine v_iload_n dX12_areAlike_4 rfl 2 rfl ?_
  refine v_aload_n dX12_areAlike_5 rfl 0 rfl ?_
  refine x_gI dX12_areAlike_6 kf_X12_169 rfl h (fun x1 h => ?_)
  refine x_ic_ge (tgt := 28) dX12_areAlike_9 (by decide) h (fun h => ?_) (fun h => ?_)
  · refine v_iload_n dX12_areAlike_28 rfl 1 rfl ?_
    exact x_zret dX12_areAlike_29 rfl h
  · refine v_iload_n dX12_areAlike_12 rfl 1 rfl ?_
    refine x_if_eq (tgt := 28) dX12_areAlike_13 (by decide) h (fun h => ?_) (fun h => ?_)
    · refine v_iload_n dX12_areAlike_28 rfl 1 rfl ?_
      exact x_zret dX12_areAlike_29 rfl h
    · refine v_aload_n dX12_areAlike_16 rfl 0 rfl ?_
      refine v_iload_n dX12_areAlike_17 rfl 2 rfl ?_
      refine x_inv (cv := cI) (As := [.int v2]) (rest := []) (ls2 := [(0, .ref v0), (1, .int v2)]) (ci := 11) (by omega) dX12_areAlike_18 ke_X12_isPlaceAlike kv_X12_172 rfl rfl (by decide) (Nat.le_of_ble_eq_true rfl) rfl rfl rfl rfl h (fun _ hq => s_X12_isPlaceAlike (by omega) hq) (fun x3 M2 h => ?_)
      refine v_istore_n (ls2 := [(1, .int x3), (0, .ref v0), (2, .int v2)]) dX12_areAlike_21 rfl (by decide) rfl ?_
      refine v_iincC (ls2 := [(2, .int (v2 + (nI 1))), (1, .int x3), (0, .ref v0)]) dX12_areAlike_22 ic_1 2 rfl (by decide) rfl ?_
      refine v_goto (tgt := 4) dX12_areAlike_25 (by decide) ?_
      exact V.pick [2, 1, 0] rfl (hk4 _ _ _ _ _ h)
theorem t_X12_areAlike_4 {G : jG} {d : Nat} (hd_ : 2 ≤ d)  : ∀ (n : Nat) (v0 : Nat) (v1 : Int32) (v2 : Int32) (M : jM) (b : Int32 × jM), l_X12_areAlike_4  n v0 v1 v2 M = some b → V G m_X12_areAlike d 4 [(0, .ref v0), (1, .int v1), (2, .int v2)] [] M (jQb cI b) := by
  intro n
  induction n with
  | zero => intro v0 v1 v2 M b h; exact nomatch (show (none : jO Int32) = some b from h)
  | succ n ih => intro v0 v1 v2 M b h; exact tb_X12_areAlike_4 hd_  ih h
def f_X12_areAlike (v0 : Nat) (M : jM) : jO Int32 :=
  l_X12_areAlike_4 jF0 v0 (nI 1) (nI 0) M
theorem s_X12_areAlike {G : jG} {d : Nat} (hd_ : 2 ≤ d) {v0 : Nat} {M : jM} {b : Int32 × jM} (h : f_X12_areAlike  v0 M = some b) : V G m_X12_areAlike d 0 [(0, .ref v0)] [] M (jQb cI b) := by
  unfold f_X12_areAlike at h
  refine v_iconst dX12_areAlike_0 ic_1 ?_
  refine v_istore_n (ls2 := [(1, .int (nI 1)), (0, .ref v0)]) dX12_areAlike_1 rfl (by decide) rfl ?_
  refine v_iconst dX12_areAlike_2 ic_0 ?_
  refine v_istore_n (ls2 := [(2, .int (nI 0)), (1, .int (nI 1)), (0, .ref v0)]) dX12_areAlike_3 rfl (by decide) rfl ?_
  exact V.pick [2, 1, 0] rfl (t_X12_areAlike_4 hd_ _ _ _ _ _ _ h)
