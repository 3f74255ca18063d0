def j_X2_sort_97 (k27 : Nat → Nat → Nat → Int32 → Nat → Int32 → Int32 → jM → jO Int32) (v0 : Nat) (v1 : Nat) (v2 : Nat) (v3 : Int32) (v4 : Nat) (v5 : Int32) (v6 : Int32) (v7 : Int32) (M : jM) : jO Int32 :=
  (gR 2 M v0 0).bind fun r1 =>
  (stI M r1 v6 v7).bind fun M2 =>
  k27 v0 v1 v2 v3 v4 v5 (v6 + (nI 1)) M2
theorem t_X2_sort_97 {G : jG} {d : Nat} (hd_ : 124 ≤ d) {k27 : Nat → Nat → Nat → Int32 → Nat → Int32 → Int32 → jM → jO Int32} (hk27 : ∀ (w0 : Nat) (w1 : Nat) (w2 : Nat) (w3 : Int32) (w4 : Nat) (w5 : Int32) (w6 : Int32) (M : jM) (b : Int32 × jM), k27 w0 w1 w2 w3 w4 w5 w6 M = some b → V G m_X2_sort d 27 [(0, .ref w0), (1, .ref w1), (2, .ref w2), (3, .int w3), (4, .ref w4), (5, .int w5), (6, .int w6)] [] M (jQb cI b)) {v0 : Nat} {v1 : Nat} {v2 : Nat} {v3 : Int32} {v4 : Nat} {v5 : Int32} {v6 : Int32} {v7 : Int32} {M : jM} {b : Int32 × jM} (h : j_X2_sort_97 k27 v0 v1 v2 v3 v4 v5 v6 v7 M = some b) : V G m_X2_sort d 97 [(0, .ref v0), (1, .ref v1), (2, .ref v2), (3, .int v3), (4, .ref v4), (5, .int v5), (6, .int v6), (7, .int v7)] [] M (jQb cI b) := by
  unfold j_X2_sort_97 at h
  refine v_aload_n dX2_sort_97 rfl 0 rfl ?_
  refine x_gR dX2_sort_98 kf_X2_9 rfl h (fun r1 h => ?_)
  refine v_iload dX2_sort_101 6 rfl ?_
  refine v_iload dX2_sort_103 7 rfl ?_
  refine x_stI dX2_sort_105 h (fun M2 h => ?_)
  refine v_iincC (ls2 := [(6, .int (v6 + (nI 1))), (0, .ref v0), (1, .ref v1), (2, .ref v2), (3, .int v3), (4, .ref v4), (5, .int v5), (7, .int v7)]) dX2_sort_106 ic_1 6 rfl (by decide) rfl ?_
  refine v_goto (tgt := 27) dX2_sort_109 (by decide) ?_
  exact V.pick [1, 2, 3, 4, 5, 6, 0] rfl (hk27 _ _ _ _ _ _ _ _ _ h)
def j_X2_sort_68 (k27 : Nat → Nat → Nat → Int32 → Nat → Int32 → Int32 → jM → jO Int32) (v0 : Nat) (v1 : Nat) (v2 : Nat) (v3 : Int32) (v4 : Nat) (v5 : Int32) (v6 : Int32) (v7 : Int32) (M : jM) : jO Int32 :=
  if v7 = v5 then
    (gR 2 M v0 1).bind fun r1 =>
    (ln M r1).bind fun x2 =>
    if x2 ≤ v5 then
      j_X2_sort_97 k27 v0 v1 v2 v3 v4 v5 v6 v7 M
    else
      (gR 2 M v0 1).bind fun r3 =>
      (stI M r3 v5 v6).bind fun M4 =>
      j_X2_sort_97 k27 v0 v1 v2 v3 v4 (v5 + (nI 1)) v6 v7 M4
  else
    j_X2_sort_97 k27 v0 v1 v2 v3 v4 v5 v6 v7 M
theorem t_X2_sort_68 {G : jG} {d : Nat} (hd_ : 124 ≤ d) {k27 : Nat → Nat → Nat → Int32 → Nat → Int32 → Int32 → jM → jO Int32} (hk27 : ∀ (w0 : Nat) (w1 : Nat) (w2 : Nat) (w3 : Int32) (w4 : Nat) (w5 : Int32) (w6 : Int32) (M : jM) (b : Int32 × jM), k27 w0 w1 w2 w3 w4 w5 w6 M = some b → V G m_X2_sort d 27 [(0, .ref w0), (1, .ref w1), (2, .ref w2), (3, .int w3), (4, .ref w4), (5, .int w5), (6, .int w6)] [] M (jQb cI b)) {v0 : Nat} {v1 : Nat} {v2 : Nat} {v3 : Int32} {v4 : Nat} {v5 : Int32} {v6 : Int32} {v7 : Int32} {M : jM} {b : Int32 × jM} (h : j_X2_sort_68 k27 v0 v1 v2 v3 v4 v5 v6 v7 M = some b) : V G m_X2_sort d 68 [(0, .ref v0), (1, .ref v1), (2, .ref v2), (3, .int v3), (4, .ref v4), (5, .int v5), (6, .int v6), (7, .int v7)] [] M (jQb cI b) := by
  unfold j_X2_sort_68 at h
  refine v_iload dX2_sort_68 7 rfl ?_
  refine v_iload dX2_sort_70 5 rfl ?_
  refine x_ic_ne (tgt := 97) dX2_sort_72 (by decide) h (fun h => ?_) (fun h => ?_)
  · refine v_iload dX2_sort_75 5 rfl ?_
    refine v_aload_n dX2_sort_77 rfl 0 rfl ?_
    refine x_gR dX2_sort_78 kf_X2_15 rfl h (fun r1 h => ?_)
    refine x_ln dX2_sort_81 h (fun x2 h => ?_)
    refine x_ic_ge (tgt := 97) dX2_sort_82 (by decide) h (fun h => ?_) (fun h => ?_)
    · exact t_X2_sort_97 hd_ hk27 h
    · refine v_aload_n dX2_sort_85 rfl 0 rfl ?_
      refine x_gR dX2_sort_86 kf_X2_15 rfl h (fun r3 h => ?_)
      refine v_iload dX2_sort_89 5 rfl ?_
      refine v_iload dX2_sort_91 6 rfl ?_
      refine x_stI dX2_sort_93 h (fun M4 h => ?_)
      refine v_iincC (ls2 := [(5, .int (v5 + (nI 1))), (0, .ref v0), (1, .ref v1), (2, .ref v2), (3, .int v3), (4, .ref v4), (6, .int v6), (7, .int v7)]) dX2_sort_94 ic_1 5 rfl (by decide) rfl ?_
      exact V.pick [1, 2, 3, 4, 5, 0, 6, 7] rfl (t_X2_sort_97 hd_ hk27 h)
  · exact t_X2_sort_97 hd_ hk27 h
def b_X2_sort_39 (k27 : Nat → Nat → Nat → Int32 → Nat → Int32 → Int32 → jM → jO Int32) (k39 : Nat → Nat → Nat → Int32 → Nat → Int32 → Int32 → Int32 → jM → jO Int32) (v0 : Nat) (v1 : Nat) (v2 : Nat) (v3 : Int32) (v4 : Nat) (v5 : Int32) (v6 : Int32) (v7 : Int32) (M : jM) : jO Int32 :=
  if v5 ≤ v7 then
    j_X2_sort_68 k27 v0 v1 v2 v3 v4 v5 v6 v7 M
  else
    jb2 (jiv 2 M v0 (f_X2_isLikeExample v0 v1 v2 v7 v6 v3 v4 M)) fun x2 M1 =>
    if x2 = 0 then
      k39 v0 v1 v2 v3 v4 v5 v6 (v7 + (nI 1)) M1
    else
      j_X2_sort_68 k27 v0 v1 v2 v3 v4 v5 v6 v7 M1
def l_X2_sort_39 (k27 : Nat → Nat → Nat → Int32 → Nat → Int32 → Int32 → jM → jO Int32) : Nat → Nat → Nat → Nat → Int32 → Nat → Int32 → Int32 → Int32 → jM → jO Int32
  | 0 => fun _ _ _ _ _ _ _ _ _ => none
  | n + 1 => b_X2_sort_39 k27 (l_X2_sort_39 k27 n)
theorem tb_X2_sort_39 {G : jG} {d : Nat} (hd_ : 124 ≤ d) {k27 : Nat → Nat → Nat → Int32 → Nat → Int32 → Int32 → jM → jO Int32} (hk27 : ∀ (w0 : Nat) (w1 : Nat) (w2 : Nat) (w3 : Int32) (w4 : Nat) (w5 : Int32) (w6 : Int32) (M : jM) (b : Int32 × jM), k27 w0 w1 w2 w3 w4 w5 w6 M = some b → V G m_X2_sort d 27 [(0, .ref w0), (1, .ref w1), (2, .ref w2), (3, .int w3), (4, .ref w4), (5, .int w5), (6, .int w6)] [] M (jQb cI b)) {k39 : Nat → Nat → Nat → Int32 → Nat → Int32 → Int32 → Int32 → jM → jO Int32} (hk39 : ∀ (w0 : Nat) (w1 : Nat) (w2 : Nat) (w3 : Int32) (w4 : Nat) (w5 : Int32) (w6 : Int32) (w7 : Int32) (M : jM) (b : Int32 × jM), k39 w0 w1 w2 w3 w4 w5 w6 w7 M = some b → V G m_X2_sort d 39 [(0, .ref w0), (1, .ref w1), (2, .ref w2), (3, .int w3), (4, .ref w4), (5, .int w5), (6, .int w6), (7, .int w7)] [] M (jQb cI b)) {v0 : Nat} {v1 : Nat} {v2 : Nat} {v3 : Int32} {v4 : Nat} {v5 : Int32} {v6 : Int32} {v7 : Int32} {M : jM} {b : Int32 × jM} (h : b_X2_sort_39 k27 k39 v0 v1 v2 v3 v4 v5 v6 v7 M = some b) : V G m_X2_sort d 39 [(0, .ref v0), (1, .ref v1), (2, .ref v2), (3, .int v3), (4, .ref v4), (5, .int v5), (6, .int v6), (7, .int v7)] [] M (jQb cI b) := by
  unfold b_X2_sort_39 at h
  refine v_iload dX2_sort_39 7 rfl ?_
  refine v_iload dX2_sort_41 5 rfl ?_
  refine x_ic_ge (tgt := 68) dX2_sort_43 (by decide) h (fun h => ?_) (fun h => ?_)
  · exact t_X2_sort_68 hd_ hk27 h
  · refine v_aload_n dX2_sort_46 rfl 0 rfl ?_
    refine v_aload_n dX2_sort_47 rfl 1 rfl ?_
    refine v_aload_n dX2_sort_48 rfl 2 rfl ?_
    refine v_iload dX2_sort_49 7 rfl ?_
    refine v_iload dX2_sort_51 6 rfl ?_
    refine v_iload_n dX2_sort_53 rfl 3 rfl ?_
    refine v_aload dX2_sort_54 4 rfl ?_
    refine x_inv (cv := cI) (As := [.ref v1, .ref v2, .int v7, .int v6, .int v3, .ref v4]) (rest := []) (ls2 := [(0, .ref v0), (1, .ref v1), (2, .ref v2), (3, .int v7), (4, .int v6), (5, .int v3), (6, .ref v4)]) (ci := 2) (by omega) dX2_sort_56 ke_X2_isLikeExample kv_X2_34 rfl rfl (by decide) (Nat.le_of_ble_eq_true rfl) rfl rfl rfl rfl h (fun _ hq => s_X2_isLikeExample (by omega) hq) (fun x2 M1 h => ?_)
    refine x_if_ne (tgt := 68) dX2_sort_59 (by decide) h (fun h => ?_) (fun h => ?_)
    · refine v_iincC (ls2 := [(7, .int (v7 + (nI 1))), (0, .ref v0), (1, .ref v1), (2, .ref v2), (3, .int v3), (4, .ref v4), (5, .int v5), (6, .int v6)]) dX2_sort_62 ic_1 7 rfl (by decide) rfl ?_
      refine v_goto (tgt := 39) dX2_sort_65 (by decide) ?_
      exact V.pick [1, 2, 3, 4, 5, 6, 7, 0] rfl (hk39 _ _ _ _ _ _ _ _ _ _ h)
    · exact t_X2_sort_68 hd_ hk27 h
theorem t_X2_sort_39 {G : jG} {d : Nat} (hd_ : 124 ≤ d) {k27 : Nat → Nat → Nat → Int32 → Nat → Int32 → Int32 → jM → jO Int32} (hk27 : ∀ (w0 : Nat) (w1 : Nat) (w2 : Nat) (w3 : Int32) (w4 : Nat) (w5 : Int32) (w6 : Int32) (M : jM) (b : Int32 × jM), k27 w0 w1 w2 w3 w4 w5 w6 M = some b → V G m_X2_sort d 27 [(0, .ref w0), (1, .ref w1), (2, .ref w2), (3, .int w3), (4, .ref w4), (5, .int w5), (6, .int w6)] [] M (jQb cI b)) : ∀ (n : Nat) (v0 : Nat) (v1 : Nat) (v2 : Nat) (v3 : Int32) (v4 : Nat) (v5 : Int32) (v6 : Int32) (v7 : Int32) (M : jM) (b : Int32 × jM), l_X2_sort_39 k27 n v0 v1 v2 v3 v4 v5 v6 v7 M = some b → V G m_X2_sort d 39 [(0, .ref v0), (1, .ref v1), (2, .ref v2), (3, .int v3), (4, .ref v4), (5, .int v5), (6, .int v6), (7, .int v7)] [] M (jQb cI b) := by
  intro n
  induction n with
  | zero => intro v0 v1 v2 v3 v4 v5 v6 v7 M b h; exact nomatch (show (none : jO Int32) = some b from h)
  | succ n ih => intro v0 v1 v2 v3 v4 v5 v6 v7 M b h; exact tb_X2_sort_39 hd_ hk27 ih h
def b_X2_sort_27  (k27 : Nat → Nat → Nat → Int32 → Nat → Int32 → Int32 → jM → jO Int32) (v0 : Nat) (v1 : Nat) (v2 : Nat) (v3 : Int32) (v4 : Nat) (v5 : Int32) (v6 : Int32) (M : jM) : jO Int32 :=
  (gI 2 M v0 2).bind fun x1 =>
  if x1 ≤ v6 then
    rt v5 M
  else
    l_X2_sort_39 k27 jF0 v0 v1 v2 v3 v4 v5 v6 (nI 0) M
def l_X2_sort_27  : Nat → Nat → Nat → Nat → Int32 → Nat → Int32 → Int32 → jM → jO Int32
  | 0 => fun _ _ _ _ _ _ _ _ => none
  | n + 1 => b_X2_sort_27  (l_X2_sort_27  n)
theorem tb_X2_sort_27 {G : jG} {d : Nat} (hd_ : 124 ≤ d)  {k27 : Nat → Nat → Nat → Int32 → Nat → Int32 → Int32 → jM → jO Int32} (hk27 : ∀ (w0 : Nat) (w1 : Nat) (w2 : Nat) (w3 : Int32) (w4 : Nat) (w5 : Int32) (w6 : Int32) (M : jM) (b : Int32 × jM), k27 w0 w1 w2 w3 w4 w5 w6 M = some b → V G m_X2_sort d 27 [(0, .ref w0), (1, .ref w1), (2, .ref w2), (3, .int w3), (4, .ref w4), (5, .int w5), (6, .int w6)] [] M (jQb cI b)) {v0 : Nat} {v1 : Nat} {v2 : Nat} {v3 : Int32} {v4 : Nat} {v5 : Int32} {v6 : Int32} {M : jM} {b : Int32 × jM} (h : b_X2_sort_27  k27 v0 v1 v2 v3 v4 v5 v6 M = some b) : V G m_X2_sort d 27 [(0, .ref v0), (1, .ref v1), (2, .ref v2), (3, .int v3), (4, .ref v4), (5, .int v5), (6, .int v6)] [] M (jQb cI b) := by
  unfold b_X2_sort_27 at h
  refine v_iload dX2_sort_27 6 rfl ?_
  refine v_aload_n dX2_sort_29 rfl 0 rfl ?_
  refine x_gI dX2_sort_30 kf_X2_18 rfl h (fun x1 h => ?_)
  refine x_ic_ge (tgt := 112) dX2_sort_33 (by decide) h (fun h => ?_) (fun h => ?_)
  · refine v_iload dX2_sort_112 5 rfl ?_
    exact x_iret dX2_sort_114 rfl h
  · refine v_iconst dX2_sort_36 ic_0 ?_
    refine v_istore (ls2 := [(7, .int (nI 0)), (0, .ref v0), (1, .ref v1), (2, .ref v2), (3, .int v3), (4, .ref v4), (5, .int v5), (6, .int v6)]) dX2_sort_37 (by decide) rfl ?_
    exact V.pick [1, 2, 3, 4, 5, 6, 7, 0] rfl (t_X2_sort_39 hd_ hk27 _ _ _ _ _ _ _ _ _ _ _ h)
theorem t_X2_sort_27 {G : jG} {d : Nat} (hd_ : 124 ≤ d)  : ∀ (n : Nat) (v0 : Nat) (v1 : Nat) (v2 : Nat) (v3 : Int32) (v4 : Nat) (v5 : Int32) (v6 : Int32) (M : jM) (b : Int32 × jM), l_X2_sort_27  n v0 v1 v2 v3 v4 v5 v6 M = some b → V G m_X2_sort d 27 [(0, .ref v0), (1, .ref v1), (2, .ref v2), (3, .int v3), (4, .ref v4), (5, .int v5), (6, .int v6)] [] M (jQb cI b) := by
  intro n
  induction n with
  | zero => intro v0 v1 v2 v3 v4 v5 v6 M b h; exact nomatch (show (none : jO Int32) = some b from h)
  | succ n ih => intro v0 v1 v2 v3 v4 v5 v6 M b h; exact tb_X2_sort_27 hd_  ih h
def f_X2_sort (v0 : Nat) (v1 : Nat) (v2 : Nat) (v3 : Int32) (v4 : Nat) (M : jM) : jO Int32 :=
  (gR 2 M v0 0).bind fun r1 =>
  (ln M r1).bind fun x2 =>
  jb2 (jiv 8 M v1 (f_X9_size v1 M)) fun x4 M3 =>
  jb2 (jiv 8 M3 v2 (f_X9_size v2 M3)) fun x6 M5 =>
  (pI 2 M5 v0 2 (jmn x2 (x4 + x6))).bind fun M7 =>
  l_X2_sort_27 jF0 v0 v1 v2 v3 v4 (nI 0) (nI 0) M7
theorem s_X2_sort {G : jG} {d : Nat} (hd_ : 124 ≤ d) {v0 : Nat} {v1 : Nat} {v2 : Nat} {v3 : Int32} {v4 : Nat} {M : jM} {b : Int32 × jM} (h : f_X2_sort  v0 v1 v2 v3 v4 M = some b) : V G m_X2_sort d 0 [(0, .ref v0), (1, .ref v1), (2, .ref v2), (3, .int v3), (4, .ref v4)] [] M (jQb cI b) := by
  unfold f_X2_sort at h
  refine v_aload_n dX2_sort_0 rfl 0 rfl ?_
  refine v_aload_n dX2_sort_1 rfl 0 rfl ?_
  refine x_gR dX2_sort_2 kf_X2_9 rfl h (fun r1 h => ?_)
  refine x_ln dX2_sort_5 h (fun x2 h => ?_)
  refine v_aload_n dX2_sort_6 rfl 1 rfl ?_
  refine x_inv (cv := cI) (As := []) (rest := [.int x2, .ref v0]) (ls2 := [(0, .ref v1)]) (ci := 8) (by omega) dX2_sort_7 ke_X9_size kv_X2_22 rfl rfl (by decide) (Nat.le_of_ble_eq_true rfl) rfl rfl rfl rfl h (fun _ hq => s_X9_size (by omega) hq) (fun x4 M3 h => ?_)
  refine v_aload_n dX2_sort_10 rfl 2 rfl ?_
  refine x_inv (cv := cI) (As := []) (rest := [.int x4, .int x2, .ref v0]) (ls2 := [(0, .ref v2)]) (ci := 8) (by omega) dX2_sort_11 ke_X9_size kv_X2_22 rfl rfl (by decide) (Nat.le_of_ble_eq_true rfl) rfl rfl rfl rfl h (fun _ hq => s_X9_size (by omega) hq) (fun x6 M5 h => ?_)
  refine v_iadd dX2_sort_14 ?_
  refine v_mmin (by omega) dX2_sort_15 kh_X2_28 rfl ?_
  refine x_pI dX2_sort_18 kf_X2_18 rfl (fun q => Bool.noConfusion q) h (fun M7 h => ?_)
  refine v_iconst dX2_sort_21 ic_0 ?_
  refine v_istore (ls2 := [(5, .int (nI 0)), (0, .ref v0), (1, .ref v1), (2, .ref v2), (3, .int v3), (4, .ref v4)]) dX2_sort_22 (by decide) rfl ?_
  refine v_iconst dX2_sort_24 ic_0 ?_
  refine v_istore (ls2 := [(6, .int (nI 0)), (5, .int (nI 0)), (0, .ref v0), (1, .ref v1), (2, .ref v2), (3, .int v3), (4, .ref v4)]) dX2_sort_25 (by decide) rfl ?_
  exact V.pick [2, 3, 4, 5, 6, 1, 0] rfl (t_X2_sort_27 hd_ _ _ _ _ _ _ _ _ _ _ h)
def f_X11_kinds (v0 : Nat) (v1 : Int32) (v2 : Int32) (v3 : Int32) (M : jM) : jO Int32 :=
  jb2 (jiv 10 M v0 (f_X11_worldOf v0 v1 M)) fun o2 M1 =>
  jb2 (jiv 10 M1 v0 (f_X11_worldOf v0 v2 M1)) fun o4 M3 =>
  jnl o2 (
    rt (-1 : Int32) M3
    ) fun a5 =>
    jnl o4 (
      rt (-1 : Int32) M3
      ) fun a6 =>
      if v3 < 0 then
        rt (-2 : Int32) M3
      else
        if v3 ≤ (nI 2) then
          (gR 10 M3 v0 10).bind fun r7 =>
          (gR 10 M3 v0 2).bind fun r8 =>
          jb2 (jiv 2 M3 r7 (f_X2_sort r7 a5 a6 v3 r8 M3)) fun x10 M9 =>
          rt x10 M9
        else
          rt (-2 : Int32) M3
theorem s_X11_kinds {G : jG} {d : Nat} (hd_ : 125 ≤ d) {v0 : Nat} {v1 : Int32} {v2 : Int32} {v3 : Int32} {M : jM} {b : Int32 × jM} (h : f_X11_kinds  v0 v1 v2 v3 M = some b) : V G m_X11_kinds d 0 [(0, .ref v0), (1, .int v1), (2, .int v2), (3, .int v3)] [] M (jQb cI b) := by
  unfold f_X11_kinds at h
  refine v_aload_n dX11_kinds_0 rfl 0 rfl ?_
  refine v_iload_n dX11_kinds_1 rfl 1 rfl ?_
  refine x_inv (cv := cN) (As := [.int v1]) (rest := []) (ls2 := [(0, .ref v0), (1, .int v1)]) (ci := 10) (by omega) dX11_kinds_2 ke_X11_worldOf kv_X11_94 rfl rfl (by decide) (Nat.le_of_ble_eq_true rfl) rfl rfl rfl rfl h (fun _ hq => s_X11_worldOf (by omega) hq) (fun o2 M1 h => ?_)
  refine v_astoreQ (ls2 := [(4, va_rf o2), (0, .ref v0), (1, .int v1), (2, .int v2), (3, .int v3)]) dX11_kinds_5 (by decide) rfl ?_
  refine v_aload_n dX11_kinds_7 rfl 1 rfl ?_
  refine v_iload_n dX11_kinds_8 rfl 3 rfl ?_
  refine x_inv (cv := cN) (As := [.int v2]) (rest := []) (ls2 := [(0, .ref v0), (1, .int v2)]) (ci := 10) (by omega) dX11_kinds_9 ke_X11_worldOf kv_X11_94 rfl rfl (by decide) (Nat.le_of_ble_eq_true rfl) rfl rfl rfl rfl h (fun _ hq => s_X11_worldOf (by omega) hq) (fun o4 M3 h => ?_)
  refine v_astoreQ (ls2 := [(5, va_rf o4), (4, va_rf o2), (0, .ref v0), (1, .int v1), (2, .int v2), (3, .int v3)]) dX11_kinds_12 (by decide) (by simp [jst, jcatQ]) ?_
  refine v_aloadQ dX11_kinds_14 1 rfl ?_
  cases o2 with
  | none =>
    replace h := x_nN h
    refine v_ifnullN (tgt := 24) dX11_kinds_16 (by decide) ?_
    refine v_iconst dX11_kinds_24 ic_m1 ?_
    exact x_iret dX11_kinds_25 rfl h
  | some a5 =>
    replace h := x_nS h
    refine v_ifnull dX11_kinds_16 ?_
    refine v_aloadQ dX11_kinds_19 0 rfl ?_
    cases o4 with
    | none =>
      replace h := x_nN h
      refine v_ifnonnullN dX11_kinds_21 ?_
      refine v_iconst dX11_kinds_24 ic_m1 ?_
      exact x_iret dX11_kinds_25 rfl h
    | some a6 =>
      replace h := x_nS h
      refine v_ifnonnull (tgt := 26) dX11_kinds_21 (by decide) ?_
      refine v_iload_n dX11_kinds_26 rfl 5 rfl ?_
      refine x_if_lt (tgt := 35) dX11_kinds_27 (by decide) h (fun h => ?_) (fun h => ?_)
      · refine v_bipush dX11_kinds_35 bp_m2 ?_
        exact x_iret dX11_kinds_37 rfl h
      · refine v_iload_n dX11_kinds_30 rfl 5 rfl ?_
        refine v_iconst dX11_kinds_31 ic_2 ?_
        refine x_ic_le (tgt := 38) dX11_kinds_32 (by decide) h (fun h => ?_) (fun h => ?_)
        · refine v_aload_n dX11_kinds_38 rfl 2 rfl ?_
          refine x_gR dX11_kinds_39 kf_X11_75 rfl h (fun r7 h => ?_)
          refine v_aload dX11_kinds_42 1 rfl ?_
          refine v_aload dX11_kinds_44 0 rfl ?_
          refine v_iload_n dX11_kinds_46 rfl 5 rfl ?_
          refine v_aload_n dX11_kinds_47 rfl 2 rfl ?_
          refine x_gR dX11_kinds_48 kf_X11_23 rfl h (fun r8 h => ?_)
          refine x_inv (cv := cI) (As := [.ref a5, .ref a6, .int v3, .ref r8]) (rest := []) (ls2 := [(0, .ref r7), (1, .ref a5), (2, .ref a6), (3, .int v3), (4, .ref r8)]) (ci := 2) (by omega) dX11_kinds_51 ke_X2_sort kv_X11_219 rfl rfl (by decide) (Nat.le_of_ble_eq_true rfl) rfl rfl rfl rfl h (fun _ hq => s_X2_sort (by omega) hq) (fun x10 M9 h => ?_)
          exact x_iret dX11_kinds_54 rfl h
        · refine v_bipush dX11_kinds_35 bp_m2 ?_
          exact x_iret dX11_kinds_37 rfl h
def f_X6_roundsLeft (v0 : Nat) (M : jM) : jO Int32 :=
  (gI 5 M v0 2).bind fun x1 =>
  rt x1 M
theorem s_X6_roundsLeft {G : jG} {d : Nat} (hd_ : 0 ≤ d) {v0 : Nat} {M : jM} {b : Int32 × jM} (h : f_X6_roundsLeft  v0 M = some b) : V G m_X6_roundsLeft d 0 [(0, .ref v0)] [] M (jQb cI b) := by
  unfold f_X6_roundsLeft at h
  refine v_aload_n dX6_roundsLeft_0 rfl 0 rfl ?_
  refine x_gI dX6_roundsLeft_1 kf_X6_22 rfl h (fun x1 h => ?_)
  exact x_iret dX6_roundsLeft_4 rfl h
def f_X6_stage (v0 : Nat) (M : jM) : jO Int32 :=
  (gI 5 M v0 1).bind fun x1 =>
  rt x1 M
theorem s_X6_stage {G : jG} {d : Nat} (hd_ : 0 ≤ d) {v0 : Nat} {M : jM} {b : Int32 × jM} (h : f_X6_stage  v0 M = some b) : V G m_X6_stage d 0 [(0, .ref v0)] [] M (jQb cI b) := by
  unfold f_X6_stage at h
  refine v_aload_n dX6_stage_0 rfl 0 rfl ?_
  refine x_gI dX6_stage_1 kf_X6_18 rfl h (fun x1 h => ?_)
  exact x_iret dX6_stage_4 rfl h
def f_X11_left (v0 : Nat) (M : jM) : jO Int32 :=
  (gR 10 M v0 3).bind fun r1 =>
  jb2 (jiv 5 M r1 (f_X6_stage r1 M)) fun x3 M2 =>
  if x3 = 0 then
    rt (-3 : Int32) M2
  else
    (gR 10 M2 v0 3).bind fun r4 =>
    jb2 (jiv 5 M2 r4 (f_X6_roundsLeft r4 M2)) fun x6 M5 =>
    rt x6 M5
theorem s_X11_left {G : jG} {d : Nat} (hd_ : 1 ≤ d) {v0 : Nat} {M : jM} {b : Int32 × jM} (h : f_X11_left  v0 M = some b) : V G m_X11_left d 0 [(0, .ref v0)] [] M (jQb cI b) := by
  unfold f_X11_left at h
  refine v_aload_n dX11_left_0 rfl 0 rfl ?_
  refine x_gR dX11_left_1 kf_X11_30 rfl h (fun r1 h => ?_)
  refine x_inv (cv := cI) (As := []) (rest := []) (ls2 := [(0, .ref r1)]) (ci := 5) (by omega) dX11_left_4 ke_X6_stage kv_X11_160 rfl rfl (by decide) (Nat.le_of_ble_eq_true rfl) rfl rfl rfl rfl h (fun _ hq => s_X6_stage (by omega) hq) (fun x3 M2 h => ?_)
  refine x_if_ne (tgt := 15) dX11_left_7 (by decide) h (fun h => ?_) (fun h => ?_)
  · refine v_bipush dX11_left_10 bp_m3 ?_
    refine v_goto (tgt := 22) dX11_left_12 (by decide) ?_
    exact x_iret dX11_left_22 rfl h
  · refine v_aload_n dX11_left_15 rfl 0 rfl ?_
    refine x_gR dX11_left_16 kf_X11_30 rfl h (fun r4 h => ?_)
    refine x_inv (cv := cI) (As := []) (rest := []) (ls2 := [(0, .ref r4)]) (ci := 5) (by omega) dX11_left_19 ke_X6_roundsLeft kv_X11_163 rfl rfl (by decide) (Nat.le_of_ble_eq_true rfl) rfl rfl rfl rfl h (fun _ hq => s_X6_roundsLeft (by omega) hq) (fun x6 M5 h => ?_)
    exact x_iret dX11_left_22 rfl h
def f_X9_withBit (v0 : Int32) (v1 : Int32) (v2 : Int32) (M : jM) : jO Int32 :=
  if v2 = 0 then
    rt (v0 &&& (((nI 1) <<< (v1 &&& 31)) ^^^ (-1 : Int32))) M
  else
    rt (v0 ||| ((nI 1) <<< (v1 &&& 31))) M
theorem s_X9_withBit {G : jG} {d : Nat} (hd_ : 0 ≤ d) {v0 : Int32} {v1 : Int32} {v2 : Int32} {M : jM} {b : Int32 × jM} (h : f_X9_withBit  v0 v1 v2 M = some b) : V G m_X9_withBit d 0 [(0, .int v0), (1, .int v1), (2, .int v2)] [] M (jQb cI b) := by
  unfold f_X9_withBit at h
  refine v_iload_n dX9_withBit_0 rfl 2 rfl ?_
  refine x_if_eq (tgt := 12) dX9_withBit_1 (by decide) h (fun h => ?_) (fun h => ?_)
  · refine v_iload_n dX9_withBit_12 rfl 0 rfl ?_
    refine v_iconst dX9_withBit_13 ic_1 ?_
    refine v_iload_n dX9_withBit_14 rfl 1 rfl ?_
    refine v_ishl dX9_withBit_15 ?_
    refine v_iconst dX9_withBit_16 ic_m1 ?_
    refine v_ixor dX9_withBit_17 ?_
    refine v_iand dX9_withBit_18 ?_
    exact x_iret dX9_withBit_19 rfl h
  · refine v_iload_n dX9_withBit_4 rfl 0 rfl ?_
    refine v_iconst dX9_withBit_5 ic_1 ?_
    refine v_iload_n dX9_withBit_6 rfl 1 rfl ?_
    refine v_ishl dX9_withBit_7 ?_
    refine v_ior dX9_withBit_8 ?_
    refine v_goto (tgt := 19) dX9_withBit_9 (by decide) ?_
    exact x_iret dX9_withBit_19 rfl h
def f_X9_setMark (v0 : Nat) (v1 : Int32) (v2 : Int32) (v3 : Int32) (M : jM) : jO Int32 :=
  jb2 (jiv 8 M v0 (f_X9_has v0 v1 M)) fun x2 M1 =>
  if x2 = 0 then
    rZ (nI 0) M1
  else
    (gR 8 M1 v0 1).bind fun r3 =>
    (ldI M1 r3 v1).bind fun x4 =>
    (gR 8 M1 v0 1).bind fun r5 =>
    jb2 (f_X9_withBit x4 v2 v3 M1) fun x7 M6 =>
    (stI M6 r5 v1 x7).bind fun M8 =>
    (gR 8 M8 v0 1).bind fun r9 =>
    (ldI M8 r9 v1).bind fun x10 =>
    if x10 = x4 then
      rZ (nI 0) M8
    else
      rZ (nI 1) M8
theorem s_X9_setMark {G : jG} {d : Nat} (hd_ : 1 ≤ d) {v0 : Nat} {v1 : Int32} {v2 : Int32} {v3 : Int32} {M : jM} {b : Int32 × jM} (h : f_X9_setMark  v0 v1 v2 v3 M = some b) : V G m_X9_setMark d 0 [(0, .ref v0), (1, .int v1), (2, .int v2), (3, .int v3)] [] M (jQb cI b) := by
  unfold f_X9_setMark at h
  refine v_aload_n dX9_setMark_0 rfl 0 rfl ?_
  refine v_iload_n dX9_setMark_1 rfl 1 rfl ?_
  refine x_inv (cv := cI) (As := [.int v1]) (rest := []) (ls2 := [(0, .ref v0), (1, .int v1)]) (ci := 8) (by omega) dX9_setMark_2 ke_X9_has kv_X9_37 rfl rfl (by decide) (Nat.le_of_ble_eq_true rfl) rfl rfl rfl rfl h (fun _ hq => s_X9_has (by omega) hq) (fun x2 M1 h => ?_)
  refine x_if_ne (tgt := 10) dX9_setMark_5 (by decide) h (fun h => ?_) (fun h => ?_)
  · refine v_iconst dX9_setMark_8 ic_0 ?_
    exact x_zret dX9_setMark_9 rfl h
  · refine v_aload_n dX9_setMark_10 rfl 0 rfl ?_
    refine x_gR dX9_setMark_11 kf_X9_15 rfl h (fun r3 h => ?_)
    refine v_iload_n dX9_setMark_14 rfl 1 rfl ?_
    refine x_ldI dX9_setMark_15 h (fun x4 h => ?_)
    refine v_istore (ls2 := [(4, .int x4), (0, .ref v0), (1, .int v1), (2, .int v2), (3, .int v3)]) dX9_setMark_16 (by decide) rfl ?_
    refine v_aload_n dX9_setMark_18 rfl 1 rfl ?_
    refine x_gR dX9_setMark_19 kf_X9_15 rfl h (fun r5 h => ?_)
    refine v_iload_n dX9_setMark_22 rfl 2 rfl ?_
    refine v_iload dX9_setMark_23 0 rfl ?_
    refine v_iload_n dX9_setMark_25 rfl 3 rfl ?_
    refine v_iload_n dX9_setMark_26 rfl 4 rfl ?_
    refine x_invs (cv := cI) (As := [.int x4, .int v2, .int v3]) (rest := [.int v1, .ref r5]) (ls2 := [(0, .int x4), (1, .int v2), (2, .int v3)]) (by omega) dX9_setMark_27 ke_X9_withBit ks_X9_48 (Nat.le_of_ble_eq_true rfl) rfl rfl rfl rfl h (fun _ hq => s_X9_withBit (by omega) hq) (fun x7 M6 h => ?_)
    refine x_stI dX9_setMark_30 h (fun M8 h => ?_)
    refine v_aload_n dX9_setMark_31 rfl 1 rfl ?_
    refine x_gR dX9_setMark_32 kf_X9_15 rfl h (fun r9 h => ?_)
    refine v_iload_n dX9_setMark_35 rfl 2 rfl ?_
    refine x_ldI dX9_setMark_36 h (fun x10 h => ?_)
    refine v_iload dX9_setMark_37 0 rfl ?_
    refine x_ic_eq (tgt := 46) dX9_setMark_39 (by decide) h (fun h => ?_) (fun h => ?_)
    · refine v_iconst dX9_setMark_46 ic_0 ?_
      exact x_zret dX9_setMark_47 rfl h
    · refine v_iconst dX9_setMark_42 ic_1 ?_
      refine v_goto (tgt := 47) dX9_setMark_43 (by decide) ?_
      exact x_zret dX9_setMark_47 rfl h
def j_X11_mark_35  (v2 : Int32) (v3 : Int32) (v4 : Int32) (v5 : Nat) (M : jM) : jO Int32 :=
  jb2 (jiv 8 M v5 (f_X9_setMark v5 v2 v3 v4 M)) fun x2 M1 =>
  if x2 = 0 then
    rt (nI 0) M1
  else
    rt (nI 1) M1
theorem t_X11_mark_35 {G : jG} {d : Nat} (hd_ : 2 ≤ d)  {v2 : Int32} {v3 : Int32} {v4 : Int32} {v5 : Nat} {M : jM} {b : Int32 × jM} (h : j_X11_mark_35  v2 v3 v4 v5 M = some b) : V G m_X11_mark d 35 [(2, .int v2), (3, .int v3), (4, .int v4), (5, .ref v5)] [] M (jQb cI b) := by
  unfold j_X11_mark_35 at h
  refine v_aload dX11_mark_35 3 rfl ?_
  refine v_iload_n dX11_mark_37 rfl 0 rfl ?_
  refine v_iload_n dX11_mark_38 rfl 1 rfl ?_
  refine v_iload dX11_mark_39 2 rfl ?_
  refine x_inv (cv := cI) (As := [.int v2, .int v3, .int v4]) (rest := []) (ls2 := [(0, .ref v5), (1, .int v2), (2, .int v3), (3, .int v4)]) (ci := 8) (by omega) dX11_mark_41 ke_X9_setMark kv_X11_101 rfl rfl (by decide) (Nat.le_of_ble_eq_true rfl) rfl rfl rfl rfl h (fun _ hq => s_X9_setMark (by omega) hq) (fun x2 M1 h => ?_)
  refine x_if_eq (tgt := 51) dX11_mark_44 (by decide) h (fun h => ?_) (fun h => ?_)
  · refine v_iconst dX11_mark_51 ic_0 ?_
    exact x_iret dX11_mark_52 rfl h
  · refine v_iconst dX11_mark_47 ic_1 ?_
    refine v_goto (tgt := 52) dX11_mark_48 (by decide) ?_
    exact x_iret dX11_mark_52 rfl h
def f_X11_mark (v0 : Nat) (v1 : Int32) (v2 : Int32) (v3 : Int32) (v4 : Int32) (M : jM) : jO Int32 :=
  jb2 (jiv 10 M v0 (f_X11_worldOf v0 v1 M)) fun o2 M1 =>
  jnl o2 (
    rt (-1 : Int32) M1
    ) fun a3 =>
    jb2 (jiv 8 M1 a3 (f_X9_has a3 v2 M1)) fun x5 M4 =>
    if x5 = 0 then
      rt (-1 : Int32) M4
    else
      if v3 = 0 then
        j_X11_mark_35 v2 v3 v4 a3 M4
      else
        if v3 = (nI 1) then
          j_X11_mark_35 v2 v3 v4 a3 M4
        else
          rt (-2 : Int32) M4
theorem s_X11_mark {G : jG} {d : Nat} (hd_ : 2 ≤ d) {v0 : Nat} {v1 : Int32} {v2 : Int32} {v3 : Int32} {v4 : Int32} {M : jM} {b : Int32 × jM} (h : f_X11_mark  v0 v1 v2 v3 v4 M = some b) : V G m_X11_mark d 0 [(0, .ref v0), (1, .int v1), (2, .int v2), (3, .int v3), (4, .int v4)] [] M (jQb cI b) := by
  unfold f_X11_mark at h
  refine v_aload_n dX11_mark_0 rfl 0 rfl ?_
  refine v_iload_n dX11_mark_1 rfl 1 rfl ?_
  refine x_inv (cv := cN) (As := [.int v1]) (rest := []) (ls2 := [(0, .ref v0), (1, .int v1)]) (ci := 10) (by omega) dX11_mark_2 ke_X11_worldOf kv_X11_94 rfl rfl (by decide) (Nat.le_of_ble_eq_true rfl) rfl rfl rfl rfl h (fun _ hq => s_X11_worldOf (by omega) hq) (fun o2 M1 h => ?_)
  refine v_astoreQ (ls2 := [(5, va_rf o2), (0, .ref v0), (1, .int v1), (2, .int v2), (3, .int v3), (4, .int v4)]) dX11_mark_5 (by decide) rfl ?_
  refine v_aloadQ dX11_mark_7 0 rfl ?_
  cases o2 with
  | none =>
    replace h := x_nN h
    refine v_ifnullN (tgt := 21) dX11_mark_9 (by decide) ?_
    refine v_iconst dX11_mark_21 ic_m1 ?_
    exact x_iret dX11_mark_22 rfl h
  | some a3 =>
    replace h := x_nS h
    refine v_ifnull dX11_mark_9 ?_
    refine v_aload dX11_mark_12 0 rfl ?_
    refine v_iload_n dX11_mark_14 rfl 3 rfl ?_
    refine x_inv (cv := cI) (As := [.int v2]) (rest := []) (ls2 := [(0, .ref a3), (1, .int v2)]) (ci := 8) (by omega) dX11_mark_15 ke_X9_has kv_X11_97 rfl rfl (by decide) (Nat.le_of_ble_eq_true rfl) rfl rfl rfl rfl h (fun _ hq => s_X9_has (by omega) hq) (fun x5 M4 h => ?_)
    refine x_if_ne (tgt := 23) dX11_mark_18 (by decide) h (fun h => ?_) (fun h => ?_)
    · refine v_iconst dX11_mark_21 ic_m1 ?_
      exact x_iret dX11_mark_22 rfl h
    · refine v_iload_n dX11_mark_23 rfl 4 rfl ?_
      refine x_if_eq (tgt := 35) dX11_mark_24 (by decide) h (fun h => ?_) (fun h => ?_)
      · exact V.pick [3, 4, 5, 0] rfl (t_X11_mark_35 hd_ h)
      · refine v_iload_n dX11_mark_27 rfl 4 rfl ?_
        refine v_iconst dX11_mark_28 ic_1 ?_
        refine x_ic_eq (tgt := 35) dX11_mark_29 (by decide) h (fun h => ?_) (fun h => ?_)
        · exact V.pick [3, 4, 5, 0] rfl (t_X11_mark_35 hd_ h)
        · refine v_bipush dX11_mark_32 bp_m2 ?_
          exact x_iret dX11_mark_34 rfl h
def f_X10_put (v0 : Nat) (v1 : Int32) (M : jM) : jO Unit :=
  (gI 9 M v0 1).bind fun x1 =>
  if x1 < 0 then
    rt () M
  else
    (gI 9 M v0 1).bind fun x2 =>
    (gR 9 M v0 0).bind fun r3 =>
    (ln M r3).bind fun x4 =>
    if x4 ≤ x2 then
      rt () M
    else
      (gR 9 M v0 0).bind fun r5 =>
      (gI 9 M v0 1).bind fun x6 =>
      (stB M r5 x6 (Int8.toInt32 (Int32.toInt8 v1))).bind fun M7 =>
      (gI 9 M7 v0 1).bind fun x8 =>
      (pI 9 M7 v0 1 (x8 + (nI 1))).bind fun M9 =>
      rt () M9
theorem s_X10_put {G : jG} {d : Nat} (hd_ : 0 ≤ d) {v0 : Nat} {v1 : Int32} {M : jM} {b : Unit × jM} (h : f_X10_put  v0 v1 M = some b) : V G m_X10_put d 0 [(0, .ref v0), (1, .int v1)] [] M (jQb cU b) := by
  unfold f_X10_put at h
  refine v_aload_n dX10_put_0 rfl 0 rfl ?_
  refine x_gI dX10_put_1 kf_X10_15 rfl h (fun x1 h => ?_)
  refine x_if_lt (tgt := 40) dX10_put_4 (by decide) h (fun h => ?_) (fun h => ?_)
  · exact x_vret dX10_put_40 rfl h
  · refine v_aload_n dX10_put_7 rfl 0 rfl ?_
    refine x_gI dX10_put_8 kf_X10_15 rfl h (fun x2 h => ?_)
    refine v_aload_n dX10_put_11 rfl 0 rfl ?_
    refine x_gR dX10_put_12 kf_X10_9 rfl h (fun r3 h => ?_)
    refine x_ln dX10_put_15 h (fun x4 h => ?_)
    refine x_ic_ge (tgt := 40) dX10_put_16 (by decide) h (fun h => ?_) (fun h => ?_)
    · exact x_vret dX10_put_40 rfl h
    · refine v_aload_n dX10_put_19 rfl 0 rfl ?_
      refine x_gR dX10_put_20 kf_X10_9 rfl h (fun r5 h => ?_)
      refine v_aload_n dX10_put_23 rfl 0 rfl ?_
      refine x_gI dX10_put_24 kf_X10_15 rfl h (fun x6 h => ?_)
      refine v_iload_n dX10_put_27 rfl 1 rfl ?_
      refine v_i2b dX10_put_28 ?_
      refine x_stB dX10_put_29 h (fun M7 h => ?_)
      refine v_aload_n dX10_put_30 rfl 0 rfl ?_
      refine v_dup dX10_put_31 rfl ?_
      refine x_gI dX10_put_32 kf_X10_15 rfl h (fun x8 h => ?_)
      refine v_iconst dX10_put_35 ic_1 ?_
      refine v_iadd dX10_put_36 ?_
      refine x_pI dX10_put_37 kf_X10_15 rfl (fun q => Bool.noConfusion q) h (fun M9 h => ?_)
      exact x_vret dX10_put_40 rfl h
def f_X10_putVariable (v0 : Nat) (v1 : Int32) (M : jM) : jO Unit :=
  if v1 ≤ 0 then
    rt () M
  else
    jb2 (jiv 9 M v0 (f_X10_put v0 (((nI 97) + v1) - (nI 1)) M)) fun _ M1 =>
    rt () M1
theorem s_X10_putVariable {G : jG} {d : Nat} (hd_ : 1 ≤ d) {v0 : Nat} {v1 : Int32} {M : jM} {b : Unit × jM} (h : f_X10_putVariable  v0 v1 M = some b) : V G m_X10_putVariable d 0 [(0, .ref v0), (1, .int v1)] [] M (jQb cU b) := by
  unfold f_X10_putVariable at h
  refine v_iload_n dX10_putVariable_0 rfl 1 rfl ?_
  refine x_if_le (tgt := 14) dX10_putVariable_1 (by decide) h (fun h => ?_) (fun h => ?_)
  · exact x_vret dX10_putVariable_14 rfl h
  · refine v_aload_n dX10_putVariable_4 rfl 0 rfl ?_
    refine v_bipush dX10_putVariable_5 bp_97 ?_
    refine v_iload_n dX10_putVariable_7 rfl 1 rfl ?_
    refine v_iadd dX10_putVariable_8 ?_
    refine v_iconst dX10_putVariable_9 ic_1 ?_
    refine v_isub dX10_putVariable_10 ?_
    refine x_inv (cv := cU) (As := [.int (((nI 97) + v1) - (nI 1))]) (rest := []) (ls2 := [(0, .ref v0), (1, .int (((nI 97) + v1) - (nI 1)))]) (ci := 9) (by omega) dX10_putVariable_11 ke_X10_put kv_X10_51 rfl rfl (by decide) (Nat.le_of_ble_eq_true rfl) rfl rfl rfl rfl h (fun _ hq => s_X10_put (by omega) hq) (fun _ M1 h => ?_)
    exact x_vret dX10_putVariable_14 rfl h
def j_X10_writeList_70 (rec_ : Nat → Nat → Int32 → Int32 → Int32 → jM → jO Unit) (k49 : Nat → Nat → Int32 → Int32 → Int32 → Int32 → Int32 → Int32 → jM → jO Unit) (v0 : Nat) (v1 : Nat) (v2 : Int32) (v3 : Int32) (v4 : Int32) (v5 : Int32) (v6 : Int32) (v7 : Int32) (M : jM) : jO Unit :=
  jb2 (jiv 9 M v0 (rec_ v0 v1 v7 (nI 1) (v4 + (nI 1)) M)) fun _ M1 =>
  (ldI M1 v1 v7).bind fun x2 =>
  jb2 (f_X4_spanOf x2 M1) fun x4 M3 =>
  (jv (v7 + x4)).bind fun y5 =>
  k49 v0 v1 v2 v3 v4 v5 v6 y5 M3
theorem t_X10_writeList_70 {G : jG} {d : Nat} {D_ : Nat} {rec_ : Nat → Nat → Int32 → Int32 → Int32 → jM → jO Unit} (hrec_ : ∀ d2, D_ ≤ d2 → ∀ (u0 : Nat) (u1 : Nat) (u2 : Int32) (u3 : Int32) (u4 : Int32) (M : jM) b2, rec_ u0 u1 u2 u3 u4 M = some b2 → V G m_X10_writeFrom d2 0 [(0, .ref u0), (1, .ref u1), (2, .int u2), (3, .int u3), (4, .int u4)] [] M (jQb cU b2)) (hD_ : 2 ≤ D_) (hd_ : D_ + 1 ≤ d) {k49 : Nat → Nat → Int32 → Int32 → Int32 → Int32 → Int32 → Int32 → jM → jO Unit} (hk49 : ∀ (w0 : Nat) (w1 : Nat) (w2 : Int32) (w3 : Int32) (w4 : Int32) (w5 : Int32) (w6 : Int32) (w7 : Int32) (M : jM) (b : Unit × jM), k49 w0 w1 w2 w3 w4 w5 w6 w7 M = some b → V G m_X10_writeList d 49 [(0, .ref w0), (1, .ref w1), (2, .int w2), (3, .int w3), (4, .int w4), (5, .int w5), (6, .int w6), (7, .int w7)] [] M (jQb cU b)) {v0 : Nat} {v1 : Nat} {v2 : Int32} {v3 : Int32} {v4 : Int32} {v5 : Int32} {v6 : Int32} {v7 : Int32} {M : jM} {b : Unit × jM} (h : j_X10_writeList_70 rec_ k49 v0 v1 v2 v3 v4 v5 v6 v7 M = some b) : V G m_X10_writeList d 70 [(0, .ref v0), (1, .ref v1), (2, .int v2), (3, .int v3), (4, .int v4), (5, .int v5), (6, .int v6), (7, .int v7)] [] M (jQb cU b) := by
  unfold j_X10_writeList_70 at h
  refine v_aload_n dX10_writeList_70 rfl 0 rfl ?_
  refine v_aload_n dX10_writeList_71 rfl 1 rfl ?_
  refine v_iload dX10_writeList_72 7 rfl ?_
  refine v_iconst dX10_writeList_74 ic_1 ?_
  refine v_iload dX10_writeList_75 4 rfl ?_
  refine v_iconst dX10_writeList_77 ic_1 ?_
  refine v_iadd dX10_writeList_78 ?_
  refine x_inv (cv := cU) (As := [.ref v1, .int v7, .int (nI 1), .int (v4 + (nI 1))]) (rest := []) (ls2 := [(0, .ref v0), (1, .ref v1), (2, .int v7), (3, .int (nI 1)), (4, .int (v4 + (nI 1)))]) (ci := 9) (by omega) dX10_writeList_79 ke_X10_writeFrom kv_X10_19 rfl rfl (by decide) (Nat.le_of_ble_eq_true rfl) rfl rfl rfl rfl h (fun _ hq => hrec_ _ (by omega) _ _ _ _ _ _ _ hq) (fun _ M1 h => ?_)
  refine v_iload dX10_writeList_82 7 rfl ?_
  refine v_aload_n dX10_writeList_84 rfl 1 rfl ?_
  refine v_iload dX10_writeList_85 7 rfl ?_
  refine x_ldI dX10_writeList_87 h (fun x2 h => ?_)
  refine x_invs (cv := cI) (As := [.int x2]) (rest := [.int v7]) (ls2 := [(0, .int x2)]) (by omega) dX10_writeList_88 ke_X4_spanOf ks_X10_67 (Nat.le_of_ble_eq_true rfl) rfl rfl rfl rfl h (fun _ hq => s_X4_spanOf (by omega) hq) (fun x4 M3 h => ?_)
  refine v_iadd dX10_writeList_91 ?_
  refine x_jvI h (fun y5 h => ?_)
  refine v_istore (ls2 := [(7, .int y5), (0, .ref v0), (1, .ref v1), (2, .int v2), (3, .int v3), (4, .int v4), (5, .int v5), (6, .int v6)]) dX10_writeList_92 (by decide) rfl ?_
  refine v_goto (tgt := 49) dX10_writeList_94 (by decide) ?_
  exact V.pick [1, 2, 3, 4, 5, 6, 7, 0] rfl (hk49 _ _ _ _ _ _ _ _ _ _ h)
def b_X10_writeList_49 (rec_ : Nat → Nat → Int32 → Int32 → Int32 → jM → jO Unit)  (k49 : Nat → Nat → Int32 → Int32 → Int32 → Int32 → Int32 → Int32 → jM → jO Unit) (v0 : Nat) (v1 : Nat) (v2 : Int32) (v3 : Int32) (v4 : Int32) (v5 : Int32) (v6 : Int32) (v7 : Int32) (M : jM) : jO Unit :=
  if v6 ≤ v7 then
    if v3 = 0 then
      rt () M
    else
      jb2 (jiv 9 M v0 (f_X10_put v0 (nI 41) M)) fun _ M1 =>
      rt () M1
  else
    if v7 ≤ (v2 + (nI 1)) then
      j_X10_writeList_70 rec_ k49 v0 v1 v2 v3 v4 v5 v6 v7 M
    else
      jb2 (jiv 9 M v0 (f_X10_put v0 v5 M)) fun _ M2 =>
      j_X10_writeList_70 rec_ k49 v0 v1 v2 v3 v4 v5 v6 v7 M2
def l_X10_writeList_49 (rec_ : Nat → Nat → Int32 → Int32 → Int32 → jM → jO Unit)  : Nat → Nat → Nat → Int32 → Int32 → Int32 → Int32 → Int32 → Int32 → jM → jO Unit
  | 0 => fun _ _ _ _ _ _ _ _ _ => none
  | n + 1 => b_X10_writeList_49 rec_ (l_X10_writeList_49 rec_ n)
theorem tb_X10_writeList_49 {G : jG} {d : Nat} {D_ : Nat} {rec_ : Nat → Nat → Int32 → Int32 → Int32 → jM → jO Unit} (hrec_ : ∀ d2, D_ ≤ d2 → ∀ (u0 : Nat) (u1 : Nat) (u2 : Int32) (u3 : Int32) (u4 : Int32) (M : jM) b2, rec_ u0 u1 u2 u3 u4 M = some b2 → V G m_X10_writeFrom d2 0 [(0, .ref u0), (1, .ref u1), (2, .int u2), (3, .int u3), (4, .int u4)] [] M (jQb cU b2)) (hD_ : 2 ≤ D_) (hd_ : D_ + 1 ≤ d)  {k49 : Nat → Nat → Int32 → Int32 → Int32 → Int32 → Int32 → Int32 → jM → jO Unit} (hk49 : ∀ (w0 : Nat) (w1 : Nat) (w2 : Int32) (w3 : Int32) (w4 : Int32) (w5 : Int32) (w6 : Int32) (w7 : Int32) (M : jM) (b : Unit × jM), k49 w0 w1 w2 w3 w4 w5 w6 w7 M = some b → V G m_X10_writeList d 49 [(0, .ref w0), (1, .ref w1), (2, .int w2), (3, .int w3), (4, .int w4), (5, .int w5), (6, .int w6), (7, .int w7)] [] M (jQb cU b)) {v0 : Nat} {v1 : Nat} {v2 : Int32} {v3 : Int32} {v4 : Int32} {v5 : Int32} {v6 : Int32} {v7 : Int32} {M : jM} {b : Unit × jM} (h : b_X10_writeList_49 rec_ k49 v0 v1 v2 v3 v4 v5 v6 v7 M = some b) : V G m_X10_writeList d 49 [(0, .ref v0), (1, .ref v1), (2, .int v2), (3, .int v3), (4, .int v4), (5, .int v5), (6, .int v6), (7, .int v7)] [] M (jQb cU b) := by
  unfold b_X10_writeList_49 at h
  refine v_iload dX10_writeList_49 7 rfl ?_
  refine v_iload dX10_writeList_51 6 rfl ?_
  refine x_ic_ge (tgt := 97) dX10_writeList_53 (by decide) h (fun h => ?_) (fun h => ?_)
  · refine v_iload_n dX10_writeList_97 rfl 3 rfl ?_
    refine x_if_eq (tgt := 107) dX10_writeList_98 (by decide) h (fun h => ?_) (fun h => ?_)
    · exact x_vret dX10_writeList_107 rfl h
    · refine v_aload_n dX10_writeList_101 rfl 0 rfl ?_
      refine v_bipush dX10_writeList_102 bp_41 ?_
      refine x_inv (cv := cU) (As := [.int (nI 41)]) (rest := []) (ls2 := [(0, .ref v0), (1, .int (nI 41))]) (ci := 9) (by omega) dX10_writeList_104 ke_X10_put kv_X10_51 rfl rfl (by decide) (Nat.le_of_ble_eq_true rfl) rfl rfl rfl rfl h (fun _ hq => s_X10_put (by omega) hq) (fun _ M1 h => ?_)
      exact x_vret dX10_writeList_107 rfl h
  · refine v_iload dX10_writeList_56 7 rfl ?_
    refine v_iload_n dX10_writeList_58 rfl 2 rfl ?_
    refine v_iconst dX10_writeList_59 ic_1 ?_
    refine v_iadd dX10_writeList_60 ?_
    refine x_ic_le (tgt := 70) dX10_writeList_61 (by decide) h (fun h => ?_) (fun h => ?_)
    · exact t_X10_writeList_70 hrec_ hD_ hd_ hk49 h
    · refine v_aload_n dX10_writeList_64 rfl 0 rfl ?_
      refine v_iload dX10_writeList_65 5 rfl ?_
      refine x_inv (cv := cU) (As := [.int v5]) (rest := []) (ls2 := [(0, .ref v0), (1, .int v5)]) (ci := 9) (by omega) dX10_writeList_67 ke_X10_put kv_X10_51 rfl rfl (by decide) (Nat.le_of_ble_eq_true rfl) rfl rfl rfl rfl h (fun _ hq => s_X10_put (by omega) hq) (fun _ M2 h => ?_)
      exact t_X10_writeList_70 hrec_ hD_ hd_ hk49 h
theorem t_X10_writeList_49 {G : jG} {d : Nat} {D_ : Nat} {rec_ : Nat → Nat → Int32 → Int32 → Int32 → jM → jO Unit} (hrec_ : ∀ d2, D_ ≤ d2 → ∀ (u0 : Nat) (u1 : Nat) (u2 : Int32) (u3 : Int32) (u4 : Int32) (M : jM) b2, rec_ u0 u1 u2 u3 u4 M = some b2 → V G m_X10_writeFrom d2 0 [(0, .ref u0), (1, .ref u1), (2, .int u2), (3, .int u3), (4, .int u4)] [] M (jQb cU b2)) (hD_ : 2 ≤ D_) (hd_ : D_ + 1 ≤ d)  : ∀ (n : Nat) (v0 : Nat) (v1 : Nat) (v2 : Int32) (v3 : Int32) (v4 : Int32) (v5 : Int32) (v6 : Int32) (v7 : Int32) (M : jM) (b : Unit × jM), l_X10_writeList_49 rec_ n v0 v1 v2 v3 v4 v5 v6 v7 M = some b → V G m_X10_writeList d 49 [(0, .ref v0), (1, .ref v1), (2, .int v2), (3, .int v3), (4, .int v4), (5, .int v5), (6, .int v6), (7, .int v7)] [] M (jQb cU b) := by
  intro n
  induction n with
  | zero => intro v0 v1 v2 v3 v4 v5 v6 v7 M b h; exact nomatch (show (none : jO Unit) = some b from h)
  | succ n ih => intro v0 v1 v2 v3 v4 v5 v6 v7 M b h; exact tb_X10_writeList_49 hrec_ hD_ hd_  ih h
def j_X10_writeList_44 (rec_ : Nat → Nat → Int32 → Int32 → Int32 → jM → jO Unit)  (v0 : Nat) (v1 : Nat) (v2 : Int32) (v3 : Int32) (v4 : Int32) (v5 : Int32) (v6 : Int32) (M : jM) : jO Unit :=
  (jv (v2 + (nI 1))).bind fun y1 =>
  l_X10_writeList_49 rec_ jF0 v0 v1 v2 v3 v4 v5 v6 y1 M
theorem t_X10_writeList_44 {G : jG} {d : Nat} {D_ : Nat} {rec_ : Nat → Nat → Int32 → Int32 → Int32 → jM → jO Unit} (hrec_ : ∀ d2, D_ ≤ d2 → ∀ (u0 : Nat) (u1 : Nat) (u2 : Int32) (u3 : Int32) (u4 : Int32) (M : jM) b2, rec_ u0 u1 u2 u3 u4 M = some b2 → V G m_X10_writeFrom d2 0 [(0, .ref u0), (1, .ref u1), (2, .int u2), (3, .int u3), (4, .int u4)] [] M (jQb cU b2)) (hD_ : 2 ≤ D_) (hd_ : D_ + 1 ≤ d)  {v0 : Nat} {v1 : Nat} {v2 : Int32} {v3 : Int32} {v4 : Int32} {v5 : Int32} {v6 : Int32} {M : jM} {b : Unit × jM} (h : j_X10_writeList_44 rec_ v0 v1 v2 v3 v4 v5 v6 M = some b) : V G m_X10_writeList d 44 [(0, .ref v0), (1, .ref v1), (2, .int v2), (3, .int v3), (4, .int v4), (5, .int v5), (6, .int v6)] [] M (jQb cU b) := by
  unfold j_X10_writeList_44 at h
  refine v_iload_n dX10_writeList_44 rfl 2 rfl ?_
  refine v_iconst dX10_writeList_45 ic_1 ?_
  refine v_iadd dX10_writeList_46 ?_
  refine x_jvI h (fun y1 h => ?_)
  refine v_istore (ls2 := [(7, .int y1), (0, .ref v0), (1, .ref v1), (2, .int v2), (3, .int v3), (4, .int v4), (5, .int v5), (6, .int v6)]) dX10_writeList_47 (by decide) rfl ?_
  exact V.pick [1, 2, 3, 4, 5, 6, 7, 0] rfl (t_X10_writeList_49 hrec_ hD_ hd_ _ _ _ _ _ _ _ _ _ _ _ h)
def f_X10_writeList (rec_ : Nat → Nat → Int32 → Int32 → Int32 → jM → jO Unit) (v0 : Nat) (v1 : Nat) (v2 : Int32) (v3 : Int32) (v4 : Int32) (M : jM) : jO Unit :=
  if v2 < 0 then
    rt () M
  else
    (ln M v1).bind fun x1 =>
    if v2 < x1 then
      (ldI M v1 v2).bind fun x2 =>
      jb2 (f_X4_signOf x2 M) fun x4 M3 =>
      (ln M3 v1).bind fun x5 =>
      (ldI M3 v1 v2).bind fun x6 =>
      jb2 (f_X4_spanOf x6 M3) fun x8 M7 =>
      (jv (jmn x5 (v2 + x8))).bind fun y9 =>
      if v3 = 0 then
        j_X10_writeList_44 rec_ v0 v1 v2 v3 v4 x4 y9 M7
      else
        jb2 (jiv 9 M7 v0 (f_X10_put v0 (nI 40) M7)) fun _ M10 =>
        j_X10_writeList_44 rec_ v0 v1 v2 v3 v4 x4 y9 M10
    else
      rt () M
theorem s_X10_writeList {G : jG} {d : Nat} {D_ : Nat} {rec_ : Nat → Nat → Int32 → Int32 → Int32 → jM → jO Unit} (hrec_ : ∀ d2, D_ ≤ d2 → ∀ (u0 : Nat) (u1 : Nat) (u2 : Int32) (u3 : Int32) (u4 : Int32) (M : jM) b2, rec_ u0 u1 u2 u3 u4 M = some b2 → V G m_X10_writeFrom d2 0 [(0, .ref u0), (1, .ref u1), (2, .int u2), (3, .int u3), (4, .int u4)] [] M (jQb cU b2)) (hD_ : 2 ≤ D_) (hd_ : D_ + 1 ≤ d) {v0 : Nat} {v1 : Nat} {v2 : Int32} {v3 : Int32} {v4 : Int32} {M : jM} {b : Unit × jM} (h : f_X10_writeList rec_ v0 v1 v2 v3 v4 M = some b) : V G m_X10_writeList d 0 [(0, .ref v0), (1, .ref v1), (2, .int v2), (3, .int v3), (4, .int v4)] [] M (jQb cU b) := by
  unfold f_X10_writeList at h
  refine v_iload_n dX10_writeList_0 rfl 2 rfl ?_
  refine x_if_lt (tgt := 10) dX10_writeList_1 (by decide) h (fun h => ?_) (fun h => ?_)
  · exact x_vret dX10_writeList_10 rfl h
  · refine v_iload_n dX10_writeList_4 rfl 2 rfl ?_
    refine v_aload_n dX10_writeList_5 rfl 1 rfl ?_
    refine x_ln dX10_writeList_6 h (fun x1 h => ?_)
    refine x_ic_lt (tgt := 11) dX10_writeList_7 (by decide) h (fun h => ?_) (fun h => ?_)
    · refine v_aload_n dX10_writeList_11 rfl 1 rfl ?_
      refine v_iload_n dX10_writeList_12 rfl 2 rfl ?_
      refine x_ldI dX10_writeList_13 h (fun x2 h => ?_)
      refine x_invs (cv := cI) (As := [.int x2]) (rest := []) (ls2 := [(0, .int x2)]) (by omega) dX10_writeList_14 ke_X4_signOf ks_X10_38 (Nat.le_of_ble_eq_true rfl) rfl rfl rfl rfl h (fun _ hq => s_X4_signOf (by omega) hq) (fun x4 M3 h => ?_)
      refine v_istore (ls2 := [(5, .int x4), (0, .ref v0), (1, .ref v1), (2, .int v2), (3, .int v3), (4, .int v4)]) dX10_writeList_17 (by decide) rfl ?_
      refine v_aload_n dX10_writeList_19 rfl 2 rfl ?_
      refine x_ln dX10_writeList_20 h (fun x5 h => ?_)
      refine v_iload_n dX10_writeList_21 rfl 3 rfl ?_
      refine v_aload_n dX10_writeList_22 rfl 2 rfl ?_
      refine v_iload_n dX10_writeList_23 rfl 3 rfl ?_
      refine x_ldI dX10_writeList_24 h (fun x6 h => ?_)
      refine x_invs (cv := cI) (As := [.int x6]) (rest := [.int v2, .int x5]) (ls2 := [(0, .int x6)]) (by omega) dX10_writeList_25 ke_X4_spanOf ks_X10_67 (Nat.le_of_ble_eq_true rfl) rfl rfl rfl rfl h (fun _ hq => s_X4_spanOf (by omega) hq) (fun x8 M7 h => ?_)
      refine v_iadd dX10_writeList_28 ?_
      refine v_mmin (by omega) dX10_writeList_29 kh_X10_23 rfl ?_
      refine x_jvI h (fun y9 h => ?_)
      refine v_istore (ls2 := [(6, .int y9), (5, .int x4), (0, .ref v0), (1, .ref v1), (2, .int v2), (3, .int v3), (4, .int v4)]) dX10_writeList_32 (by decide) rfl ?_
      refine v_iload_n dX10_writeList_34 rfl 5 rfl ?_
      refine x_if_eq (tgt := 44) dX10_writeList_35 (by decide) h (fun h => ?_) (fun h => ?_)
      · exact V.pick [2, 3, 4, 5, 6, 1, 0] rfl (t_X10_writeList_44 hrec_ hD_ hd_ h)
      · refine v_aload_n dX10_writeList_38 rfl 2 rfl ?_
        refine v_bipush dX10_writeList_39 bp_40 ?_
        refine x_inv (cv := cU) (As := [.int (nI 40)]) (rest := []) (ls2 := [(0, .ref v0), (1, .int (nI 40))]) (ci := 9) (by omega) dX10_writeList_41 ke_X10_put kv_X10_51 rfl rfl (by decide) (Nat.le_of_ble_eq_true rfl) rfl rfl rfl rfl h (fun _ hq => s_X10_put (by omega) hq) (fun _ M10 h => ?_)
        exact V.pick [2, 3, 4, 5, 6, 1, 0] rfl (t_X10_writeList_44 hrec_ hD_ hd_ h)
    · exact x_vret dX10_writeList_10 rfl h
def j_X10_writeFrom_85 (rec_ : Nat → Nat → Int32 → Int32 → Int32 → jM → jO Unit)  (v0 : Nat) (v1 : Nat) (v2 : Int32) (v4 : Int32) (M : jM) : jO Unit :=
  jb2 (jiv 9 M v0 (rec_ v0 v1 (v2 + (nI 1)) (nI 1) (v4 + (nI 1)) M)) fun _ M1 =>
  rt () M1
theorem t_X10_writeFrom_85 {G : jG} {d : Nat} {D_ : Nat} {rec_ : Nat → Nat → Int32 → Int32 → Int32 → jM → jO Unit} (hrec_ : ∀ d2, D_ ≤ d2 → ∀ (u0 : Nat) (u1 : Nat) (u2 : Int32) (u3 : Int32) (u4 : Int32) (M : jM) b2, rec_ u0 u1 u2 u3 u4 M = some b2 → V G m_X10_writeFrom d2 0 [(0, .ref u0), (1, .ref u1), (2, .int u2), (3, .int u3), (4, .int u4)] [] M (jQb cU b2)) (hD_ : 2 ≤ D_) (hd_ : D_ + 2 ≤ d)  {v0 : Nat} {v1 : Nat} {v2 : Int32} {v4 : Int32} {M : jM} {b : Unit × jM} (h : j_X10_writeFrom_85 rec_ v0 v1 v2 v4 M = some b) : V G m_X10_writeFrom d 85 [(0, .ref v0), (1, .ref v1), (2, .int v2), (4, .int v4)] [] M (jQb cU b) := by
  unfold j_X10_writeFrom_85 at h
  refine v_aload_n dX10_writeFrom_85 rfl 0 rfl ?_
  refine v_aload_n dX10_writeFrom_86 rfl 1 rfl ?_
  refine v_iload_n dX10_writeFrom_87 rfl 2 rfl ?_
  refine v_iconst dX10_writeFrom_88 ic_1 ?_
  refine v_iadd dX10_writeFrom_89 ?_
  refine v_iconst dX10_writeFrom_90 ic_1 ?_
  refine v_iload dX10_writeFrom_91 3 rfl ?_
  refine v_iconst dX10_writeFrom_93 ic_1 ?_
  refine v_iadd dX10_writeFrom_94 ?_
  refine x_inv (cv := cU) (As := [.ref v1, .int (v2 + (nI 1)), .int (nI 1), .int (v4 + (nI 1))]) (rest := []) (ls2 := [(0, .ref v0), (1, .ref v1), (2, .int (v2 + (nI 1))), (3, .int (nI 1)), (4, .int (v4 + (nI 1)))]) (ci := 9) (by omega) dX10_writeFrom_95 ke_X10_writeFrom kv_X10_19 rfl rfl (by decide) (Nat.le_of_ble_eq_true rfl) rfl rfl rfl rfl h (fun _ hq => hrec_ _ (by omega) _ _ _ _ _ _ _ hq) (fun _ M1 h => ?_)
  exact x_vret dX10_writeFrom_98 rfl h
def g_X10_writeFrom (rec_ : Nat → Nat → Int32 → Int32 → Int32 → jM → jO Unit) (v0 : Nat) (v1 : Nat) (v2 : Int32) (v3 : Int32) (v4 : Int32) (M : jM) : jO Unit :=
  if v2 < 0 then
    rt () M
  else
    (ln M v1).bind fun x1 =>
    if x1 ≤ v2 then
      rt () M
    else
      if v4 ≤ (nI 30) then
        (ldI M v1 v2).bind fun x2 =>
        jb2 (f_X4_signOf x2 M) fun x4 M3 =>
        jb2 (f_X4_isList x4 M3) fun x6 M5 =>
        if x6 = 0 then
          jb2 (jiv 9 M5 v0 (f_X10_put v0 x4 M5)) fun _ M7 =>
          (ldI M7 v1 v2).bind fun x8 =>
          jb2 (f_X4_firstOf x8 M7) fun x10 M9 =>
          jb2 (jiv 9 M9 v0 (f_X10_putVariable v0 x10 M9)) fun _ M11 =>
          (ldI M11 v1 v2).bind fun x12 =>
          jb2 (f_X4_secondOf x12 M11) fun x14 M13 =>
          jb2 (jiv 9 M13 v0 (f_X10_putVariable v0 x14 M13)) fun _ M15 =>
          if x4 = (nI 45) then
            j_X10_writeFrom_85 rec_ v0 v1 v2 v4 M15
          else
            jb2 (f_X4_isQuantifier x4 M15) fun x17 M16 =>
            if x17 = 0 then
              rt () M16
            else
              j_X10_writeFrom_85 rec_ v0 v1 v2 v4 M16
        else
          jb2 (jiv 9 M5 v0 (f_X10_writeList rec_ v0 v1 v2 v3 v4 M5)) fun _ M18 =>
          rt () M18
      else
        rt () M
theorem sg_X10_writeFrom {G : jG} {d : Nat} {D_ : Nat} {rec_ : Nat → Nat → Int32 → Int32 → Int32 → jM → jO Unit} (hrec_ : ∀ d2, D_ ≤ d2 → ∀ (u0 : Nat) (u1 : Nat) (u2 : Int32) (u3 : Int32) (u4 : Int32) (M : jM) b2, rec_ u0 u1 u2 u3 u4 M = some b2 → V G m_X10_writeFrom d2 0 [(0, .ref u0), (1, .ref u1), (2, .int u2), (3, .int u3), (4, .int u4)] [] M (jQb cU b2)) (hD_ : 2 ≤ D_) (hd_ : D_ + 2 ≤ d) {v0 : Nat} {v1 : Nat} {v2 : Int32} {v3 : Int32} {v4 : Int32} {M : jM} {b : Unit × jM} (h : g_X10_writeFrom rec_ v0 v1 v2 v3 v4 M = some b) : V G m_X10_writeFrom d 0 [(0, .ref v0), (1, .ref v1), (2, .int v2), (3, .int v3), (4, .int v4)] [] M (jQb cU b) := by
  unfold g_X10_writeFrom at h
  refine v_iload_n dX10_writeFrom_0 rfl 2 rfl ?_
  refine x_if_lt (tgt := 17) dX10_writeFrom_1 (by decide) h (fun h => ?_) (fun h => ?_)
  · exact x_vret dX10_writeFrom_17 rfl h
  · refine v_iload_n dX10_writeFrom_4 rfl 2 rfl ?_
    refine v_aload_n dX10_writeFrom_5 rfl 1 rfl ?_
    refine x_ln dX10_writeFrom_6 h (fun x1 h => ?_)
    refine x_ic_ge (tgt := 17) dX10_writeFrom_7 (by decide) h (fun h => ?_) (fun h => ?_)
    · exact x_vret dX10_writeFrom_17 rfl h
    · refine v_iload dX10_writeFrom_10 4 rfl ?_
      refine v_bipush dX10_writeFrom_12 bp_30 ?_
      refine x_ic_le (tgt := 18) dX10_writeFrom_14 (by decide) h (fun h => ?_) (fun h => ?_)
      · refine v_aload_n dX10_writeFrom_18 rfl 1 rfl ?_
        refine v_iload_n dX10_writeFrom_19 rfl 2 rfl ?_
        refine x_ldI dX10_writeFrom_20 h (fun x2 h => ?_)
        refine x_invs (cv := cI) (As := [.int x2]) (rest := []) (ls2 := [(0, .int x2)]) (by omega) dX10_writeFrom_21 ke_X4_signOf ks_X10_38 (Nat.le_of_ble_eq_true rfl) rfl rfl rfl rfl h (fun _ hq => s_X4_signOf (by omega) hq) (fun x4 M3 h => ?_)
        refine v_istore (ls2 := [(5, .int x4), (0, .ref v0), (1, .ref v1), (2, .int v2), (3, .int v3), (4, .int v4)]) dX10_writeFrom_24 (by decide) rfl ?_
        refine v_iload dX10_writeFrom_26 0 rfl ?_
        refine x_invs (cv := cI) (As := [.int x4]) (rest := []) (ls2 := [(0, .int x4)]) (by omega) dX10_writeFrom_28 ke_X4_isList ks_X10_44 (Nat.le_of_ble_eq_true rfl) rfl rfl rfl rfl h (fun _ hq => s_X4_isList (by omega) hq) (fun x6 M5 h => ?_)
        refine x_if_eq (tgt := 44) dX10_writeFrom_31 (by decide) h (fun h => ?_) (fun h => ?_)
        · refine v_aload_n dX10_writeFrom_44 rfl 1 rfl ?_
          refine v_iload dX10_writeFrom_45 0 rfl ?_
          refine x_inv (cv := cU) (As := [.int x4]) (rest := []) (ls2 := [(0, .ref v0), (1, .int x4)]) (ci := 9) (by omega) dX10_writeFrom_47 ke_X10_put kv_X10_51 rfl rfl (by decide) (Nat.le_of_ble_eq_true rfl) rfl rfl rfl rfl h (fun _ hq => s_X10_put (by omega) hq) (fun _ M7 h => ?_)
          refine v_aload_n dX10_writeFrom_50 rfl 1 rfl ?_
          refine v_aload_n dX10_writeFrom_51 rfl 2 rfl ?_
          refine v_iload_n dX10_writeFrom_52 rfl 3 rfl ?_
          refine x_ldI dX10_writeFrom_53 h (fun x8 h => ?_)
          refine x_invs (cv := cI) (As := [.int x8]) (rest := [.ref v0]) (ls2 := [(0, .int x8)]) (by omega) dX10_writeFrom_54 ke_X4_firstOf ks_X10_55 (Nat.le_of_ble_eq_true rfl) rfl rfl rfl rfl h (fun _ hq => s_X4_firstOf (by omega) hq) (fun x10 M9 h => ?_)
          refine x_inv (cv := cU) (As := [.int x10]) (rest := []) (ls2 := [(0, .ref v0), (1, .int x10)]) (ci := 9) (by omega) dX10_writeFrom_57 ke_X10_putVariable kv_X10_58 rfl rfl (by decide) (Nat.le_of_ble_eq_true rfl) rfl rfl rfl rfl h (fun _ hq => s_X10_putVariable (by omega) hq) (fun _ M11 h => ?_)
          refine v_aload_n dX10_writeFrom_60 rfl 1 rfl ?_
          refine v_aload_n dX10_writeFrom_61 rfl 2 rfl ?_
          refine v_iload_n dX10_writeFrom_62 rfl 3 rfl ?_
          refine x_ldI dX10_writeFrom_63 h (fun x12 h => ?_)
          refine x_invs (cv := cI) (As := [.int x12]) (rest := [.ref v0]) (ls2 := [(0, .int x12)]) (by omega) dX10_writeFrom_64 ke_X4_secondOf ks_X10_61 (Nat.le_of_ble_eq_true rfl) rfl rfl rfl rfl h (fun _ hq => s_X4_secondOf (by omega) hq) (fun x14 M13 h => ?_)
          refine x_inv (cv := cU) (As := [.int x14]) (rest := []) (ls2 := [(0, .ref v0), (1, .int x14)]) (ci := 9) (by omega) dX10_writeFrom_67 ke_X10_putVariable kv_X10_58 rfl rfl (by decide) (Nat.le_of_ble_eq_true rfl) rfl rfl rfl rfl h (fun _ hq => s_X10_putVariable (by omega) hq) (fun _ M15 h => ?_)
          refine v_iload dX10_writeFrom_70 0 rfl ?_
          refine v_bipush dX10_writeFrom_72 bp_45 ?_
          refine x_ic_eq (tgt := 85) dX10_writeFrom_74 (by decide) h (fun h => ?_) (fun h => ?_)
          · exact V.pick [1, 2, 3, 5] rfl (t_X10_writeFrom_85 hrec_ hD_ hd_ h)
          · refine v_iload dX10_writeFrom_77 0 rfl ?_
            refine x_invs (cv := cI) (As := [.int x4]) (rest := []) (ls2 := [(0, .int x4)]) (by omega) dX10_writeFrom_79 ke_X4_isQuantifier ks_X10_64 (Nat.le_of_ble_eq_true rfl) rfl rfl rfl rfl h (fun _ hq => s_X4_isQuantifier (by omega) hq) (fun x17 M16 h => ?_)
            refine x_if_eq (tgt := 98) dX10_writeFrom_82 (by decide) h (fun h => ?_) (fun h => ?_)
            · exact x_vret dX10_writeFrom_98 rfl h
            · exact V.pick [1, 2, 3, 5] rfl (t_X10_writeFrom_85 hrec_ hD_ hd_ h)
        · refine v_aload_n dX10_writeFrom_34 rfl 1 rfl ?_
          refine v_aload_n dX10_writeFrom_35 rfl 2 rfl ?_
          refine v_iload_n dX10_writeFrom_36 rfl 3 rfl ?_
          refine v_iload_n dX10_writeFrom_37 rfl 4 rfl ?_
          refine v_iload dX10_writeFrom_38 5 rfl ?_
          refine x_inv (cv := cU) (As := [.ref v1, .int v2, .int v3, .int v4]) (rest := []) (ls2 := [(0, .ref v0), (1, .ref v1), (2, .int v2), (3, .int v3), (4, .int v4)]) (ci := 9) (by omega) dX10_writeFrom_40 ke_X10_writeList kv_X10_48 rfl rfl (by decide) (Nat.le_of_ble_eq_true rfl) rfl rfl rfl rfl h (fun _ hq => s_X10_writeList hrec_ (by omega) (by omega) hq) (fun _ M18 h => ?_)
          exact x_vret dX10_writeFrom_43 rfl h
      · exact x_vret dX10_writeFrom_17 rfl h
def f_X10_writeFrom : Nat → Nat → Nat → Int32 → Int32 → Int32 → jM → jO Unit
  | 0 => fun _ _ _ _ _ _ => none
  | n + 1 => g_X10_writeFrom (f_X10_writeFrom n)
theorem s_X10_writeFrom {G : jG} : ∀ (n d : Nat), 2 + 2 * n ≤ d → ∀ (v0 : Nat) (v1 : Nat) (v2 : Int32) (v3 : Int32) (v4 : Int32) (M : jM) (b : Unit × jM), f_X10_writeFrom n v0 v1 v2 v3 v4 M = some b → V G m_X10_writeFrom d 0 [(0, .ref v0), (1, .ref v1), (2, .int v2), (3, .int v3), (4, .int v4)] [] M (jQb cU b) := by
  intro n
  induction n with
  | zero => intro d hd v0 v1 v2 v3 v4 M b h; exact nomatch (show (none : jO Unit) = some b from h)
  | succ n ih => intro d hd v0 v1 v2 v3 v4 M b h; exact sg_X10_writeFrom (D_ := 2 + 2 * n) (fun d2 hd2 => ih d2 hd2) (by omega) (by omega) h
def f_X10_write (v0 : Nat) (v1 : Nat) (M : jM) : jO Nat :=
  (pI 9 M v0 1 (nI 0)).bind fun M1 =>
  jb2 (jiv 9 M1 v0 (f_X10_writeFrom jR0 v0 v1 (nI 0) (nI 0) (nI 0) M1)) fun _ M2 =>
  (gR 9 M2 v0 0).bind fun r3 =>
  (gI 9 M2 v0 1).bind fun x4 =>
  (gR 9 M2 v0 0).bind fun r5 =>
  (ln M2 r5).bind fun x6 =>
  jb2 (f_J7_copyOf_9075b r3 (jmx (nI 0) (jmn x4 x6)) M2) fun r8 M7 =>
  rt r8 M7
theorem s_X10_write {G : jG} {d : Nat} (hd_ : 83 ≤ d) {v0 : Nat} {v1 : Nat} {M : jM} {b : Nat × jM} (h : f_X10_write  v0 v1 M = some b) : V G m_X10_write d 0 [(0, .ref v0), (1, .ref v1)] [] M (jQb cR b) := by
  unfold f_X10_write at h
  refine v_aload_n dX10_write_0 rfl 0 rfl ?_
  refine v_iconst dX10_write_1 ic_0 ?_
  refine x_pI dX10_write_2 kf_X10_15 rfl (fun q => Bool.noConfusion q) h (fun M1 h => ?_)
  refine v_aload_n dX10_write_5 rfl 0 rfl ?_
  refine v_aload_n dX10_write_6 rfl 1 rfl ?_
  refine v_iconst dX10_write_7 ic_0 ?_
  refine v_iconst dX10_write_8 ic_0 ?_
  refine v_iconst dX10_write_9 ic_0 ?_
  refine x_inv (cv := cU) (As := [.ref v1, .int (nI 0), .int (nI 0), .int (nI 0)]) (rest := []) (ls2 := [(0, .ref v0), (1, .ref v1), (2, .int (nI 0)), (3, .int (nI 0)), (4, .int (nI 0))]) (ci := 9) (by omega) dX10_write_10 ke_X10_writeFrom kv_X10_19 rfl rfl (by decide) (Nat.le_of_ble_eq_true rfl) rfl rfl rfl rfl h (fun _ hq => s_X10_writeFrom _ _ (by have := jR0_eq; omega) _ _ _ _ _ _ _ hq) (fun _ M2 h => ?_)
  refine v_aload_n dX10_write_13 rfl 0 rfl ?_
  refine x_gR dX10_write_14 kf_X10_9 rfl h (fun r3 h => ?_)
  refine v_iconst dX10_write_17 ic_0 ?_
  refine v_aload_n dX10_write_18 rfl 0 rfl ?_
  refine x_gI dX10_write_19 kf_X10_15 rfl h (fun x4 h => ?_)
  refine v_aload_n dX10_write_22 rfl 0 rfl ?_
  refine x_gR dX10_write_23 kf_X10_9 rfl h (fun r5 h => ?_)
  refine x_ln dX10_write_26 h (fun x6 h => ?_)
  refine v_mmin (by omega) dX10_write_27 kh_X10_23 rfl ?_
  refine v_mmax (by omega) dX10_write_30 kh_X10_29 rfl ?_
  refine x_invs (cv := cR) (As := [.ref r3, .int (jmx (nI 0) (jmn x4 x6))]) (rest := []) (ls2 := [(0, .ref r3), (1, .int (jmx (nI 0) (jmn x4 x6)))]) (by omega) dX10_write_33 ke_J7_copyOf_9075b ks_X10_32 (Nat.le_of_ble_eq_true rfl) rfl rfl rfl rfl h (fun _ hq => s_J7_copyOf_9075b (by omega) hq) (fun r8 M7 h => ?_)
  exact x_aret dX10_write_36 rfl (Or.inr ⟨_, rfl⟩) h
def f_X4_copy (v0 : Nat) (M : jM) : jO Nat :=
  (gR 4 M v0 0).bind fun r1 =>
  (gI 4 M v0 1).bind fun x2 =>
  (gR 4 M v0 0).bind fun r3 =>
  (ln M r3).bind fun x4 =>
  jb2 (f_J7_copyOf_59c91 r1 (jmx (nI 0) (jmn x2 x4)) M) fun r6 M5 =>
  rt r6 M5
theorem s_X4_copy {G : jG} {d : Nat} (hd_ : 2 ≤ d) {v0 : Nat} {M : jM} {b : Nat × jM} (h : f_X4_copy  v0 M = some b) : V G m_X4_copy d 0 [(0, .ref v0)] [] M (jQb cR b) := by
  unfold f_X4_copy at h
  refine v_aload_n dX4_copy_0 rfl 0 rfl ?_
  refine x_gR dX4_copy_1 kf_X4_9 rfl h (fun r1 h => ?_)
  refine v_iconst dX4_copy_4 ic_0 ?_
  refine v_aload_n dX4_copy_5 rfl 0 rfl ?_
  refine x_gI dX4_copy_6 kf_X4_15 rfl h (fun x2 h => ?_)
  refine v_aload_n dX4_copy_9 rfl 0 rfl ?_
  refine x_gR dX4_copy_10 kf_X4_9 rfl h (fun r3 h => ?_)
  refine x_ln dX4_copy_13 h (fun x4 h => ?_)
  refine v_mmin (by omega) dX4_copy_14 kh_X4_37 rfl ?_
  refine v_mmax (by omega) dX4_copy_17 kh_X4_19 rfl ?_
  refine x_invs (cv := cR) (As := [.ref r1, .int (jmx (nI 0) (jmn x2 x4))]) (rest := []) (ls2 := [(0, .ref r1), (1, .int (jmx (nI 0) (jmn x2 x4)))]) (by omega) dX4_copy_20 ke_J7_copyOf_59c91 ks_X4_48 (Nat.le_of_ble_eq_true rfl) rfl rfl rfl rfl h (fun _ hq => s_J7_copyOf_59c91 (by omega) hq) (fun r6 M5 h => ?_)
  exact x_aret dX4_copy_23 rfl (Or.inr ⟨_, rfl⟩) h
def j_X4_depth_50 (k4 : Nat → Int32 → Int32 → jM → jO Int32) (v0 : Nat) (v1 : Int32) (v2 : Int32) (M : jM) : jO Int32 :=
  k4 v0 v1 (v2 + (nI 1)) M
theorem t_X4_depth_50 {G : jG} {d : Nat} (hd_ : 1 ≤ d) {k4 : Nat → Int32 → Int32 → jM → jO Int32} (hk4 : ∀ (w0 : Nat) (w1 : Int32) (w2 : Int32) (M : jM) (b : Int32 × jM), k4 w0 w1 w2 M = some b → V G m_X4_depth d 4 [(0, .ref w0), (1, .int w1), (2, .int w2)] [] M (jQb cI b)) {v0 : Nat} {v1 : Int32} {v2 : Int32} {M : jM} {b : Int32 × jM} (h : j_X4_depth_50 k4 v0 v1 v2 M = some b) : V G m_X4_depth d 50 [(0, .ref v0), (1, .int v1), (2, .int v2)] [] M (jQb cI b) := by
  unfold j_X4_depth_50 at h
  refine v_iincC (ls2 := [(2, .int (v2 + (nI 1))), (0, .ref v0), (1, .int v1)]) dX4_depth_50 ic_1 2 rfl (by decide) rfl ?_
  refine v_goto (tgt := 4) dX4_depth_53 (by decide) ?_
  exact V.pick [1, 2, 0] rfl (hk4 _ _ _ _ _ h)
def b_X4_depth_4  (k4 : Nat → Int32 → Int32 → jM → jO Int32) (v0 : Nat) (v1 : Int32) (v2 : Int32) (M : jM) : jO Int32 :=
  (gI 4 M v0 1).bind fun x1 =>
  if x1 ≤ v2 then
    rt v1 M
  else
    (gR 4 M v0 0).bind fun r2 =>
    (ln M r2).bind fun x3 =>
    if x3 ≤ v2 then
      rt v1 M
    else
      (gR 4 M v0 0).bind fun r4 =>
      (ldI M r4 v2).bind fun x5 =>
      jb2 (f_X4_signOf x5 M) fun x7 M6 =>
      jb2 (f_X4_isQuantifier x7 M6) fun x9 M8 =>
      if x9 = 0 then
        j_X4_depth_50 k4 v0 v1 v2 M8
      else
        (gR 4 M8 v0 0).bind fun r10 =>
        (ldI M8 r10 v2).bind fun x11 =>
        jb2 (f_X4_firstOf x11 M8) fun x13 M12 =>
        (jv (jmx v1 x13)).bind fun y14 =>
        j_X4_depth_50 k4 v0 y14 v2 M12
def l_X4_depth_4  : Nat → Nat → Int32 → Int32 → jM → jO Int32
  | 0 => fun _ _ _ _ => none
  | n + 1 => b_X4_depth_4  (l_X4_depth_4  n)
theorem tb_X4_depth_4 {G : jG} {d : Nat} (hd_ : 1 ≤ d)  {k4 : Nat → Int32 → Int32 → jM → jO Int32} (hk4 : ∀ (w0 : Nat) (w1 : Int32) (w2 : Int32) (M : jM) (b : Int32 × jM), k4 w0 w1 w2 M = some b → V G m_X4_depth d 4 [(0, .ref w0), (1, .int w1), (2, .int w2)] [] M (jQb cI b)) {v0 : Nat} {v1 : Int32} {v2 : Int32} {M : jM} {b : Int32 × jM} (h : b_X4_depth_4  k4 v0 v1 v2 M = some b) : V G m_X4_depth d 4 [(0, .ref v0), (1, .int v1), (2, .int v2)] [] M (jQb cI b) := by
  unfold b_X4_depth_4 at h
  refine v_iload_n dX4_depth_4 rfl 2 rfl ?_
  refine v_aload_n dX4_depth_5 rfl 0 rfl ?_
  refine x_gI dX4_depth_6 kf_X4_15 rfl h (fun x1 h => ?_)
  refine x_ic_ge (tgt := 56) dX4_depth_9 (by decide) h (fun h => ?_) (fun h => ?_)
  · refine v_iload_n dX4_depth_56 rfl 1 rfl ?_
    exact x_iret dX4_depth_57 rfl h
  · refine v_iload_n dX4_depth_12 rfl 2 rfl ?_
    refine v_aload_n dX4_depth_13 rfl 0 rfl ?_
    refine x_gR dX4_depth_14 kf_X4_9 rfl h (fun r2 h => ?_)
    refine x_ln dX4_depth_17 h (fun x3 h => ?_)
    refine x_ic_ge (tgt := 56) dX4_depth_18 (by decide) h (fun h => ?_) (fun h => ?_)
    · refine v_iload_n dX4_depth_56 rfl 1 rfl ?_
      exact x_iret dX4_depth_57 rfl h
    · refine v_aload_n dX4_depth_21 rfl 0 rfl ?_
      refine x_gR dX4_depth_22 kf_X4_9 rfl h (fun r4 h => ?_)
      refine v_iload_n dX4_depth_25 rfl 2 rfl ?_
      refine x_ldI dX4_depth_26 h (fun x5 h => ?_)
      refine x_invs (cv := cI) (As := [.int x5]) (rest := []) (ls2 := [(0, .int x5)]) (by omega) dX4_depth_27 ke_X4_signOf ks_X4_54 (Nat.le_of_ble_eq_true rfl) rfl rfl rfl rfl h (fun _ hq => s_X4_signOf (by omega) hq) (fun x7 M6 h => ?_)
      refine x_invs (cv := cI) (As := [.int x7]) (rest := []) (ls2 := [(0, .int x7)]) (by omega) dX4_depth_30 ke_X4_isQuantifier ks_X4_57 (Nat.le_of_ble_eq_true rfl) rfl rfl rfl rfl h (fun _ hq => s_X4_isQuantifier (by omega) hq) (fun x9 M8 h => ?_)
      refine x_if_eq (tgt := 50) dX4_depth_33 (by decide) h (fun h => ?_) (fun h => ?_)
      · exact t_X4_depth_50 hd_ hk4 h
      · refine v_iload_n dX4_depth_36 rfl 1 rfl ?_
        refine v_aload_n dX4_depth_37 rfl 0 rfl ?_
        refine x_gR dX4_depth_38 kf_X4_9 rfl h (fun r10 h => ?_)
        refine v_iload_n dX4_depth_41 rfl 2 rfl ?_
        refine x_ldI dX4_depth_42 h (fun x11 h => ?_)
        refine x_invs (cv := cI) (As := [.int x11]) (rest := [.int v1]) (ls2 := [(0, .int x11)]) (by omega) dX4_depth_43 ke_X4_firstOf ks_X4_61 (Nat.le_of_ble_eq_true rfl) rfl rfl rfl rfl h (fun _ hq => s_X4_firstOf (by omega) hq) (fun x13 M12 h => ?_)
        refine v_mmax (by omega) dX4_depth_46 kh_X4_19 rfl ?_
        refine x_jvI h (fun y14 h => ?_)
        refine v_istore_n (ls2 := [(1, .int y14), (0, .ref v0), (2, .int v2)]) dX4_depth_49 rfl (by decide) rfl ?_
        exact V.pick [1, 0, 2] rfl (t_X4_depth_50 hd_ hk4 h)
theorem t_X4_depth_4 {G : jG} {d : Nat} (hd_ : 1 ≤ d)  : ∀ (n : Nat) (v0 : Nat) (v1 : Int32) (v2 : Int32) (M : jM) (b : Int32 × jM), l_X4_depth_4  n v0 v1 v2 M = some b → V G m_X4_depth d 4 [(0, .ref v0), (1, .int v1), (2, .int v2)] [] M (jQb cI b) := by
  intro n
  induction n with
  | zero => intro v0 v1 v2 M b h; exact nomatch (show (none : jO Int32) = some b from h)
  | succ n ih => intro v0 v1 v2 M b h; exact tb_X4_depth_4 hd_  ih h
def f_X4_depth (v0 : Nat) (M : jM) : jO Int32 :=
  l_X4_depth_4 jF0 v0 (nI 0) (nI 0) M
theorem s_X4_depth {G : jG} {d : Nat} (hd_ : 1 ≤ d) {v0 : Nat} {M : jM} {b : Int32 × jM} (h : f_X4_depth  v0 M = some b) : V G m_X4_depth d 0 [(0, .ref v0)] [] M (jQb cI b) := by
  unfold f_X4_depth at h
  refine v_iconst dX4_depth_0 ic_0 ?_
  refine v_istore_n (ls2 := [(1, .int (nI 0)), (0, .ref v0)]) dX4_depth_1 rfl (by decide) rfl ?_
  refine v_iconst dX4_depth_2 ic_0 ?_
  refine v_istore_n (ls2 := [(2, .int (nI 0)), (1, .int (nI 0)), (0, .ref v0)]) dX4_depth_3 rfl (by decide) rfl ?_
  exact V.pick [2, 1, 0] rfl (t_X4_depth_4 hd_ _ _ _ _ _ _ h)
def f_X7_init (v0 : Nat) (v1 : Nat) (v2 : Nat) (v3 : Int32) (M : jM) : jO Unit :=
  (pR 6 M v0 0 v1).bind fun M1 =>
  (pR 6 M1 v0 1 v2).bind fun M2 =>
  (pI 6 M2 v0 2 v3).bind fun M3 =>
  rt () M3
theorem s_X7_init {G : jG} {d : Nat} (hd_ : 1 ≤ d) {v0 : Nat} {v1 : Nat} {v2 : Nat} {v3 : Int32} {M : jM} {b : Unit × jM} (h : f_X7_init  v0 v1 v2 v3 M = some b) : V G m_X7_init d 0 [(0, .ref v0), (1, .ref v1), (2, .ref v2), (3, .int v3)] [] M (jQb cU b) := by
  unfold f_X7_init at h
  refine v_aload_n dX7_init_0 rfl 0 rfl ?_
  refine x_objInit (by omega) dX7_init_1 ko_X7 rfl ?_
  refine v_aload_n dX7_init_4 rfl 0 rfl ?_
  refine v_aload_n dX7_init_5 rfl 1 rfl ?_
  refine x_pR dX7_init_6 kf_X7_7 rfl (fun _ => ⟨rfl, fun r hr => by cases hr; rfl⟩) (fun _ => rfl) (fun _ => rfl) h (fun M1 h => ?_)
  refine v_aload_n dX7_init_9 rfl 0 rfl ?_
  refine v_aload_n dX7_init_10 rfl 2 rfl ?_
  refine x_pR dX7_init_11 kf_X7_13 rfl (fun _ => ⟨rfl, fun r hr => by cases hr; rfl⟩) (fun _ => rfl) (fun _ => rfl) h (fun M2 h => ?_)
  refine v_aload_n dX7_init_14 rfl 0 rfl ?_
  refine v_iload_n dX7_init_15 rfl 3 rfl ?_
  refine x_pI dX7_init_16 kf_X7_17 rfl (fun _ => ⟨rfl, fun r hr => by cases hr; rfl⟩) h (fun M3 h => ?_)
  exact x_vret dX7_init_19 rfl h
def f_X11_keepSentence (v0 : Nat) (M : jM) : jO Int32 :=
  (gI 10 M v0 9).bind fun x1 =>
  if x1 < 0 then
    rt (-4 : Int32) M
  else
    (gR 10 M v0 8).bind fun r2 =>
    (ln M r2).bind fun x3 =>
    if x1 < x3 then
      (gR 10 M v0 5).bind fun r4 =>
      jb2 (jiv 4 M r4 (f_X4_copy r4 M)) fun r6 M5 =>
      (gR 10 M5 v0 8).bind fun r7 =>
      jb2 (nO 6 M5) fun a8 M9 =>
      (gR 10 M9 v0 6).bind fun r10 =>
      jb2 (jiv 9 M9 r10 (f_X10_write r10 r6 M9)) fun r12 M11 =>
      (gR 10 M11 v0 5).bind fun r13 =>
      jb2 (jiv 4 M11 r13 (f_X4_depth r13 M11)) fun x15 M14 =>
      jb2 (f_X7_init a8 r6 r12 x15 M14) fun _ M16 =>
      (stA 104 6 M16 r7 x1 a8).bind fun M17 =>
      (gI 10 M17 v0 9).bind fun x18 =>
      (pI 10 M17 v0 9 (x18 + (nI 1))).bind fun M19 =>
      rt x1 M19
    else
      rt (-4 : Int32) M
theorem s_X11_keepSentence {G : jG} {d : Nat} (hd_ : 84 ≤ d) {v0 : Nat} {M : jM} {b : Int32 × jM} (h : f_X11_keepSentence  v0 M = some b) : V G m_X11_keepSentence d 0 [(0, .ref v0)] [] M (jQb cI b) := by
  unfold f_X11_keepSentence at h
  refine v_aload_n dX11_keepSentence_0 rfl 0 rfl ?_
  refine x_gI dX11_keepSentence_1 kf_X11_68 rfl h (fun x1 h => ?_)
  refine v_istore_n (ls2 := [(1, .int x1), (0, .ref v0)]) dX11_keepSentence_4 rfl (by decide) rfl ?_
  refine v_iload_n dX11_keepSentence_5 rfl 0 rfl ?_
  refine x_if_lt (tgt := 18) dX11_keepSentence_6 (by decide) h (fun h => ?_) (fun h => ?_)
  · refine v_bipush dX11_keepSentence_18 bp_m4 ?_
    exact x_iret dX11_keepSentence_20 rfl h
  · refine v_iload_n dX11_keepSentence_9 rfl 0 rfl ?_
    refine v_aload_n dX11_keepSentence_10 rfl 1 rfl ?_
    refine x_gR dX11_keepSentence_11 kf_X11_64 rfl h (fun r2 h => ?_)
    refine x_ln dX11_keepSentence_14 h (fun x3 h => ?_)
    refine x_ic_lt (tgt := 21) dX11_keepSentence_15 (by decide) h (fun h => ?_) (fun h => ?_)
    · refine v_aload_n dX11_keepSentence_21 rfl 1 rfl ?_
      refine x_gR dX11_keepSentence_22 kf_X11_44 rfl h (fun r4 h => ?_)
      refine x_inv (cv := cR) (As := []) (rest := []) (ls2 := [(0, .ref r4)]) (ci := 4) (by omega) dX11_keepSentence_25 ke_X4_copy kv_X11_247 rfl rfl (by decide) (Nat.le_of_ble_eq_true rfl) rfl rfl rfl rfl h (fun _ hq => s_X4_copy (by omega) hq) (fun r6 M5 h => ?_)
      refine v_astore_n (ls2 := [(2, .ref r6), (1, .int x1), (0, .ref v0)]) dX11_keepSentence_28 rfl (by decide) rfl ?_
      refine v_aload_n dX11_keepSentence_29 rfl 2 rfl ?_
      refine x_gR dX11_keepSentence_30 kf_X11_64 rfl h (fun r7 h => ?_)
      refine v_iload_n dX11_keepSentence_33 rfl 1 rfl ?_
      refine x_nO dX11_keepSentence_34 kc_X11_62 h (fun a8 M9 h => ?_)
      refine v_dup dX11_keepSentence_37 rfl ?_
      refine v_aload_n dX11_keepSentence_38 rfl 0 rfl ?_
      refine v_aload_n dX11_keepSentence_39 rfl 2 rfl ?_
      refine x_gR dX11_keepSentence_40 kf_X11_51 rfl h (fun r10 h => ?_)
      refine v_aload_n dX11_keepSentence_43 rfl 0 rfl ?_
      refine x_inv (cv := cR) (As := [.ref r6]) (rest := [.ref r6, .ref a8, .ref a8, .int x1, .ref r7]) (ls2 := [(0, .ref r10), (1, .ref r6)]) (ci := 9) (by omega) dX11_keepSentence_44 ke_X10_write kv_X11_250 rfl rfl (by decide) (Nat.le_of_ble_eq_true rfl) rfl rfl rfl rfl h (fun _ hq => s_X10_write (by omega) hq) (fun r12 M11 h => ?_)
      refine v_aload_n dX11_keepSentence_47 rfl 2 rfl ?_
      refine x_gR dX11_keepSentence_48 kf_X11_44 rfl h (fun r13 h => ?_)
      refine x_inv (cv := cI) (As := []) (rest := [.ref r12, .ref r6, .ref a8, .ref a8, .int x1, .ref r7]) (ls2 := [(0, .ref r13)]) (ci := 4) (by omega) dX11_keepSentence_51 ke_X4_depth kv_X11_254 rfl rfl (by decide) (Nat.le_of_ble_eq_true rfl) rfl rfl rfl rfl h (fun _ hq => s_X4_depth (by omega) hq) (fun x15 M14 h => ?_)
      refine x_invI (cv := cU) (As := [.ref r6, .ref r12, .int x15]) (rest := [.ref a8, .int x1, .ref r7]) (ls2 := [(0, .ref a8), (1, .ref r6), (2, .ref r12), (3, .int x15)]) (by omega) dX11_keepSentence_54 ke_X7_init rfl rfl ki_X11_255.1 ki_X11_255.2 (Nat.le_of_ble_eq_true rfl) rfl rfl rfl rfl h (fun _ hq => s_X7_init (by omega) hq) (fun _ M16 h => ?_)
      refine x_stA dX11_keepSentence_57 (by decide) h (fun M17 h => ?_)
      refine v_aload_n dX11_keepSentence_58 rfl 2 rfl ?_
      refine v_dup dX11_keepSentence_59 rfl ?_
      refine x_gI dX11_keepSentence_60 kf_X11_68 rfl h (fun x18 h => ?_)
      refine v_iconst dX11_keepSentence_63 ic_1 ?_
      refine v_iadd dX11_keepSentence_64 ?_
      refine x_pI dX11_keepSentence_65 kf_X11_68 rfl (fun q => Bool.noConfusion q) h (fun M19 h => ?_)
      refine v_iload_n dX11_keepSentence_68 rfl 1 rfl ?_
      exact x_iret dX11_keepSentence_69 rfl h
    · refine v_bipush dX11_keepSentence_18 bp_m4 ?_
      exact x_iret dX11_keepSentence_20 rfl h
def f_X4_clear (v0 : Nat) (M : jM) : jO Unit :=
  (pI 4 M v0 1 (nI 0)).bind fun M1 =>
  rt () M1
theorem s_X4_clear {G : jG} {d : Nat} (hd_ : 0 ≤ d) {v0 : Nat} {M : jM} {b : Unit × jM} (h : f_X4_clear  v0 M = some b) : V G m_X4_clear d 0 [(0, .ref v0)] [] M (jQb cU b) := by
  unfold f_X4_clear at h
  refine v_aload_n dX4_clear_0 rfl 0 rfl ?_
  refine v_iconst dX4_clear_1 ic_0 ?_
  refine x_pI dX4_clear_2 kf_X4_15 rfl (fun q => Bool.noConfusion q) h (fun M1 h => ?_)
  exact x_vret dX4_clear_5 rfl h
def b_X3_leastRounds_2  (k2 : Nat → Int32 → jM → jO Int32) (v0 : Nat) (v1 : Int32) (M : jM) : jO Int32 :=
  (gI 3 M v0 5).bind fun x1 =>
  if ((nI 3) - x1) < v1 then
    rt (-9 : Int32) M
  else
    jb2 (jiv 3 M v0 (f_X3_keeperWins jR0 v0 v1 M)) fun x3 M2 =>
    if x3 = 0 then
      rt v1 M2
    else
      k2 v0 (v1 + (nI 1)) M2
def l_X3_leastRounds_2  : Nat → Nat → Int32 → jM → jO Int32
  | 0 => fun _ _ _ => none
  | n + 1 => b_X3_leastRounds_2  (l_X3_leastRounds_2  n)
theorem tb_X3_leastRounds_2 {G : jG} {d : Nat} (hd_ : 123 ≤ d)  {k2 : Nat → Int32 → jM → jO Int32} (hk2 : ∀ (w0 : Nat) (w1 : Int32) (M : jM) (b : Int32 × jM), k2 w0 w1 M = some b → V G m_X3_leastRounds d 2 [(0, .ref w0), (1, .int w1)] [] M (jQb cI b)) {v0 : Nat} {v1 : Int32} {M : jM} {b : Int32 × jM} (h : b_X3_leastRounds_2  k2 v0 v1 M = some b) : V G m_X3_leastRounds d 2 [(0, .ref v0), (1, .int v1)] [] M (jQb cI b) := by
  unfold b_X3_leastRounds_2 at h
  refine v_iload_n dX3_leastRounds_2 rfl 1 rfl ?_
  refine v_iconst dX3_leastRounds_3 ic_3 ?_
  refine v_aload_n dX3_leastRounds_4 rfl 0 rfl ?_
  refine x_gI dX3_leastRounds_5 kf_X3_31 rfl h (fun x1 h => ?_)
  refine v_isub dX3_leastRounds_8 ?_
  refine x_ic_gt (tgt := 28) dX3_leastRounds_9 (by decide) h (fun h => ?_) (fun h => ?_)
  · refine v_bipush dX3_leastRounds_28 bp_m9 ?_
    exact x_iret dX3_leastRounds_30 rfl h
  · refine v_aload_n dX3_leastRounds_12 rfl 0 rfl ?_
    refine v_iload_n dX3_leastRounds_13 rfl 1 rfl ?_
    refine x_inv (cv := cI) (As := [.int v1]) (rest := []) (ls2 := [(0, .ref v0), (1, .int v1)]) (ci := 3) (by omega) dX3_leastRounds_14 ke_X3_keeperWins kv_X3_85 rfl rfl (by decide) (Nat.le_of_ble_eq_true rfl) rfl rfl rfl rfl h (fun _ hq => s_X3_keeperWins _ _ (by have := jR0_eq; omega) _ _ _ _ hq) (fun x3 M2 h => ?_)
    refine x_if_ne (tgt := 22) dX3_leastRounds_17 (by decide) h (fun h => ?_) (fun h => ?_)
    · refine v_iload_n dX3_leastRounds_20 rfl 1 rfl ?_
      exact x_iret dX3_leastRounds_21 rfl h
    · refine v_iincC (ls2 := [(1, .int (v1 + (nI 1))), (0, .ref v0)]) dX3_leastRounds_22 ic_1 1 rfl (by decide) rfl ?_
      refine v_goto (tgt := 2) dX3_leastRounds_25 (by decide) ?_
      exact V.pick [1, 0] rfl (hk2 _ _ _ _ h)
theorem t_X3_leastRounds_2 {G : jG} {d : Nat} (hd_ : 123 ≤ d)  : ∀ (n : Nat) (v0 : Nat) (v1 : Int32) (M : jM) (b : Int32 × jM), l_X3_leastRounds_2  n v0 v1 M = some b → V G m_X3_leastRounds d 2 [(0, .ref v0), (1, .int v1)] [] M (jQb cI b) := by
  intro n
  induction n with
  | zero => intro v0 v1 M b h; exact nomatch (show (none : jO Int32) = some b from h)
  | succ n ih => intro v0 v1 M b h; exact tb_X3_leastRounds_2 hd_  ih h
def f_X3_leastRounds (v0 : Nat) (M : jM) : jO Int32 :=
  l_X3_leastRounds_2 jF0 v0 (nI 1) M
theorem s_X3_leastRounds {G : jG} {d : Nat} (hd_ : 123 ≤ d) {v0 : Nat} {M : jM} {b : Int32 × jM} (h : f_X3_leastRounds  v0 M = some b) : V G m_X3_leastRounds d 0 [(0, .ref v0)] [] M (jQb cI b) := by
  unfold f_X3_leastRounds at h
  refine v_iconst dX3_leastRounds_0 ic_1 ?_
  refine v_istore_n (ls2 := [(1, .int (nI 1)), (0, .ref v0)]) dX3_leastRounds_1 rfl (by decide) rfl ?_
  exact V.pick [1, 0] rfl (t_X3_leastRounds_2 hd_ _ _ _ _ _ h)
def f_X3_length (v0 : Nat) (M : jM) : jO Int32 :=
  (gI 3 M v0 5).bind fun x1 =>
  rt x1 M
theorem s_X3_length {G : jG} {d : Nat} (hd_ : 0 ≤ d) {v0 : Nat} {M : jM} {b : Int32 × jM} (h : f_X3_length  v0 M = some b) : V G m_X3_length d 0 [(0, .ref v0)] [] M (jQb cI b) := by
  unfold f_X3_length at h
  refine v_aload_n dX3_length_0 rfl 0 rfl ?_
  refine x_gI dX3_length_1 kf_X3_31 rfl h (fun x1 h => ?_)
  exact x_iret dX3_length_4 rfl h
def f_X4_encode (v0 : Int32) (v1 : Int32) (v2 : Int32) (M : jM) : jO Int32 :=
  rt (((v0 ||| (v1 <<< ((nI 8) &&& 31))) ||| (v2 <<< ((nI 12) &&& 31))) ||| (nI 65536)) M
theorem s_X4_encode {G : jG} {d : Nat} (hd_ : 0 ≤ d) {v0 : Int32} {v1 : Int32} {v2 : Int32} {M : jM} {b : Int32 × jM} (h : f_X4_encode  v0 v1 v2 M = some b) : V G m_X4_encode d 0 [(0, .int v0), (1, .int v1), (2, .int v2)] [] M (jQb cI b) := by
  unfold f_X4_encode at h
  refine v_iload_n dX4_encode_0 rfl 0 rfl ?_
  refine v_iload_n dX4_encode_1 rfl 1 rfl ?_
  refine v_bipush dX4_encode_2 bp_8 ?_
  refine v_ishl dX4_encode_4 ?_
  refine v_ior dX4_encode_5 ?_
  refine v_iload_n dX4_encode_6 rfl 2 rfl ?_
  refine v_bipush dX4_encode_7 bp_12 ?_
  refine v_ishl dX4_encode_9 ?_
  refine v_ior dX4_encode_10 ?_
  refine v_ldc (v := (nI 65536)) dX4_encode_11 (jw3 85 (by decide +kernel) (by decide +kernel)) ?_
  refine v_ior dX4_encode_13 ?_
  exact x_iret dX4_encode_14 rfl h
def f_X4_add (v0 : Nat) (v1 : Int32) (v2 : Int32) (v3 : Int32) (M : jM) : jO Int32 :=
  (gI 4 M v0 1).bind fun x1 =>
  if x1 < 0 then
    rt x1 M
  else
    (gR 4 M v0 0).bind fun r2 =>
    (ln M r2).bind fun x3 =>
    if x3 ≤ x1 then
      rt x1 M
    else
      (gR 4 M v0 0).bind fun r4 =>
      jb2 (f_X4_encode v1 v2 v3 M) fun x6 M5 =>
      (stI M5 r4 x1 x6).bind fun M7 =>
      (gI 4 M7 v0 1).bind fun x8 =>
      (pI 4 M7 v0 1 (x8 + (nI 1))).bind fun M9 =>
      rt x1 M9
theorem s_X4_add {G : jG} {d : Nat} (hd_ : 1 ≤ d) {v0 : Nat} {v1 : Int32} {v2 : Int32} {v3 : Int32} {M : jM} {b : Int32 × jM} (h : f_X4_add  v0 v1 v2 v3 M = some b) : V G m_X4_add d 0 [(0, .ref v0), (1, .int v1), (2, .int v2), (3, .int v3)] [] M (jQb cI b) := by
  unfold f_X4_add at h
  refine v_aload_n dX4_add_0 rfl 0 rfl ?_
  refine x_gI dX4_add_1 kf_X4_15 rfl h (fun x1 h => ?_)
  refine v_istore (ls2 := [(4, .int x1), (0, .ref v0), (1, .int v1), (2, .int v2), (3, .int v3)]) dX4_add_4 (by decide) rfl ?_
  refine v_iload dX4_add_6 0 rfl ?_
  refine x_if_lt (tgt := 44) dX4_add_8 (by decide) h (fun h => ?_) (fun h => ?_)
  · refine v_iload dX4_add_44 0 rfl ?_
    exact x_iret dX4_add_46 rfl h
  · refine v_iload dX4_add_11 0 rfl ?_
    refine v_aload_n dX4_add_13 rfl 1 rfl ?_
    refine x_gR dX4_add_14 kf_X4_9 rfl h (fun r2 h => ?_)
    refine x_ln dX4_add_17 h (fun x3 h => ?_)
    refine x_ic_ge (tgt := 44) dX4_add_18 (by decide) h (fun h => ?_) (fun h => ?_)
    · refine v_iload dX4_add_44 0 rfl ?_
      exact x_iret dX4_add_46 rfl h
    · refine v_aload_n dX4_add_21 rfl 1 rfl ?_
      refine x_gR dX4_add_22 kf_X4_9 rfl h (fun r4 h => ?_)
      refine v_iload dX4_add_25 0 rfl ?_
      refine v_iload_n dX4_add_27 rfl 2 rfl ?_
      refine v_iload_n dX4_add_28 rfl 3 rfl ?_
      refine v_iload_n dX4_add_29 rfl 4 rfl ?_
      refine x_invs (cv := cI) (As := [.int v1, .int v2, .int v3]) (rest := [.int x1, .ref r4]) (ls2 := [(0, .int v1), (1, .int v2), (2, .int v3)]) (by omega) dX4_add_30 ke_X4_encode ks_X4_26 (Nat.le_of_ble_eq_true rfl) rfl rfl rfl rfl h (fun _ hq => s_X4_encode (by omega) hq) (fun x6 M5 h => ?_)
      refine x_stI dX4_add_33 h (fun M7 h => ?_)
      refine v_aload_n dX4_add_34 rfl 1 rfl ?_
      refine v_dup dX4_add_35 rfl ?_
      refine x_gI dX4_add_36 kf_X4_15 rfl h (fun x8 h => ?_)
      refine v_iconst dX4_add_39 ic_1 ?_
      refine v_iadd dX4_add_40 ?_
      refine x_pI dX4_add_41 kf_X4_15 rfl (fun q => Bool.noConfusion q) h (fun M9 h => ?_)
      refine v_iload dX4_add_44 0 rfl ?_
      exact x_iret dX4_add_46 rfl h
def f_X4_close (v0 : Nat) (v1 : Int32) (M : jM) : jO Unit :=
  if v1 < 0 then
    rt () M
  else
    (gI 4 M v0 1).bind fun x1 =>
    if x1 ≤ v1 then
      rt () M
    else
      (gR 4 M v0 0).bind fun r2 =>
      (ln M r2).bind fun x3 =>
      if x3 ≤ v1 then
        rt () M
      else
        (gR 4 M v0 0).bind fun r4 =>
        (gR 4 M v0 0).bind fun r5 =>
        (ldI M r5 v1).bind fun x6 =>
        (gI 4 M v0 1).bind fun x7 =>
        (stI M r4 v1 ((x6 &&& (nI 65535)) ||| ((x7 - v1) <<< ((nI 16) &&& 31)))).bind fun M8 =>
        rt () M8
theorem s_X4_close {G : jG} {d : Nat} (hd_ : 0 ≤ d) {v0 : Nat} {v1 : Int32} {M : jM} {b : Unit × jM} (h : f_X4_close  v0 v1 M = some b) : V G m_X4_close d 0 [(0, .ref v0), (1, .int v1)] [] M (jQb cU b) := by
  unfold f_X4_close at h
  refine v_iload_n dX4_close_0 rfl 1 rfl ?_
  refine x_if_lt (tgt := 46) dX4_close_1 (by decide) h (fun h => ?_) (fun h => ?_)
  · exact x_vret dX4_close_46 rfl h
  · refine v_iload_n dX4_close_4 rfl 1 rfl ?_
    refine v_aload_n dX4_close_5 rfl 0 rfl ?_
    refine x_gI dX4_close_6 kf_X4_15 rfl h (fun x1 h => ?_)
    refine x_ic_ge (tgt := 46) dX4_close_9 (by decide) h (fun h => ?_) (fun h => ?_)
    · exact x_vret dX4_close_46 rfl h
    · refine v_iload_n dX4_close_12 rfl 1 rfl ?_
      refine v_aload_n dX4_close_13 rfl 0 rfl ?_
      refine x_gR dX4_close_14 kf_X4_9 rfl h (fun r2 h => ?_)
      refine x_ln dX4_close_17 h (fun x3 h => ?_)
      refine x_ic_ge (tgt := 46) dX4_close_18 (by decide) h (fun h => ?_) (fun h => ?_)
      · exact x_vret dX4_close_46 rfl h
      · refine v_aload_n dX4_close_21 rfl 0 rfl ?_
        refine x_gR dX4_close_22 kf_X4_9 rfl h (fun r4 h => ?_)
        refine v_iload_n dX4_close_25 rfl 1 rfl ?_
        refine v_aload_n dX4_close_26 rfl 0 rfl ?_
        refine x_gR dX4_close_27 kf_X4_9 rfl h (fun r5 h => ?_)
        refine v_iload_n dX4_close_30 rfl 1 rfl ?_
        refine x_ldI dX4_close_31 h (fun x6 h => ?_)
        refine v_ldc (v := (nI 65535)) dX4_close_32 (jw3 94 (by decide +kernel) (by decide +kernel)) ?_
        refine v_iand dX4_close_34 ?_
        refine v_aload_n dX4_close_35 rfl 0 rfl ?_
        refine x_gI dX4_close_36 kf_X4_15 rfl h (fun x7 h => ?_)
        refine v_iload_n dX4_close_39 rfl 1 rfl ?_
        refine v_isub dX4_close_40 ?_
        refine v_bipush dX4_close_41 bp_16 ?_
        refine v_ishl dX4_close_43 ?_
        refine v_ior dX4_close_44 ?_
        refine x_stI dX4_close_45 h (fun M8 h => ?_)
        exact x_vret dX4_close_46 rfl h
def f_X4_count (v0 : Nat) (M : jM) : jO Int32 :=
  (gI 4 M v0 1).bind fun x1 =>
  rt x1 M
theorem s_X4_count {G : jG} {d : Nat} (hd_ : 0 ≤ d) {v0 : Nat} {M : jM} {b : Int32 × jM} (h : f_X4_count  v0 M = some b) : V G m_X4_count d 0 [(0, .ref v0)] [] M (jQb cI b) := by
  unfold f_X4_count at h
  refine v_aload_n dX4_count_0 rfl 0 rfl ?_
  refine x_gI dX4_count_1 kf_X4_15 rfl h (fun x1 h => ?_)
  exact x_iret dX4_count_4 rfl h
def f_X4_cutTo (v0 : Nat) (v1 : Int32) (M : jM) : jO Unit :=
  (gI 4 M v0 1).bind fun x1 =>
  (pI 4 M v0 1 (jmx (nI 0) (jmn v1 x1))).bind fun M2 =>
  rt () M2
theorem s_X4_cutTo {G : jG} {d : Nat} (hd_ : 1 ≤ d) {v0 : Nat} {v1 : Int32} {M : jM} {b : Unit × jM} (h : f_X4_cutTo  v0 v1 M = some b) : V G m_X4_cutTo d 0 [(0, .ref v0), (1, .int v1)] [] M (jQb cU b) := by
  unfold f_X4_cutTo at h
  refine v_aload_n dX4_cutTo_0 rfl 0 rfl ?_
  refine v_iconst dX4_cutTo_1 ic_0 ?_
  refine v_iload_n dX4_cutTo_2 rfl 1 rfl ?_
  refine v_aload_n dX4_cutTo_3 rfl 0 rfl ?_
  refine x_gI dX4_cutTo_4 kf_X4_15 rfl h (fun x1 h => ?_)
  refine v_mmin (by omega) dX4_cutTo_7 kh_X4_37 rfl ?_
  refine v_mmax (by omega) dX4_cutTo_10 kh_X4_19 rfl ?_
  refine x_pI dX4_cutTo_13 kf_X4_15 rfl (fun q => Bool.noConfusion q) h (fun M2 h => ?_)
  exact x_vret dX4_cutTo_16 rfl h
def f_X4_remove (v0 : Nat) (v1 : Int32) (M : jM) : jO Unit :=
  if v1 < 0 then
    rt () M
  else
    (gI 4 M v0 1).bind fun x1 =>
    if x1 ≤ v1 then
      rt () M
    else
      (gI 4 M v0 1).bind fun x2 =>
      (gR 4 M v0 0).bind fun r3 =>
      (ln M r3).bind fun x4 =>
      if x2 ≤ x4 then
        (gR 4 M v0 0).bind fun r5 =>
        (gR 4 M v0 0).bind fun r6 =>
        (gI 4 M v0 1).bind fun x7 =>
        (cpI 100 M r5 (v1 + (nI 1)) r6 v1 ((x7 - v1) - (nI 1))).bind fun M8 =>
        (gI 4 M8 v0 1).bind fun x9 =>
        (pI 4 M8 v0 1 (x9 - (nI 1))).bind fun M10 =>
        rt () M10
      else
        rt () M
theorem s_X4_remove {G : jG} {d : Nat} (hd_ : 1 ≤ d) {v0 : Nat} {v1 : Int32} {M : jM} {b : Unit × jM} (h : f_X4_remove  v0 v1 M = some b) : V G m_X4_remove d 0 [(0, .ref v0), (1, .int v1)] [] M (jQb cU b) := by
  unfold f_X4_remove at h
  refine v_iload_n dX4_remove_0 rfl 1 rfl ?_
  refine x_if_lt (tgt := 24) dX4_remove_1 (by decide) h (fun h => ?_) (fun h => ?_)
  · exact x_vret dX4_remove_24 rfl h
  · refine v_iload_n dX4_remove_4 rfl 1 rfl ?_
    refine v_aload_n dX4_remove_5 rfl 0 rfl ?_
    refine x_gI dX4_remove_6 kf_X4_15 rfl h (fun x1 h => ?_)
    refine x_ic_ge (tgt := 24) dX4_remove_9 (by decide) h (fun h => ?_) (fun h => ?_)
    · exact x_vret dX4_remove_24 rfl h
    · refine v_aload_n dX4_remove_12 rfl 0 rfl ?_
      refine x_gI dX4_remove_13 kf_X4_15 rfl h (fun x2 h => ?_)
      refine v_aload_n dX4_remove_16 rfl 0 rfl ?_
      refine x_gR dX4_remove_17 kf_X4_9 rfl h (fun r3 h => ?_)
      refine x_ln dX4_remove_20 h (fun x4 h => ?_)
      refine x_ic_le (tgt := 25) dX4_remove_21 (by decide) h (fun h => ?_) (fun h => ?_)
      · refine v_aload_n dX4_remove_25 rfl 0 rfl ?_
        refine x_gR dX4_remove_26 kf_X4_9 rfl h (fun r5 h => ?_)
        refine v_iload_n dX4_remove_29 rfl 1 rfl ?_
        refine v_iconst dX4_remove_30 ic_1 ?_
        refine v_iadd dX4_remove_31 ?_
        refine v_aload_n dX4_remove_32 rfl 0 rfl ?_
        refine x_gR dX4_remove_33 kf_X4_9 rfl h (fun r6 h => ?_)
        refine v_iload_n dX4_remove_36 rfl 1 rfl ?_
        refine v_aload_n dX4_remove_37 rfl 0 rfl ?_
        refine x_gI dX4_remove_38 kf_X4_15 rfl h (fun x7 h => ?_)
        refine v_iload_n dX4_remove_41 rfl 1 rfl ?_
        refine v_isub dX4_remove_42 ?_
        refine v_iconst dX4_remove_43 ic_1 ?_
        refine v_isub dX4_remove_44 ?_
        refine x_cp (by omega) (by decide) dX4_remove_45 kp_X4_30 rfl h (fun M8 h => ?_)
        refine v_aload_n dX4_remove_48 rfl 0 rfl ?_
        refine v_dup dX4_remove_49 rfl ?_
        refine x_gI dX4_remove_50 kf_X4_15 rfl h (fun x9 h => ?_)
        refine v_iconst dX4_remove_53 ic_1 ?_
        refine v_isub dX4_remove_54 ?_
        refine x_pI dX4_remove_55 kf_X4_15 rfl (fun q => Bool.noConfusion q) h (fun M10 h => ?_)
        exact x_vret dX4_remove_58 rfl h
      · exact x_vret dX4_remove_24 rfl h
def b_X4_isLike_40  (k40 : Nat → Int32 → Int32 → Int32 → Int32 → jM → jO Int32) (v0 : Nat) (v1 : Int32) (v2 : Int32) (v3 : Int32) (v4 : Int32) (M : jM) : jO Int32 :=
  if v3 ≤ v4 then
    rZ (nI 1) M
  else
    (gR 4 M v0 0).bind fun r1 =>
    (ldI M r1 (v1 + v4)).bind fun x2 =>
    (gR 4 M v0 0).bind fun r3 =>
    (ldI M r3 (v2 + v4)).bind fun x4 =>
    if x2 = x4 then
      k40 v0 v1 v2 v3 (v4 + (nI 1)) M
    else
      rZ (nI 0) M
def l_X4_isLike_40  : Nat → Nat → Int32 → Int32 → Int32 → Int32 → jM → jO Int32
  | 0 => fun _ _ _ _ _ _ => none
  | n + 1 => b_X4_isLike_40  (l_X4_isLike_40  n)
theorem tb_X4_isLike_40 {G : jG} {d : Nat} (hd_ : 0 ≤ d)  {k40 : Nat → Int32 → Int32 → Int32 → Int32 → jM → jO Int32} (hk40 : ∀ (w0 : Nat) (w1 : Int32) (w2 : Int32) (w3 : Int32) (w4 : Int32) (M : jM) (b : Int32 × jM), k40 w0 w1 w2 w3 w4 M = some b → V G m_X4_isLike d 40 [(0, .ref w0), (1, .int w1), (2, .int w2), (3, .int w3), (4, .int w4)] [] M (jQb cI b)) {v0 : Nat} {v1 : Int32} {v2 : Int32} {v3 : Int32} {v4 : Int32} {M : jM} {b : Int32 × jM} (h : b_X4_isLike_40  k40 v0 v1 v2 v3 v4 M = some b) : V G m_X4_isLike d 40 [(0, .ref v0), (1, .int v1), (2, .int v2), (3, .int v3), (4, .int v4)] [] M (jQb cI b) := by
  unfold b_X4_isLike_40 at h
  refine v_iload dX4_isLike_40 4 rfl ?_
  refine v_iload_n dX4_isLike_42 rfl 3 rfl ?_
  refine x_ic_ge (tgt := 75) dX4_isLike_43 (by decide) h (fun h => ?_) (fun h => ?_)
  · refine v_iconst dX4_isLike_75 ic_1 ?_
    exact x_zret dX4_isLike_76 rfl h
  · refine v_aload_n dX4_isLike_46 rfl 0 rfl ?_
    refine x_gR dX4_isLike_47 kf_X4_9 rfl h (fun r1 h => ?_)
    refine v_iload_n dX4_isLike_50 rfl 1 rfl ?_
    refine v_iload dX4_isLike_51 4 rfl ?_
    refine v_iadd dX4_isLike_53 ?_
    refine x_ldI dX4_isLike_54 h (fun x2 h => ?_)
    refine v_aload_n dX4_isLike_55 rfl 0 rfl ?_
    refine x_gR dX4_isLike_56 kf_X4_9 rfl h (fun r3 h => ?_)
    refine v_iload_n dX4_isLike_59 rfl 2 rfl ?_
    refine v_iload dX4_isLike_60 4 rfl ?_
    refine v_iadd dX4_isLike_62 ?_
    refine x_ldI dX4_isLike_63 h (fun x4 h => ?_)
    refine x_ic_eq (tgt := 69) dX4_isLike_64 (by decide) h (fun h => ?_) (fun h => ?_)
    · refine v_iincC (ls2 := [(4, .int (v4 + (nI 1))), (0, .ref v0), (1, .int v1), (2, .int v2), (3, .int v3)]) dX4_isLike_69 ic_1 4 rfl (by decide) rfl ?_
      refine v_goto (tgt := 40) dX4_isLike_72 (by decide) ?_
      exact V.pick [1, 2, 3, 4, 0] rfl (hk40 _ _ _ _ _ _ _ h)
    · refine v_iconst dX4_isLike_67 ic_0 ?_
      exact x_zret dX4_isLike_68 rfl h
theorem t_X4_isLike_40 {G : jG} {d : Nat} (hd_ : 0 ≤ d)  : ∀ (n : Nat) (v0 : Nat) (v1 : Int32) (v2 : Int32) (v3 : Int32) (v4 : Int32) (M : jM) (b : Int32 × jM), l_X4_isLike_40  n v0 v1 v2 v3 v4 M = some b → V G m_X4_isLike d 40 [(0, .ref v0), (1, .int v1), (2, .int v2), (3, .int v3), (4, .int v4)] [] M (jQb cI b) := by
  intro n
  induction n with
  | zero => intro v0 v1 v2 v3 v4 M b h; exact nomatch (show (none : jO Int32) = some b from h)
  | succ n ih => intro v0 v1 v2 v3 v4 M b h; exact tb_X4_isLike_40 hd_  ih h
def f_X4_isLike (v0 : Nat) (v1 : Int32) (v2 : Int32) (M : jM) : jO Int32 :=
  (gI 4 M v0 1).bind fun x1 =>
  (jv (x1 - v2)).bind fun y2 =>
  if v1 < 0 then
    rZ (nI 0) M
  else
    if v2 < v1 then
      rZ (nI 0) M
    else
      if v2 < (v1 + y2) then
        rZ (nI 0) M
      else
        (gI 4 M v0 1).bind fun x3 =>
        (gR 4 M v0 0).bind fun r4 =>
        (ln M r4).bind fun x5 =>
        if x3 ≤ x5 then
          l_X4_isLike_40 jF0 v0 v1 v2 y2 (nI 0) M
        else
          rZ (nI 0) M
theorem s_X4_isLike {G : jG} {d : Nat} (hd_ : 0 ≤ d) {v0 : Nat} {v1 : Int32} {v2 : Int32} {M : jM} {b : Int32 × jM} (h : f_X4_isLike  v0 v1 v2 M = some b) : V G m_X4_isLike d 0 [(0, .ref v0), (1, .int v1), (2, .int v2)] [] M (jQb cI b) := by
  unfold f_X4_isLike at h
  refine v_aload_n dX4_isLike_0 rfl 0 rfl ?_
  refine x_gI dX4_isLike_1 kf_X4_15 rfl h (fun x1 h => ?_)
  refine v_iload_n dX4_isLike_4 rfl 2 rfl ?_
  refine v_isub dX4_isLike_5 ?_
  refine x_jvI h (fun y2 h => ?_)
  refine v_istore_n (ls2 := [(3, .int y2), (0, .ref v0), (1, .int v1), (2, .int v2)]) dX4_isLike_6 rfl (by decide) rfl ?_
  refine v_iload_n dX4_isLike_7 rfl 2 rfl ?_
  refine x_if_lt (tgt := 35) dX4_isLike_8 (by decide) h (fun h => ?_) (fun h => ?_)
  · refine v_iconst dX4_isLike_35 ic_0 ?_
    exact x_zret dX4_isLike_36 rfl h
  · refine v_iload_n dX4_isLike_11 rfl 3 rfl ?_
    refine v_iload_n dX4_isLike_12 rfl 2 rfl ?_
    refine x_ic_lt (tgt := 35) dX4_isLike_13 (by decide) h (fun h => ?_) (fun h => ?_)
    · refine v_iconst dX4_isLike_35 ic_0 ?_
      exact x_zret dX4_isLike_36 rfl h
    · refine v_iload_n dX4_isLike_16 rfl 2 rfl ?_
      refine v_iload_n dX4_isLike_17 rfl 0 rfl ?_
      refine v_iadd dX4_isLike_18 ?_
      refine v_iload_n dX4_isLike_19 rfl 3 rfl ?_
      refine x_ic_gt (tgt := 35) dX4_isLike_20 (by decide) h (fun h => ?_) (fun h => ?_)
      · refine v_iconst dX4_isLike_35 ic_0 ?_
        exact x_zret dX4_isLike_36 rfl h
      · refine v_aload_n dX4_isLike_23 rfl 1 rfl ?_
        refine x_gI dX4_isLike_24 kf_X4_15 rfl h (fun x3 h => ?_)
        refine v_aload_n dX4_isLike_27 rfl 1 rfl ?_
        refine x_gR dX4_isLike_28 kf_X4_9 rfl h (fun r4 h => ?_)
        refine x_ln dX4_isLike_31 h (fun x5 h => ?_)
        refine x_ic_le (tgt := 37) dX4_isLike_32 (by decide) h (fun h => ?_) (fun h => ?_)
        · refine v_iconst dX4_isLike_37 ic_0 ?_
          refine v_istore (ls2 := [(4, .int (nI 0)), (3, .int y2), (0, .ref v0), (1, .int v1), (2, .int v2)]) dX4_isLike_38 (by decide) rfl ?_
          exact V.pick [2, 3, 4, 1, 0] rfl (t_X4_isLike_40 hd_ _ _ _ _ _ _ _ _ h)
        · refine v_iconst dX4_isLike_35 ic_0 ?_
          exact x_zret dX4_isLike_36 rfl h
def b_X4_standsEarlier_20  (k20 : Nat → Int32 → Int32 → jM → jO Int32) (v0 : Nat) (v2 : Int32) (v3 : Int32) (M : jM) : jO Int32 :=
  if v2 ≤ v3 then
    rZ (nI 0) M
  else
    (gI 4 M v0 1).bind fun x1 =>
    if x1 ≤ v3 then
      rZ (nI 0) M
    else
      jb2 (jiv 4 M v0 (f_X4_isLike v0 v3 v2 M)) fun x3 M2 =>
      if x3 = 0 then
        (gR 4 M2 v0 0).bind fun r4 =>
        (ldI M2 r4 v3).bind fun x5 =>
        jb2 (f_X4_spanOf x5 M2) fun x7 M6 =>
        (jv (v3 + x7)).bind fun y8 =>
        k20 v0 v2 y8 M6
      else
        rZ (nI 1) M2
def l_X4_standsEarlier_20  : Nat → Nat → Int32 → Int32 → jM → jO Int32
  | 0 => fun _ _ _ _ => none
  | n + 1 => b_X4_standsEarlier_20  (l_X4_standsEarlier_20  n)
theorem tb_X4_standsEarlier_20 {G : jG} {d : Nat} (hd_ : 2 ≤ d)  {k20 : Nat → Int32 → Int32 → jM → jO Int32} (hk20 : ∀ (w0 : Nat) (w2 : Int32) (w3 : Int32) (M : jM) (b : Int32 × jM), k20 w0 w2 w3 M = some b → V G m_X4_standsEarlier d 20 [(0, .ref w0), (2, .int w2), (3, .int w3)] [] M (jQb cI b)) {v0 : Nat} {v2 : Int32} {v3 : Int32} {M : jM} {b : Int32 × jM} (h : b_X4_standsEarlier_20  k20 v0 v2 v3 M = some b) : V G m_X4_standsEarlier d 20 [(0, .ref v0), (2, .int v2), (3, .int v3)] [] M (jQb cI b) := by
  unfold b_X4_standsEarlier_20 at h
  refine v_iload_n dX4_standsEarlier_20 rfl 2 rfl ?_
  refine v_iload_n dX4_standsEarlier_21 rfl 1 rfl ?_
  refine x_ic_ge (tgt := 59) dX4_standsEarlier_22 (by decide) h (fun h => ?_) (fun h => ?_)
  · refine v_iconst dX4_standsEarlier_59 ic_0 ?_
    exact x_zret dX4_standsEarlier_60 rfl h
  · refine v_iload_n dX4_standsEarlier_25 rfl 2 rfl ?_
    refine v_aload_n dX4_standsEarlier_26 rfl 0 rfl ?_
    refine x_gI dX4_standsEarlier_27 kf_X4_15 rfl h (fun x1 h => ?_)
    refine x_ic_ge (tgt := 59) dX4_standsEarlier_30 (by decide) h (fun h => ?_) (fun h => ?_)
    · refine v_iconst dX4_standsEarlier_59 ic_0 ?_
      exact x_zret dX4_standsEarlier_60 rfl h
    · refine v_aload_n dX4_standsEarlier_33 rfl 0 rfl ?_
      refine v_iload_n dX4_standsEarlier_34 rfl 2 rfl ?_
      refine v_iload_n dX4_standsEarlier_35 rfl 1 rfl ?_
      refine x_inv (cv := cI) (As := [.int v3, .int v2]) (rest := []) (ls2 := [(0, .ref v0), (1, .int v3), (2, .int v2)]) (ci := 4) (by omega) dX4_standsEarlier_36 ke_X4_isLike kv_X4_40 rfl rfl (by decide) (Nat.le_of_ble_eq_true rfl) rfl rfl rfl rfl h (fun _ hq => s_X4_isLike (by omega) hq) (fun x3 M2 h => ?_)
      refine x_if_eq (tgt := 44) dX4_standsEarlier_39 (by decide) h (fun h => ?_) (fun h => ?_)
      · refine v_iload_n dX4_standsEarlier_44 rfl 2 rfl ?_
        refine v_aload_n dX4_standsEarlier_45 rfl 0 rfl ?_
        refine x_gR dX4_standsEarlier_46 kf_X4_9 rfl h (fun r4 h => ?_)
        refine v_iload_n dX4_standsEarlier_49 rfl 2 rfl ?_
        refine x_ldI dX4_standsEarlier_50 h (fun x5 h => ?_)
        refine x_invs (cv := cI) (As := [.int x5]) (rest := [.int v3]) (ls2 := [(0, .int x5)]) (by omega) dX4_standsEarlier_51 ke_X4_spanOf ks_X4_44 (Nat.le_of_ble_eq_true rfl) rfl rfl rfl rfl h (fun _ hq => s_X4_spanOf (by omega) hq) (fun x7 M6 h => ?_)
        refine v_iadd dX4_standsEarlier_54 ?_
        refine x_jvI h (fun y8 h => ?_)
        refine v_istore_n (ls2 := [(3, .int y8), (0, .ref v0), (2, .int v2)]) dX4_standsEarlier_55 rfl (by decide) rfl ?_
        refine v_goto (tgt := 20) dX4_standsEarlier_56 (by decide) ?_
        exact V.pick [1, 2, 0] rfl (hk20 _ _ _ _ _ h)
      · refine v_iconst dX4_standsEarlier_42 ic_1 ?_
        exact x_zret dX4_standsEarlier_43 rfl h
theorem t_X4_standsEarlier_20 {G : jG} {d : Nat} (hd_ : 2 ≤ d)  : ∀ (n : Nat) (v0 : Nat) (v2 : Int32) (v3 : Int32) (M : jM) (b : Int32 × jM), l_X4_standsEarlier_20  n v0 v2 v3 M = some b → V G m_X4_standsEarlier d 20 [(0, .ref v0), (2, .int v2), (3, .int v3)] [] M (jQb cI b) := by
  intro n
  induction n with
  | zero => intro v0 v2 v3 M b h; exact nomatch (show (none : jO Int32) = some b from h)
  | succ n ih => intro v0 v2 v3 M b h; exact tb_X4_standsEarlier_20 hd_  ih h
def f_X4_standsEarlier (v0 : Nat) (v1 : Int32) (v2 : Int32) (M : jM) : jO Int32 :=
  if v1 < 0 then
    rZ (nI 0) M
  else
    (gI 4 M v0 1).bind fun x1 =>
    (gR 4 M v0 0).bind fun r2 =>
    (ln M r2).bind fun x3 =>
    if x1 ≤ x3 then
      l_X4_standsEarlier_20 jF0 v0 v2 v1 M
    else
      rZ (nI 0) M
theorem s_X4_standsEarlier {G : jG} {d : Nat} (hd_ : 2 ≤ d) {v0 : Nat} {v1 : Int32} {v2 : Int32} {M : jM} {b : Int32 × jM} (h : f_X4_standsEarlier  v0 v1 v2 M = some b) : V G m_X4_standsEarlier d 0 [(0, .ref v0), (1, .int v1), (2, .int v2)] [] M (jQb cI b) := by
  unfold f_X4_standsEarlier at h
  refine v_iload_n dX4_standsEarlier_0 rfl 1 rfl ?_
  refine x_if_lt (tgt := 16) dX4_standsEarlier_1 (by decide) h (fun h => ?_) (fun h => ?_)
  · refine v_iconst dX4_standsEarlier_16 ic_0 ?_
    exact x_zret dX4_standsEarlier_17 rfl h
  · refine v_aload_n dX4_standsEarlier_4 rfl 0 rfl ?_
    refine x_gI dX4_standsEarlier_5 kf_X4_15 rfl h (fun x1 h => ?_)
    refine v_aload_n dX4_standsEarlier_8 rfl 0 rfl ?_
    refine x_gR dX4_standsEarlier_9 kf_X4_9 rfl h (fun r2 h => ?_)
    refine x_ln dX4_standsEarlier_12 h (fun x3 h => ?_)
    refine x_ic_le (tgt := 18) dX4_standsEarlier_13 (by decide) h (fun h => ?_) (fun h => ?_)
    · refine v_iload_n dX4_standsEarlier_18 rfl 1 rfl ?_
      refine v_istore_n (ls2 := [(3, .int v1), (0, .ref v0), (1, .int v1), (2, .int v2)]) dX4_standsEarlier_19 rfl (by decide) rfl ?_
      exact V.pick [1, 3, 0] rfl (t_X4_standsEarlier_20 hd_ _ _ _ _ _ _ h)
    · refine v_iconst dX4_standsEarlier_16 ic_0 ?_
      exact x_zret dX4_standsEarlier_17 rfl h
def f_X3_rowThing (v0 : Nat) (v1 : Int32) (v2 : Int32) (M : jM) : jO Int32 :=
  (jv ((v1 * (nI 3)) + v2)).bind fun y1 =>
  if v2 < 0 then
    rt (nI 0) M
  else
    (gI 3 M v0 5).bind fun x2 =>
    if x2 ≤ v2 then
      rt (nI 0) M
    else
      if y1 < 0 then
        rt (nI 0) M
      else
        (gR 3 M v0 4).bind fun r3 =>
        (ln M r3).bind fun x4 =>
        if x4 ≤ y1 then
          rt (nI 0) M
        else
          (gR 3 M v0 4).bind fun r5 =>
          (ldI M r5 y1).bind fun x6 =>
          rt x6 M
theorem s_X3_rowThing {G : jG} {d : Nat} (hd_ : 0 ≤ d) {v0 : Nat} {v1 : Int32} {v2 : Int32} {M : jM} {b : Int32 × jM} (h : f_X3_rowThing  v0 v1 v2 M = some b) : V G m_X3_rowThing d 0 [(0, .ref v0), (1, .int v1), (2, .int v2)] [] M (jQb cI b) := by
  unfold f_X3_rowThing at h
  refine v_iload_n dX3_rowThing_0 rfl 1 rfl ?_
  refine v_iconst dX3_rowThing_1 ic_3 ?_
  refine v_imul dX3_rowThing_2 ?_
  refine v_iload_n dX3_rowThing_3 rfl 2 rfl ?_
  refine v_iadd dX3_rowThing_4 ?_
  refine x_jvI h (fun y1 h => ?_)
  refine v_istore_n (ls2 := [(3, .int y1), (0, .ref v0), (1, .int v1), (2, .int v2)]) dX3_rowThing_5 rfl (by decide) rfl ?_
  refine v_iload_n dX3_rowThing_6 rfl 3 rfl ?_
  refine x_if_lt (tgt := 40) dX3_rowThing_7 (by decide) h (fun h => ?_) (fun h => ?_)
  · refine v_iconst dX3_rowThing_40 ic_0 ?_
    exact x_iret dX3_rowThing_41 rfl h
  · refine v_iload_n dX3_rowThing_10 rfl 3 rfl ?_
    refine v_aload_n dX3_rowThing_11 rfl 1 rfl ?_
    refine x_gI dX3_rowThing_12 kf_X3_31 rfl h (fun x2 h => ?_)
    refine x_ic_ge (tgt := 40) dX3_rowThing_15 (by decide) h (fun h => ?_) (fun h => ?_)
    · refine v_iconst dX3_rowThing_40 ic_0 ?_
      exact x_iret dX3_rowThing_41 rfl h
    · refine v_iload_n dX3_rowThing_18 rfl 0 rfl ?_
      refine x_if_lt (tgt := 40) dX3_rowThing_19 (by decide) h (fun h => ?_) (fun h => ?_)
      · refine v_iconst dX3_rowThing_40 ic_0 ?_
        exact x_iret dX3_rowThing_41 rfl h
      · refine v_iload_n dX3_rowThing_22 rfl 0 rfl ?_
        refine v_aload_n dX3_rowThing_23 rfl 1 rfl ?_
        refine x_gR dX3_rowThing_24 kf_X3_28 rfl h (fun r3 h => ?_)
        refine x_ln dX3_rowThing_27 h (fun x4 h => ?_)
        refine x_ic_ge (tgt := 40) dX3_rowThing_28 (by decide) h (fun h => ?_) (fun h => ?_)
        · refine v_iconst dX3_rowThing_40 ic_0 ?_
          exact x_iret dX3_rowThing_41 rfl h
        · refine v_aload_n dX3_rowThing_31 rfl 1 rfl ?_
          refine x_gR dX3_rowThing_32 kf_X3_28 rfl h (fun r5 h => ?_)
          refine v_iload_n dX3_rowThing_35 rfl 0 rfl ?_
          refine x_ldI dX3_rowThing_36 h (fun x6 h => ?_)
          refine v_goto (tgt := 41) dX3_rowThing_37 (by decide) ?_
          exact x_iret dX3_rowThing_41 rfl h
def j_X5_addIfParting_93  (v1 : Nat) (v3 : Int32) (v4 : Int32) (v5 : Int32) (v8 : Int32) (M : jM) : jO Int32 :=
  jb2 (jiv 4 M v1 (f_X4_add v1 v3 v4 v5 M)) fun x2 M1 =>
  jb2 (jiv 4 M1 v1 (f_X4_close v1 v8 M1)) fun _ M3 =>
  rZ (nI 1) M3
theorem t_X5_addIfParting_93 {G : jG} {d : Nat} (hd_ : 3 ≤ d)  {v1 : Nat} {v3 : Int32} {v4 : Int32} {v5 : Int32} {v8 : Int32} {M : jM} {b : Int32 × jM} (h : j_X5_addIfParting_93  v1 v3 v4 v5 v8 M = some b) : V G m_X5_addIfParting d 93 [(1, .ref v1), (3, .int v3), (4, .int v4), (5, .int v5), (8, .int v8)] [] M (jQb cI b) := by
  unfold j_X5_addIfParting_93 at h
  refine v_aload_n dX5_addIfParting_93 rfl 0 rfl ?_
  refine v_iload_n dX5_addIfParting_94 rfl 1 rfl ?_
  refine v_iload dX5_addIfParting_95 2 rfl ?_
  refine v_iload dX5_addIfParting_97 3 rfl ?_
  refine x_inv (cv := cI) (As := [.int v3, .int v4, .int v5]) (rest := []) (ls2 := [(0, .ref v1), (1, .int v3), (2, .int v4), (3, .int v5)]) (ci := 4) (by omega) dX5_addIfParting_99 ke_X4_add kv_X5_24 rfl rfl (by decide) (Nat.le_of_ble_eq_true rfl) rfl rfl rfl rfl h (fun _ hq => s_X4_add (by omega) hq) (fun x2 M1 h => ?_)
  refine v_pop dX5_addIfParting_102 rfl ?_
  refine v_aload_n dX5_addIfParting_103 rfl 0 rfl ?_
  refine v_iload dX5_addIfParting_104 4 rfl ?_
  refine x_inv (cv := cU) (As := [.int v8]) (rest := []) (ls2 := [(0, .ref v1), (1, .int v8)]) (ci := 4) (by omega) dX5_addIfParting_106 ke_X4_close kv_X5_37 rfl rfl (by decide) (Nat.le_of_ble_eq_true rfl) rfl rfl rfl rfl h (fun _ hq => s_X4_close (by omega) hq) (fun _ M3 h => ?_)
  refine v_iconst dX5_addIfParting_109 ic_1 ?_
  exact x_zret dX5_addIfParting_110 rfl h
def f_X5_addIfParting (v0 : Nat) (v1 : Nat) (v2 : Int32) (v3 : Int32) (v4 : Int32) (v5 : Int32) (M : jM) : jO Int32 :=
  jb2 (jiv 3 M v0 (f_X3_worldOn v0 v2 M)) fun r2 M1 =>
  jb2 (jiv 3 M1 v0 (f_X3_rowThing v0 v2 (v4 - (nI 1)) M1)) fun x4 M3 =>
  jb2 (jiv 3 M3 v0 (f_X3_rowThing v0 v2 (v5 - (nI 1)) M3)) fun x6 M5 =>
  jb2 (jiv 8 M5 r2 (f_X9_holdsAtom r2 v3 x4 x6 M5)) fun x8 M7 =>
  jb2 (jiv 3 M7 v0 (f_X3_worldOn v0 ((nI 1) - v2) M7)) fun r10 M9 =>
  jb2 (jiv 3 M9 v0 (f_X3_rowThing v0 ((nI 1) - v2) (v4 - (nI 1)) M9)) fun x12 M11 =>
  jb2 (jiv 3 M11 v0 (f_X3_rowThing v0 ((nI 1) - v2) (v5 - (nI 1)) M11)) fun x14 M13 =>
  jb2 (jiv 8 M13 r10 (f_X9_holdsAtom r10 v3 x12 x14 M13)) fun x16 M15 =>
  if x8 = x16 then
    rZ (nI 0) M15
  else
    jb2 (jiv 4 M15 v1 (f_X4_count v1 M15)) fun x18 M17 =>
    if x8 = 0 then
      jb2 (jiv 4 M17 v1 (f_X4_add v1 (nI 45) (nI 0) (nI 0) M17)) fun x20 M19 =>
      j_X5_addIfParting_93 v1 v3 v4 v5 x18 M19
    else
      j_X5_addIfParting_93 v1 v3 v4 v5 x18 M17
theorem s_X5_addIfParting {G : jG} {d : Nat} (hd_ : 3 ≤ d) {v0 : Nat} {v1 : Nat} {v2 : Int32} {v3 : Int32} {v4 : Int32} {v5 : Int32} {M : jM} {b : Int32 × jM} (h : f_X5_addIfParting  v0 v1 v2 v3 v4 v5 M = some b) : V G m_X5_addIfParting d 0 [(0, .ref v0), (1, .ref v1), (2, .int v2), (3, .int v3), (4, .int v4), (5, .int v5)] [] M (jQb cI b) := by
  unfold f_X5_addIfParting at h
  refine v_aload_n dX5_addIfParting_0 rfl 0 rfl ?_
  refine v_iload_n dX5_addIfParting_1 rfl 2 rfl ?_
  refine x_inv (cv := cR) (As := [.int v2]) (rest := []) (ls2 := [(0, .ref v0), (1, .int v2)]) (ci := 3) (by omega) dX5_addIfParting_2 ke_X3_worldOn kv_X5_41 rfl rfl (by decide) (Nat.le_of_ble_eq_true rfl) rfl rfl rfl rfl h (fun _ hq => s_X3_worldOn (by omega) hq) (fun r2 M1 h => ?_)
  refine v_iload_n dX5_addIfParting_5 rfl 3 rfl ?_
  refine v_aload_n dX5_addIfParting_6 rfl 0 rfl ?_
  refine v_iload_n dX5_addIfParting_7 rfl 2 rfl ?_
  refine v_iload dX5_addIfParting_8 4 rfl ?_
  refine v_iconst dX5_addIfParting_10 ic_1 ?_
  refine v_isub dX5_addIfParting_11 ?_
  refine x_inv (cv := cI) (As := [.int v2, .int (v4 - (nI 1))]) (rest := [.int v3, .ref r2]) (ls2 := [(0, .ref v0), (1, .int v2), (2, .int (v4 - (nI 1)))]) (ci := 3) (by omega) dX5_addIfParting_12 ke_X3_rowThing kv_X5_81 rfl rfl (by decide) (Nat.le_of_ble_eq_true rfl) rfl rfl rfl rfl h (fun _ hq => s_X3_rowThing (by omega) hq) (fun x4 M3 h => ?_)
  refine v_aload_n dX5_addIfParting_15 rfl 0 rfl ?_
  refine v_iload_n dX5_addIfParting_16 rfl 2 rfl ?_
  refine v_iload dX5_addIfParting_17 5 rfl ?_
  refine v_iconst dX5_addIfParting_19 ic_1 ?_
  refine v_isub dX5_addIfParting_20 ?_
  refine x_inv (cv := cI) (As := [.int v2, .int (v5 - (nI 1))]) (rest := [.int x4, .int v3, .ref r2]) (ls2 := [(0, .ref v0), (1, .int v2), (2, .int (v5 - (nI 1)))]) (ci := 3) (by omega) dX5_addIfParting_21 ke_X3_rowThing kv_X5_81 rfl rfl (by decide) (Nat.le_of_ble_eq_true rfl) rfl rfl rfl rfl h (fun _ hq => s_X3_rowThing (by omega) hq) (fun x6 M5 h => ?_)
  refine x_inv (cv := cI) (As := [.int v3, .int x4, .int x6]) (rest := []) (ls2 := [(0, .ref r2), (1, .int v3), (2, .int x4), (3, .int x6)]) (ci := 8) (by omega) dX5_addIfParting_24 ke_X9_holdsAtom kv_X5_84 rfl rfl (by decide) (Nat.le_of_ble_eq_true rfl) rfl rfl rfl rfl h (fun _ hq => s_X9_holdsAtom (by omega) hq) (fun x8 M7 h => ?_)
  refine v_istore (ls2 := [(6, .int x8), (0, .ref v0), (1, .ref v1), (2, .int v2), (3, .int v3), (4, .int v4), (5, .int v5)]) dX5_addIfParting_27 (by decide) rfl ?_
  refine v_aload_n dX5_addIfParting_29 rfl 1 rfl ?_
  refine v_iconst dX5_addIfParting_30 ic_1 ?_
  refine v_iload_n dX5_addIfParting_31 rfl 3 rfl ?_
  refine v_isub dX5_addIfParting_32 ?_
  refine x_inv (cv := cR) (As := [.int ((nI 1) - v2)]) (rest := []) (ls2 := [(0, .ref v0), (1, .int ((nI 1) - v2))]) (ci := 3) (by omega) dX5_addIfParting_33 ke_X3_worldOn kv_X5_41 rfl rfl (by decide) (Nat.le_of_ble_eq_true rfl) rfl rfl rfl rfl h (fun _ hq => s_X3_worldOn (by omega) hq) (fun r10 M9 h => ?_)
  refine v_iload_n dX5_addIfParting_36 rfl 4 rfl ?_
  refine v_aload_n dX5_addIfParting_37 rfl 1 rfl ?_
  refine v_iconst dX5_addIfParting_38 ic_1 ?_
  refine v_iload_n dX5_addIfParting_39 rfl 3 rfl ?_
  refine v_isub dX5_addIfParting_40 ?_
  refine v_iload dX5_addIfParting_41 5 rfl ?_
  refine v_iconst dX5_addIfParting_43 ic_1 ?_
  refine v_isub dX5_addIfParting_44 ?_
  refine x_inv (cv := cI) (As := [.int ((nI 1) - v2), .int (v4 - (nI 1))]) (rest := [.int v3, .ref r10]) (ls2 := [(0, .ref v0), (1, .int ((nI 1) - v2)), (2, .int (v4 - (nI 1)))]) (ci := 3) (by omega) dX5_addIfParting_45 ke_X3_rowThing kv_X5_81 rfl rfl (by decide) (Nat.le_of_ble_eq_true rfl) rfl rfl rfl rfl h (fun _ hq => s_X3_rowThing (by omega) hq) (fun x12 M11 h => ?_)
  refine v_aload_n dX5_addIfParting_48 rfl 1 rfl ?_
  refine v_iconst dX5_addIfParting_49 ic_1 ?_
  refine v_iload_n dX5_addIfParting_50 rfl 3 rfl ?_
  refine v_isub dX5_addIfParting_51 ?_
  refine v_iload dX5_addIfParting_52 6 rfl ?_
  refine v_iconst dX5_addIfParting_54 ic_1 ?_
  refine v_isub dX5_addIfParting_55 ?_
  refine x_inv (cv := cI) (As := [.int ((nI 1) - v2), .int (v5 - (nI 1))]) (rest := [.int x12, .int v3, .ref r10]) (ls2 := [(0, .ref v0), (1, .int ((nI 1) - v2)), (2, .int (v5 - (nI 1)))]) (ci := 3) (by omega) dX5_addIfParting_56 ke_X3_rowThing kv_X5_81 rfl rfl (by decide) (Nat.le_of_ble_eq_true rfl) rfl rfl rfl rfl h (fun _ hq => s_X3_rowThing (by omega) hq) (fun x14 M13 h => ?_)
  refine x_inv (cv := cI) (As := [.int v3, .int x12, .int x14]) (rest := []) (ls2 := [(0, .ref r10), (1, .int v3), (2, .int x12), (3, .int x14)]) (ci := 8) (by omega) dX5_addIfParting_59 ke_X9_holdsAtom kv_X5_84 rfl rfl (by decide) (Nat.le_of_ble_eq_true rfl) rfl rfl rfl rfl h (fun _ hq => s_X9_holdsAtom (by omega) hq) (fun x16 M15 h => ?_)
  refine v_istore (ls2 := [(7, .int x16), (6, .int x8), (0, .ref v0), (1, .ref v1), (2, .int v2), (3, .int v3), (4, .int v4), (5, .int v5)]) dX5_addIfParting_62 (by decide) rfl ?_
  refine v_iload dX5_addIfParting_64 1 rfl ?_
  refine v_iload dX5_addIfParting_66 0 rfl ?_
  refine x_ic_ne (tgt := 73) dX5_addIfParting_68 (by decide) h (fun h => ?_) (fun h => ?_)
  · refine v_iconst dX5_addIfParting_71 ic_0 ?_
    exact x_zret dX5_addIfParting_72 rfl h
  · refine v_aload_n dX5_addIfParting_73 rfl 3 rfl ?_
    refine x_inv (cv := cI) (As := []) (rest := []) (ls2 := [(0, .ref v1)]) (ci := 4) (by omega) dX5_addIfParting_74 ke_X4_count kv_X5_19 rfl rfl (by decide) (Nat.le_of_ble_eq_true rfl) rfl rfl rfl rfl h (fun _ hq => s_X4_count (by omega) hq) (fun x18 M17 h => ?_)
    refine v_istore (ls2 := [(8, .int x18), (7, .int x16), (6, .int x8), (0, .ref v0), (1, .ref v1), (2, .int v2), (3, .int v3), (4, .int v4), (5, .int v5)]) dX5_addIfParting_77 (by decide) rfl ?_
    refine v_iload dX5_addIfParting_79 2 rfl ?_
    refine x_if_ne (tgt := 93) dX5_addIfParting_81 (by decide) h (fun h => ?_) (fun h => ?_)
    · refine v_aload_n dX5_addIfParting_84 rfl 4 rfl ?_
      refine v_bipush dX5_addIfParting_85 bp_45 ?_
      refine v_iconst dX5_addIfParting_87 ic_0 ?_
      refine v_iconst dX5_addIfParting_88 ic_0 ?_
      refine x_inv (cv := cI) (As := [.int (nI 45), .int (nI 0), .int (nI 0)]) (rest := []) (ls2 := [(0, .ref v1), (1, .int (nI 45)), (2, .int (nI 0)), (3, .int (nI 0))]) (ci := 4) (by omega) dX5_addIfParting_89 ke_X4_add kv_X5_24 rfl rfl (by decide) (Nat.le_of_ble_eq_true rfl) rfl rfl rfl rfl h (fun _ hq => s_X4_add (by omega) hq) (fun x20 M19 h => ?_)
      refine v_pop dX5_addIfParting_92 rfl ?_
      exact V.pick [4, 6, 7, 8, 0] rfl (t_X5_addIfParting_93 hd_ h)
    · exact V.pick [4, 6, 7, 8, 0] rfl (t_X5_addIfParting_93 hd_ h)
def j_X5_partByAtom_138 (k94 : Nat → Nat → Int32 → Int32 → Int32 → Int32 → jM → jO Unit) (v0 : Nat) (v1 : Nat) (v2 : Int32) (v3 : Int32) (v5 : Int32) (s0 : Int32) (M : jM) : jO Unit :=
  k94 v0 v1 v2 v3 s0 (v5 + (nI 1)) M
theorem t_X5_partByAtom_138 {G : jG} {d : Nat} (hd_ : 4 ≤ d) {k94 : Nat → Nat → Int32 → Int32 → Int32 → Int32 → jM → jO Unit} (hk94 : ∀ (w0 : Nat) (w1 : Nat) (w2 : Int32) (w3 : Int32) (w4 : Int32) (w5 : Int32) (M : jM) (b : Unit × jM), k94 w0 w1 w2 w3 w4 w5 M = some b → V G m_X5_partByAtom d 94 [(0, .ref w0), (1, .ref w1), (2, .int w2), (3, .int w3), (4, .int w4), (5, .int w5)] [] M (jQb cU b)) {v0 : Nat} {v1 : Nat} {v2 : Int32} {v3 : Int32} {v5 : Int32} {s0 : Int32} {M : jM} {b : Unit × jM} (h : j_X5_partByAtom_138 k94 v0 v1 v2 v3 v5 s0 M = some b) : V G m_X5_partByAtom d 138 [(0, .ref v0), (1, .ref v1), (2, .int v2), (3, .int v3), (5, .int v5)] [.int s0] M (jQb cU b) := by
  unfold j_X5_partByAtom_138 at h
  refine v_istore (ls2 := [(4, .int s0), (0, .ref v0), (1, .ref v1), (2, .int v2), (3, .int v3), (5, .int v5)]) dX5_partByAtom_138 (by decide) rfl ?_
  refine v_iincC (ls2 := [(5, .int (v5 + (nI 1))), (4, .int s0), (0, .ref v0), (1, .ref v1), (2, .int v2), (3, .int v3)]) dX5_partByAtom_140 ic_1 5 rfl (by decide) rfl ?_
  refine v_goto (tgt := 94) dX5_partByAtom_143 (by decide) ?_
  exact V.pick [2, 3, 4, 5, 1, 0] rfl (hk94 _ _ _ _ _ _ _ _ h)
def j_X5_partByAtom_133 (k94 : Nat → Nat → Int32 → Int32 → Int32 → Int32 → jM → jO Unit) (v0 : Nat) (v1 : Nat) (v2 : Int32) (v3 : Int32) (v5 : Int32) (M : jM) : jO Unit :=
  j_X5_partByAtom_138 k94 v0 v1 v2 v3 v5 (nI 1) M
theorem t_X5_partByAtom_133 {G : jG} {d : Nat} (hd_ : 4 ≤ d) {k94 : Nat → Nat → Int32 → Int32 → Int32 → Int32 → jM → jO Unit} (hk94 : ∀ (w0 : Nat) (w1 : Nat) (w2 : Int32) (w3 : Int32) (w4 : Int32) (w5 : Int32) (M : jM) (b : Unit × jM), k94 w0 w1 w2 w3 w4 w5 M = some b → V G m_X5_partByAtom d 94 [(0, .ref w0), (1, .ref w1), (2, .int w2), (3, .int w3), (4, .int w4), (5, .int w5)] [] M (jQb cU b)) {v0 : Nat} {v1 : Nat} {v2 : Int32} {v3 : Int32} {v5 : Int32} {M : jM} {b : Unit × jM} (h : j_X5_partByAtom_133 k94 v0 v1 v2 v3 v5 M = some b) : V G m_X5_partByAtom d 133 [(0, .ref v0), (1, .ref v1), (2, .int v2), (3, .int v3), (5, .int v5)] [] M (jQb cU b) := by
  unfold j_X5_partByAtom_133 at h
  refine v_iconst dX5_partByAtom_133 ic_1 ?_
  refine v_goto (tgt := 138) dX5_partByAtom_134 (by decide) ?_
  exact t_X5_partByAtom_138 hd_ hk94 h
def b_X5_partByAtom_94  (k94 : Nat → Nat → Int32 → Int32 → Int32 → Int32 → jM → jO Unit) (v0 : Nat) (v1 : Nat) (v2 : Int32) (v3 : Int32) (v4 : Int32) (v5 : Int32) (M : jM) : jO Unit :=
  if v3 < v5 then
    rt () M
  else
    if v4 = 0 then
      jb2 (f_X5_addIfParting v0 v1 v2 (nI 69) v5 v3 M) fun x2 M1 =>
      if x2 = 0 then
        jb2 (f_X5_addIfParting v0 v1 v2 (nI 69) v3 v5 M1) fun x4 M3 =>
        if x4 = 0 then
          j_X5_partByAtom_138 k94 v0 v1 v2 v3 v5 (nI 0) M3
        else
          j_X5_partByAtom_133 k94 v0 v1 v2 v3 v5 M3
      else
        j_X5_partByAtom_133 k94 v0 v1 v2 v3 v5 M1
    else
      rt () M
def l_X5_partByAtom_94  : Nat → Nat → Nat → Int32 → Int32 → Int32 → Int32 → jM → jO Unit
  | 0 => fun _ _ _ _ _ _ _ => none
  | n + 1 => b_X5_partByAtom_94  (l_X5_partByAtom_94  n)
theorem tb_X5_partByAtom_94 {G : jG} {d : Nat} (hd_ : 4 ≤ d)  {k94 : Nat → Nat → Int32 → Int32 → Int32 → Int32 → jM → jO Unit} (hk94 : ∀ (w0 : Nat) (w1 : Nat) (w2 : Int32) (w3 : Int32) (w4 : Int32) (w5 : Int32) (M : jM) (b : Unit × jM), k94 w0 w1 w2 w3 w4 w5 M = some b → V G m_X5_partByAtom d 94 [(0, .ref w0), (1, .ref w1), (2, .int w2), (3, .int w3), (4, .int w4), (5, .int w5)] [] M (jQb cU b)) {v0 : Nat} {v1 : Nat} {v2 : Int32} {v3 : Int32} {v4 : Int32} {v5 : Int32} {M : jM} {b : Unit × jM} (h : b_X5_partByAtom_94  k94 v0 v1 v2 v3 v4 v5 M = some b) : V G m_X5_partByAtom d 94 [(0, .ref v0), (1, .ref v1), (2, .int v2), (3, .int v3), (4, .int v4), (5, .int v5)] [] M (jQb cU b) := by
  unfold b_X5_partByAtom_94 at h
  refine v_iload dX5_partByAtom_94 5 rfl ?_
  refine v_iload_n dX5_partByAtom_96 rfl 3 rfl ?_
  refine x_ic_gt (tgt := 146) dX5_partByAtom_97 (by decide) h (fun h => ?_) (fun h => ?_)
  · exact x_vret dX5_partByAtom_146 rfl h
  · refine v_iload dX5_partByAtom_100 4 rfl ?_
    refine x_if_ne (tgt := 146) dX5_partByAtom_102 (by decide) h (fun h => ?_) (fun h => ?_)
    · refine v_aload_n dX5_partByAtom_105 rfl 0 rfl ?_
      refine v_aload_n dX5_partByAtom_106 rfl 1 rfl ?_
      refine v_iload_n dX5_partByAtom_107 rfl 2 rfl ?_
      refine v_bipush dX5_partByAtom_108 bp_69 ?_
      refine v_iload dX5_partByAtom_110 5 rfl ?_
      refine v_iload_n dX5_partByAtom_112 rfl 3 rfl ?_
      refine x_invs (cv := cI) (As := [.ref v0, .ref v1, .int v2, .int (nI 69), .int v5, .int v3]) (rest := []) (ls2 := [(0, .ref v0), (1, .ref v1), (2, .int v2), (3, .int (nI 69)), (4, .int v5), (5, .int v3)]) (by omega) dX5_partByAtom_113 ke_X5_addIfParting ks_X5_77 (Nat.le_of_ble_eq_true rfl) rfl rfl rfl rfl h (fun _ hq => s_X5_addIfParting (by omega) hq) (fun x2 M1 h => ?_)
      refine x_if_ne (tgt := 133) dX5_partByAtom_116 (by decide) h (fun h => ?_) (fun h => ?_)
      · refine v_aload_n dX5_partByAtom_119 rfl 0 rfl ?_
        refine v_aload_n dX5_partByAtom_120 rfl 1 rfl ?_
        refine v_iload_n dX5_partByAtom_121 rfl 2 rfl ?_
        refine v_bipush dX5_partByAtom_122 bp_69 ?_
        refine v_iload_n dX5_partByAtom_124 rfl 3 rfl ?_
        refine v_iload dX5_partByAtom_125 5 rfl ?_
        refine x_invs (cv := cI) (As := [.ref v0, .ref v1, .int v2, .int (nI 69), .int v3, .int v5]) (rest := []) (ls2 := [(0, .ref v0), (1, .ref v1), (2, .int v2), (3, .int (nI 69)), (4, .int v3), (5, .int v5)]) (by omega) dX5_partByAtom_127 ke_X5_addIfParting ks_X5_77 (Nat.le_of_ble_eq_true rfl) rfl rfl rfl rfl h (fun _ hq => s_X5_addIfParting (by omega) hq) (fun x4 M3 h => ?_)
        refine x_if_eq (tgt := 137) dX5_partByAtom_130 (by decide) h (fun h => ?_) (fun h => ?_)
        · refine v_iconst dX5_partByAtom_137 ic_0 ?_
          exact V.pick [0, 1, 2, 3, 5] rfl (t_X5_partByAtom_138 hd_ hk94 h)
        · exact V.pick [0, 1, 2, 3, 5] rfl (t_X5_partByAtom_133 hd_ hk94 h)
      · exact V.pick [0, 1, 2, 3, 5] rfl (t_X5_partByAtom_133 hd_ hk94 h)
    · exact x_vret dX5_partByAtom_146 rfl h
theorem t_X5_partByAtom_94 {G : jG} {d : Nat} (hd_ : 4 ≤ d)  : ∀ (n : Nat) (v0 : Nat) (v1 : Nat) (v2 : Int32) (v3 : Int32) (v4 : Int32) (v5 : Int32) (M : jM) (b : Unit × jM), l_X5_partByAtom_94  n v0 v1 v2 v3 v4 v5 M = some b → V G m_X5_partByAtom d 94 [(0, .ref v0), (1, .ref v1), (2, .int v2), (3, .int v3), (4, .int v4), (5, .int v5)] [] M (jQb cU b) := by
  intro n
  induction n with
  | zero => intro v0 v1 v2 v3 v4 v5 M b h; exact nomatch (show (none : jO Unit) = some b from h)
  | succ n ih => intro v0 v1 v2 v3 v4 v5 M b h; exact tb_X5_partByAtom_94 hd_  ih h
def j_X5_partByAtom_89  (v0 : Nat) (v1 : Nat) (v2 : Int32) (v3 : Int32) (s0 : Int32) (M : jM) : jO Unit :=
  l_X5_partByAtom_94 jF0 v0 v1 v2 v3 s0 (nI 1) M
theorem t_X5_partByAtom_89 {G : jG} {d : Nat} (hd_ : 4 ≤ d)  {v0 : Nat} {v1 : Nat} {v2 : Int32} {v3 : Int32} {s0 : Int32} {M : jM} {b : Unit × jM} (h : j_X5_partByAtom_89  v0 v1 v2 v3 s0 M = some b) : V G m_X5_partByAtom d 89 [(0, .ref v0), (1, .ref v1), (2, .int v2), (3, .int v3)] [.int s0] M (jQb cU b) := by
  unfold j_X5_partByAtom_89 at h
  refine v_istore (ls2 := [(4, .int s0), (0, .ref v0), (1, .ref v1), (2, .int v2), (3, .int v3)]) dX5_partByAtom_89 (by decide) rfl ?_
  refine v_iconst dX5_partByAtom_91 ic_1 ?_
  refine v_istore (ls2 := [(5, .int (nI 1)), (4, .int s0), (0, .ref v0), (1, .ref v1), (2, .int v2), (3, .int v3)]) dX5_partByAtom_92 (by decide) rfl ?_
  exact V.pick [2, 3, 4, 5, 1, 0] rfl (t_X5_partByAtom_94 hd_ _ _ _ _ _ _ _ _ _ h)
def j_X5_partByAtom_84  (v0 : Nat) (v1 : Nat) (v2 : Int32) (v3 : Int32) (M : jM) : jO Unit :=
  j_X5_partByAtom_89 v0 v1 v2 v3 (nI 1) M
theorem t_X5_partByAtom_84 {G : jG} {d : Nat} (hd_ : 4 ≤ d)  {v0 : Nat} {v1 : Nat} {v2 : Int32} {v3 : Int32} {M : jM} {b : Unit × jM} (h : j_X5_partByAtom_84  v0 v1 v2 v3 M = some b) : V G m_X5_partByAtom d 84 [(0, .ref v0), (1, .ref v1), (2, .int v2), (3, .int v3)] [] M (jQb cU b) := by
  unfold j_X5_partByAtom_84 at h
  refine v_iconst dX5_partByAtom_84 ic_1 ?_
  refine v_goto (tgt := 89) dX5_partByAtom_85 (by decide) ?_
  exact t_X5_partByAtom_89 hd_ h
def j_X5_partByAtom_64  (v0 : Nat) (v1 : Nat) (v2 : Int32) (v3 : Int32) (s0 : Int32) (M : jM) : jO Unit :=
  if s0 = 0 then
    jb2 (f_X5_addIfParting v0 v1 v2 (nI 66) v3 (nI 0) M) fun x2 M1 =>
    if x2 = 0 then
      j_X5_partByAtom_89 v0 v1 v2 v3 (nI 0) M1
    else
      j_X5_partByAtom_84 v0 v1 v2 v3 M1
  else
    j_X5_partByAtom_84 v0 v1 v2 v3 M
theorem t_X5_partByAtom_64 {G : jG} {d : Nat} (hd_ : 4 ≤ d)  {v0 : Nat} {v1 : Nat} {v2 : Int32} {v3 : Int32} {s0 : Int32} {M : jM} {b : Unit × jM} (h : j_X5_partByAtom_64  v0 v1 v2 v3 s0 M = some b) : V G m_X5_partByAtom d 64 [(0, .ref v0), (1, .ref v1), (2, .int v2), (3, .int v3)] [.int s0] M (jQb cU b) := by
  unfold j_X5_partByAtom_64 at h
  refine v_istore (ls2 := [(4, .int s0), (0, .ref v0), (1, .ref v1), (2, .int v2), (3, .int v3)]) dX5_partByAtom_64 (by decide) rfl ?_
  refine v_iload dX5_partByAtom_66 0 rfl ?_
  refine x_if_ne (tgt := 84) dX5_partByAtom_68 (by decide) h (fun h => ?_) (fun h => ?_)
  · refine v_aload_n dX5_partByAtom_71 rfl 1 rfl ?_
    refine v_aload_n dX5_partByAtom_72 rfl 2 rfl ?_
    refine v_iload_n dX5_partByAtom_73 rfl 3 rfl ?_
    refine v_bipush dX5_partByAtom_74 bp_66 ?_
    refine v_iload_n dX5_partByAtom_76 rfl 4 rfl ?_
    refine v_iconst dX5_partByAtom_77 ic_0 ?_
    refine x_invs (cv := cI) (As := [.ref v0, .ref v1, .int v2, .int (nI 66), .int v3, .int (nI 0)]) (rest := []) (ls2 := [(0, .ref v0), (1, .ref v1), (2, .int v2), (3, .int (nI 66)), (4, .int v3), (5, .int (nI 0))]) (by omega) dX5_partByAtom_78 ke_X5_addIfParting ks_X5_77 (Nat.le_of_ble_eq_true rfl) rfl rfl rfl rfl h (fun _ hq => s_X5_addIfParting (by omega) hq) (fun x2 M1 h => ?_)
    refine x_if_eq (tgt := 88) dX5_partByAtom_81 (by decide) h (fun h => ?_) (fun h => ?_)
    · refine v_iconst dX5_partByAtom_88 ic_0 ?_
      exact V.pick [1, 2, 3, 4] rfl (t_X5_partByAtom_89 hd_ h)
    · exact V.pick [1, 2, 3, 4] rfl (t_X5_partByAtom_84 hd_ h)
  · exact V.pick [1, 2, 3, 4] rfl (t_X5_partByAtom_84 hd_ h)
def j_X5_partByAtom_59  (v0 : Nat) (v1 : Nat) (v2 : Int32) (v3 : Int32) (M : jM) : jO Unit :=
  j_X5_partByAtom_64 v0 v1 v2 v3 (nI 1) M
theorem t_X5_partByAtom_59 {G : jG} {d : Nat} (hd_ : 4 ≤ d)  {v0 : Nat} {v1 : Nat} {v2 : Int32} {v3 : Int32} {M : jM} {b : Unit × jM} (h : j_X5_partByAtom_59  v0 v1 v2 v3 M = some b) : V G m_X5_partByAtom d 59 [(0, .ref v0), (1, .ref v1), (2, .int v2), (3, .int v3)] [] M (jQb cU b) := by
  unfold j_X5_partByAtom_59 at h
  refine v_iconst dX5_partByAtom_59 ic_1 ?_
  refine v_goto (tgt := 64) dX5_partByAtom_60 (by decide) ?_
  exact t_X5_partByAtom_64 hd_ h
def j_X5_partByAtom_41  (v0 : Nat) (v1 : Nat) (v2 : Int32) (v3 : Int32) (v4 : Int32) (M : jM) : jO Unit :=
  if v4 = 0 then
    jb2 (f_X5_addIfParting v0 v1 v2 (nI 65) v3 (nI 0) M) fun x2 M1 =>
    if x2 = 0 then
      j_X5_partByAtom_64 v0 v1 v2 v3 (nI 0) M1
    else
      j_X5_partByAtom_59 v0 v1 v2 v3 M1
  else
    j_X5_partByAtom_59 v0 v1 v2 v3 M
theorem t_X5_partByAtom_41 {G : jG} {d : Nat} (hd_ : 4 ≤ d)  {v0 : Nat} {v1 : Nat} {v2 : Int32} {v3 : Int32} {v4 : Int32} {M : jM} {b : Unit × jM} (h : j_X5_partByAtom_41  v0 v1 v2 v3 v4 M = some b) : V G m_X5_partByAtom d 41 [(0, .ref v0), (1, .ref v1), (2, .int v2), (3, .int v3), (4, .int v4)] [] M (jQb cU b) := by
  unfold j_X5_partByAtom_41 at h
  refine v_iload dX5_partByAtom_41 4 rfl ?_
  refine x_if_ne (tgt := 59) dX5_partByAtom_43 (by decide) h (fun h => ?_) (fun h => ?_)
  · refine v_aload_n dX5_partByAtom_46 rfl 0 rfl ?_
    refine v_aload_n dX5_partByAtom_47 rfl 1 rfl ?_
    refine v_iload_n dX5_partByAtom_48 rfl 2 rfl ?_
    refine v_bipush dX5_partByAtom_49 bp_65 ?_
    refine v_iload_n dX5_partByAtom_51 rfl 3 rfl ?_
    refine v_iconst dX5_partByAtom_52 ic_0 ?_
    refine x_invs (cv := cI) (As := [.ref v0, .ref v1, .int v2, .int (nI 65), .int v3, .int (nI 0)]) (rest := []) (ls2 := [(0, .ref v0), (1, .ref v1), (2, .int v2), (3, .int (nI 65)), (4, .int v3), (5, .int (nI 0))]) (by omega) dX5_partByAtom_53 ke_X5_addIfParting ks_X5_77 (Nat.le_of_ble_eq_true rfl) rfl rfl rfl rfl h (fun _ hq => s_X5_addIfParting (by omega) hq) (fun x2 M1 h => ?_)
    refine x_if_eq (tgt := 63) dX5_partByAtom_56 (by decide) h (fun h => ?_) (fun h => ?_)
    · refine v_iconst dX5_partByAtom_63 ic_0 ?_
      exact V.pick [0, 1, 2, 3] rfl (t_X5_partByAtom_64 hd_ h)
    · exact V.pick [0, 1, 2, 3] rfl (t_X5_partByAtom_59 hd_ h)
  · exact V.pick [0, 1, 2, 3] rfl (t_X5_partByAtom_59 hd_ h)
def b_X5_partByAtom_11  (k11 : Nat → Nat → Int32 → Int32 → Int32 → Int32 → jM → jO Unit) (v0 : Nat) (v1 : Nat) (v2 : Int32) (v3 : Int32) (v4 : Int32) (v5 : Int32) (M : jM) : jO Unit :=
  if v3 ≤ v5 then
    j_X5_partByAtom_41 v0 v1 v2 v3 v4 M
  else
    if v4 = 0 then
      jb2 (f_X5_addIfParting v0 v1 v2 (nI 61) v5 v3 M) fun x2 M1 =>
      k11 v0 v1 v2 v3 x2 (v5 + (nI 1)) M1
    else
      j_X5_partByAtom_41 v0 v1 v2 v3 v4 M
def l_X5_partByAtom_11  : Nat → Nat → Nat → Int32 → Int32 → Int32 → Int32 → jM → jO Unit
  | 0 => fun _ _ _ _ _ _ _ => none
  | n + 1 => b_X5_partByAtom_11  (l_X5_partByAtom_11  n)
theorem tb_X5_partByAtom_11 {G : jG} {d : Nat} (hd_ : 4 ≤ d)  {k11 : Nat → Nat → Int32 → Int32 → Int32 → Int32 → jM → jO Unit} (hk11 : ∀ (w0 : Nat) (w1 : Nat) (w2 : Int32) (w3 : Int32) (w4 : Int32) (w5 : Int32) (M : jM) (b : Unit × jM), k11 w0 w1 w2 w3 w4 w5 M = some b → V G m_X5_partByAtom d 11 [(0, .ref w0), (1, .ref w1), (2, .int w2), (3, .int w3), (4, .int w4), (5, .int w5)] [] M (jQb cU b)) {v0 : Nat} {v1 : Nat} {v2 : Int32} {v3 : Int32} {v4 : Int32} {v5 : Int32} {M : jM} {b : Unit × jM} (h : b_X5_partByAtom_11  k11 v0 v1 v2 v3 v4 v5 M = some b) : V G m_X5_partByAtom d 11 [(0, .ref v0), (1, .ref v1), (2, .int v2), (3, .int v3), (4, .int v4), (5, .int v5)] [] M (jQb cU b) := by
  unfold b_X5_partByAtom_11 at h
  refine v_iload dX5_partByAtom_11 5 rfl ?_
  refine v_iload_n dX5_partByAtom_13 rfl 3 rfl ?_
  refine x_ic_ge (tgt := 41) dX5_partByAtom_14 (by decide) h (fun h => ?_) (fun h => ?_)
  · exact V.pick [0, 1, 2, 3, 4] rfl (t_X5_partByAtom_41 hd_ h)
  · refine v_iload dX5_partByAtom_17 4 rfl ?_
    refine x_if_ne (tgt := 41) dX5_partByAtom_19 (by decide) h (fun h => ?_) (fun h => ?_)
    · refine v_aload_n dX5_partByAtom_22 rfl 0 rfl ?_
      refine v_aload_n dX5_partByAtom_23 rfl 1 rfl ?_
      refine v_iload_n dX5_partByAtom_24 rfl 2 rfl ?_
      refine v_bipush dX5_partByAtom_25 bp_61 ?_
      refine v_iload dX5_partByAtom_27 5 rfl ?_
      refine v_iload_n dX5_partByAtom_29 rfl 3 rfl ?_
      refine x_invs (cv := cI) (As := [.ref v0, .ref v1, .int v2, .int (nI 61), .int v5, .int v3]) (rest := []) (ls2 := [(0, .ref v0), (1, .ref v1), (2, .int v2), (3, .int (nI 61)), (4, .int v5), (5, .int v3)]) (by omega) dX5_partByAtom_30 ke_X5_addIfParting ks_X5_77 (Nat.le_of_ble_eq_true rfl) rfl rfl rfl rfl h (fun _ hq => s_X5_addIfParting (by omega) hq) (fun x2 M1 h => ?_)
      refine v_istore (ls2 := [(4, .int x2), (0, .ref v0), (1, .ref v1), (2, .int v2), (3, .int v3), (5, .int v5)]) dX5_partByAtom_33 (by decide) rfl ?_
      refine v_iincC (ls2 := [(5, .int (v5 + (nI 1))), (4, .int x2), (0, .ref v0), (1, .ref v1), (2, .int v2), (3, .int v3)]) dX5_partByAtom_35 ic_1 5 rfl (by decide) rfl ?_
      refine v_goto (tgt := 11) dX5_partByAtom_38 (by decide) ?_
      exact V.pick [2, 3, 4, 5, 1, 0] rfl (hk11 _ _ _ _ _ _ _ _ h)
    · exact V.pick [0, 1, 2, 3, 4] rfl (t_X5_partByAtom_41 hd_ h)
theorem t_X5_partByAtom_11 {G : jG} {d : Nat} (hd_ : 4 ≤ d)  : ∀ (n : Nat) (v0 : Nat) (v1 : Nat) (v2 : Int32) (v3 : Int32) (v4 : Int32) (v5 : Int32) (M : jM) (b : Unit × jM), l_X5_partByAtom_11  n v0 v1 v2 v3 v4 v5 M = some b → V G m_X5_partByAtom d 11 [(0, .ref v0), (1, .ref v1), (2, .int v2), (3, .int v3), (4, .int v4), (5, .int v5)] [] M (jQb cU b) := by
  intro n
  induction n with
  | zero => intro v0 v1 v2 v3 v4 v5 M b h; exact nomatch (show (none : jO Unit) = some b from h)
  | succ n ih => intro v0 v1 v2 v3 v4 v5 M b h; exact tb_X5_partByAtom_11 hd_  ih h
def f_X5_partByAtom (v0 : Nat) (v1 : Nat) (v2 : Int32) (M : jM) : jO Unit :=
  jb2 (jiv 3 M v0 (f_X3_length v0 M)) fun x2 M1 =>
  l_X5_partByAtom_11 jF0 v0 v1 v2 x2 (nI 0) (nI 1) M1
theorem s_X5_partByAtom {G : jG} {d : Nat} (hd_ : 4 ≤ d) {v0 : Nat} {v1 : Nat} {v2 : Int32} {M : jM} {b : Unit × jM} (h : f_X5_partByAtom  v0 v1 v2 M = some b) : V G m_X5_partByAtom d 0 [(0, .ref v0), (1, .ref v1), (2, .int v2)] [] M (jQb cU b) := by
  unfold f_X5_partByAtom at h
  refine v_aload_n dX5_partByAtom_0 rfl 0 rfl ?_
  refine x_inv (cv := cI) (As := []) (rest := []) (ls2 := [(0, .ref v0)]) (ci := 3) (by omega) dX5_partByAtom_1 ke_X3_length kv_X5_28 rfl rfl (by decide) (Nat.le_of_ble_eq_true rfl) rfl rfl rfl rfl h (fun _ hq => s_X3_length (by omega) hq) (fun x2 M1 h => ?_)
  refine v_istore_n (ls2 := [(3, .int x2), (0, .ref v0), (1, .ref v1), (2, .int v2)]) dX5_partByAtom_4 rfl (by decide) rfl ?_
  refine v_iconst dX5_partByAtom_5 ic_0 ?_
  refine v_istore (ls2 := [(4, .int (nI 0)), (3, .int x2), (0, .ref v0), (1, .ref v1), (2, .int v2)]) dX5_partByAtom_6 (by decide) rfl ?_
  refine v_iconst dX5_partByAtom_8 ic_1 ?_
  refine v_istore (ls2 := [(5, .int (nI 1)), (4, .int (nI 0)), (3, .int x2), (0, .ref v0), (1, .ref v1), (2, .int v2)]) dX5_partByAtom_9 (by decide) rfl ?_
  exact V.pick [3, 4, 5, 2, 1, 0] rfl (t_X5_partByAtom_11 hd_ _ _ _ _ _ _ _ _ _ h)
