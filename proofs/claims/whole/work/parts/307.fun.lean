def j_X12_tiedOf_101 (k6 : Nat → Int32 → Int32 → Int32 → Int32 → Int32 → jM → jO Int32) (v0 : Nat) (v1 : Int32) (v2 : Int32) (v3 : Int32) (v4 : Int32) (v5 : Int32) (M : jM) : jO Int32 :=
  k6 v0 v1 v2 v3 v4 (v5 + (nI 1)) M
theorem t_X12_tiedOf_101 {G : jG} {d : Nat} (hd_ : 1 ≤ d) {k6 : Nat → Int32 → Int32 → Int32 → Int32 → Int32 → jM → jO Int32} (hk6 : ∀ (w0 : Nat) (w1 : Int32) (w2 : Int32) (w3 : Int32) (w4 : Int32) (w5 : Int32) (M : jM) (b : Int32 × jM), k6 w0 w1 w2 w3 w4 w5 M = some b → V G m_X12_tiedOf d 6 [(0, .ref w0), (1, .int w1), (2, .int w2), (3, .int w3), (4, .int w4), (5, .int w5)] [] M (jQb cI b)) {v0 : Nat} {v1 : Int32} {v2 : Int32} {v3 : Int32} {v4 : Int32} {v5 : Int32} {M : jM} {b : Int32 × jM} (h : j_X12_tiedOf_101 k6 v0 v1 v2 v3 v4 v5 M = some b) : V G m_X12_tiedOf d 101 [(0, .ref v0), (1, .int v1), (2, .int v2), (3, .int v3), (4, .int v4), (5, .int v5)] [] M (jQb cI b) := by
  unfold j_X12_tiedOf_101 at h
  refine v_iincC (ls2 := [(5, .int (v5 + (nI 1))), (0, .ref v0), (1, .int v1), (2, .int v2), (3, .int v3), (4, .int v4)]) dX12_tiedOf_101 ic_1 5 rfl (by decide) rfl ?_
  refine v_goto (tgt := 6) dX12_tiedOf_104 (by decide) ?_
  exact V.pick [1, 2, 3, 4, 5, 0] rfl (hk6 _ _ _ _ _ _ _ _ h)
def j_X12_tiedOf_97 (k6 : Nat → Int32 → Int32 → Int32 → Int32 → Int32 → jM → jO Int32) (v0 : Nat) (v1 : Int32) (v2 : Int32) (v3 : Int32) (v5 : Int32) (s0 : Int32) (s1 : Int32) (s2 : Int32) (M : jM) : jO Int32 :=
  (jv (s0 + (s1 + s2))).bind fun y1 =>
  j_X12_tiedOf_101 k6 v0 v1 v2 v3 y1 v5 M
theorem t_X12_tiedOf_97 {G : jG} {d : Nat} (hd_ : 1 ≤ d) {k6 : Nat → Int32 → Int32 → Int32 → Int32 → Int32 → jM → jO Int32} (hk6 : ∀ (w0 : Nat) (w1 : Int32) (w2 : Int32) (w3 : Int32) (w4 : Int32) (w5 : Int32) (M : jM) (b : Int32 × jM), k6 w0 w1 w2 w3 w4 w5 M = some b → V G m_X12_tiedOf d 6 [(0, .ref w0), (1, .int w1), (2, .int w2), (3, .int w3), (4, .int w4), (5, .int w5)] [] M (jQb cI b)) {v0 : Nat} {v1 : Int32} {v2 : Int32} {v3 : Int32} {v5 : Int32} {s0 : Int32} {s1 : Int32} {s2 : Int32} {M : jM} {b : Int32 × jM} (h : j_X12_tiedOf_97 k6 v0 v1 v2 v3 v5 s0 s1 s2 M = some b) : V G m_X12_tiedOf d 97 [(0, .ref v0), (1, .int v1), (2, .int v2), (3, .int v3), (5, .int v5)] [.int s2, .int s1, .int s0] M (jQb cI b) := by
  unfold j_X12_tiedOf_97 at h
  refine v_iadd dX12_tiedOf_97 ?_
  refine v_iadd dX12_tiedOf_98 ?_
  refine x_jvI h (fun y1 h => ?_)
  refine v_istore (ls2 := [(4, .int y1), (0, .ref v0), (1, .int v1), (2, .int v2), (3, .int v3), (5, .int v5)]) dX12_tiedOf_99 (by decide) rfl ?_
  exact V.pick [1, 2, 3, 4, 0, 5] rfl (t_X12_tiedOf_101 hd_ hk6 h)
def j_X12_tiedOf_71 (k6 : Nat → Int32 → Int32 → Int32 → Int32 → Int32 → jM → jO Int32) (v0 : Nat) (v1 : Int32) (v2 : Int32) (v3 : Int32) (v5 : Int32) (s0 : Int32) (s1 : Int32) (M : jM) : jO Int32 :=
  (gR 11 M v0 58).bind fun r1 =>
  (ldI M r1 v5).bind fun x2 =>
  (gR 11 M v0 58).bind fun r3 =>
  (ldI M r3 v2).bind fun x4 =>
  jb2 (jiv 11 M v0 (f_X12_isTied v0 v1 x2 x4 M)) fun x6 M5 =>
  if x6 = 0 then
    j_X12_tiedOf_97 k6 v0 v1 v2 v3 v5 s0 s1 (nI 0) M5
  else
    j_X12_tiedOf_97 k6 v0 v1 v2 v3 v5 s0 s1 (nI 1) M5
theorem t_X12_tiedOf_71 {G : jG} {d : Nat} (hd_ : 1 ≤ d) {k6 : Nat → Int32 → Int32 → Int32 → Int32 → Int32 → jM → jO Int32} (hk6 : ∀ (w0 : Nat) (w1 : Int32) (w2 : Int32) (w3 : Int32) (w4 : Int32) (w5 : Int32) (M : jM) (b : Int32 × jM), k6 w0 w1 w2 w3 w4 w5 M = some b → V G m_X12_tiedOf d 6 [(0, .ref w0), (1, .int w1), (2, .int w2), (3, .int w3), (4, .int w4), (5, .int w5)] [] M (jQb cI b)) {v0 : Nat} {v1 : Int32} {v2 : Int32} {v3 : Int32} {v5 : Int32} {s0 : Int32} {s1 : Int32} {M : jM} {b : Int32 × jM} (h : j_X12_tiedOf_71 k6 v0 v1 v2 v3 v5 s0 s1 M = some b) : V G m_X12_tiedOf d 71 [(0, .ref v0), (1, .int v1), (2, .int v2), (3, .int v3), (5, .int v5)] [.int s1, .int s0] M (jQb cI b) := by
  unfold j_X12_tiedOf_71 at h
  refine v_aload_n dX12_tiedOf_71 rfl 0 rfl ?_
  refine v_iload_n dX12_tiedOf_72 rfl 1 rfl ?_
  refine v_aload_n dX12_tiedOf_73 rfl 0 rfl ?_
  refine x_gR dX12_tiedOf_74 kf_X12_107 rfl h (fun r1 h => ?_)
  refine v_iload dX12_tiedOf_77 4 rfl ?_
  refine x_ldI dX12_tiedOf_79 h (fun x2 h => ?_)
  refine v_aload_n dX12_tiedOf_80 rfl 0 rfl ?_
  refine x_gR dX12_tiedOf_81 kf_X12_107 rfl h (fun r3 h => ?_)
  refine v_iload_n dX12_tiedOf_84 rfl 2 rfl ?_
  refine x_ldI dX12_tiedOf_85 h (fun x4 h => ?_)
  refine x_inv (cv := cI) (As := [.int v1, .int x2, .int x4]) (rest := [.int s1, .int s0]) (ls2 := [(0, .ref v0), (1, .int v1), (2, .int x2), (3, .int x4)]) (ci := 11) (by omega) dX12_tiedOf_86 ke_X12_isTied kv_X12_152 rfl rfl (by decide) (Nat.le_of_ble_eq_true rfl) rfl rfl rfl rfl h (fun _ hq => s_X12_isTied (by omega) hq) (fun x6 M5 h => ?_)
  refine x_if_eq (tgt := 96) dX12_tiedOf_89 (by decide) h (fun h => ?_) (fun h => ?_)
  · refine v_iconst dX12_tiedOf_96 ic_0 ?_
    exact t_X12_tiedOf_97 hd_ hk6 h
  · refine v_iconst dX12_tiedOf_92 ic_1 ?_
    refine v_goto (tgt := 97) dX12_tiedOf_93 (by decide) ?_
    exact t_X12_tiedOf_97 hd_ hk6 h
def b_X12_tiedOf_6  (k6 : Nat → Int32 → Int32 → Int32 → Int32 → Int32 → jM → jO Int32) (v0 : Nat) (v1 : Int32) (v2 : Int32) (v3 : Int32) (v4 : Int32) (v5 : Int32) (M : jM) : jO Int32 :=
  (gI 11 M v0 52).bind fun x1 =>
  if x1 ≤ v5 then
    rt v4 M
  else
    (gR 11 M v0 57).bind fun r2 =>
    (ldI M r2 v5).bind fun x3 =>
    (gR 11 M v0 57).bind fun r4 =>
    (ldI M r4 v2).bind fun x5 =>
    if x3 = x5 then
      (gR 11 M v0 55).bind fun r6 =>
      (ldI M r6 v5).bind fun x7 =>
      if x7 = v3 then
        (gR 11 M v0 58).bind fun r8 =>
        (ldI M r8 v2).bind fun x9 =>
        (gR 11 M v0 58).bind fun r10 =>
        (ldI M r10 v5).bind fun x11 =>
        jb2 (jiv 11 M v0 (f_X12_isTied v0 v1 x9 x11 M)) fun x13 M12 =>
        if x13 = 0 then
          j_X12_tiedOf_71 k6 v0 v1 v2 v3 v5 v4 (nI 0) M12
        else
          j_X12_tiedOf_71 k6 v0 v1 v2 v3 v5 v4 (nI 16) M12
      else
        j_X12_tiedOf_101 k6 v0 v1 v2 v3 v4 v5 M
    else
      j_X12_tiedOf_101 k6 v0 v1 v2 v3 v4 v5 M
def l_X12_tiedOf_6  : Nat → Nat → Int32 → Int32 → Int32 → Int32 → Int32 → jM → jO Int32
  | 0 => fun _ _ _ _ _ _ _ => none
  | n + 1 => b_X12_tiedOf_6  (l_X12_tiedOf_6  n)
theorem tb_X12_tiedOf_6 {G : jG} {d : Nat} (hd_ : 1 ≤ d)  {k6 : Nat → Int32 → Int32 → Int32 → Int32 → Int32 → jM → jO Int32} (hk6 : ∀ (w0 : Nat) (w1 : Int32) (w2 : Int32) (w3 : Int32) (w4 : Int32) (w5 : Int32) (M : jM) (b : Int32 × jM), k6 w0 w1 w2 w3 w4 w5 M = some b → V G m_X12_tiedOf d 6 [(0, .ref w0), (1, .int w1), (2, .int w2), (3, .int w3), (4, .int w4), (5, .int w5)] [] M (jQb cI b)) {v0 : Nat} {v1 : Int32} {v2 : Int32} {v3 : Int32} {v4 : Int32} {v5 : Int32} {M : jM} {b : Int32 × jM} (h : b_X12_tiedOf_6  k6 v0 v1 v2 v3 v4 v5 M = some b) : V G m_X12_tiedOf d 6 [(0, .ref v0), (1, .int v1), (2, .int v2), (3, .int v3), (4, .int v4), (5, .int v5)] [] M (jQb cI b) := by
  unfold b_X12_tiedOf_6 at h
  refine v_iload dX12_tiedOf_6 5 rfl ?_
  refine v_aload_n dX12_tiedOf_8 rfl 0 rfl ?_
  refine x_gI dX12_tiedOf_9 kf_X12_383 rfl h (fun x1 h => ?_)
  refine x_ic_ge (tgt := 107) dX12_tiedOf_12 (by decide) h (fun h => ?_) (fun h => ?_)
  · refine v_iload dX12_tiedOf_107 4 rfl ?_
    exact x_iret dX12_tiedOf_109 rfl h
  · refine v_aload_n dX12_tiedOf_15 rfl 0 rfl ?_
    refine x_gR dX12_tiedOf_16 kf_X12_104 rfl h (fun r2 h => ?_)
    refine v_iload dX12_tiedOf_19 5 rfl ?_
    refine x_ldI dX12_tiedOf_21 h (fun x3 h => ?_)
    refine v_aload_n dX12_tiedOf_22 rfl 0 rfl ?_
    refine x_gR dX12_tiedOf_23 kf_X12_104 rfl h (fun r4 h => ?_)
    refine v_iload_n dX12_tiedOf_26 rfl 2 rfl ?_
    refine x_ldI dX12_tiedOf_27 h (fun x5 h => ?_)
    refine x_ic_ne (tgt := 101) dX12_tiedOf_28 (by decide) h (fun h => ?_) (fun h => ?_)
    · refine v_aload_n dX12_tiedOf_31 rfl 0 rfl ?_
      refine x_gR dX12_tiedOf_32 kf_X12_98 rfl h (fun r6 h => ?_)
      refine v_iload dX12_tiedOf_35 5 rfl ?_
      refine x_ldI dX12_tiedOf_37 h (fun x7 h => ?_)
      refine v_iload_n dX12_tiedOf_38 rfl 3 rfl ?_
      refine x_ic_ne (tgt := 101) dX12_tiedOf_39 (by decide) h (fun h => ?_) (fun h => ?_)
      · refine v_iload dX12_tiedOf_42 4 rfl ?_
        refine v_aload_n dX12_tiedOf_44 rfl 0 rfl ?_
        refine v_iload_n dX12_tiedOf_45 rfl 1 rfl ?_
        refine v_aload_n dX12_tiedOf_46 rfl 0 rfl ?_
        refine x_gR dX12_tiedOf_47 kf_X12_107 rfl h (fun r8 h => ?_)
        refine v_iload_n dX12_tiedOf_50 rfl 2 rfl ?_
        refine x_ldI dX12_tiedOf_51 h (fun x9 h => ?_)
        refine v_aload_n dX12_tiedOf_52 rfl 0 rfl ?_
        refine x_gR dX12_tiedOf_53 kf_X12_107 rfl h (fun r10 h => ?_)
        refine v_iload dX12_tiedOf_56 5 rfl ?_
        refine x_ldI dX12_tiedOf_58 h (fun x11 h => ?_)
        refine x_inv (cv := cI) (As := [.int v1, .int x9, .int x11]) (rest := [.int v4]) (ls2 := [(0, .ref v0), (1, .int v1), (2, .int x9), (3, .int x11)]) (ci := 11) (by omega) dX12_tiedOf_59 ke_X12_isTied kv_X12_152 rfl rfl (by decide) (Nat.le_of_ble_eq_true rfl) rfl rfl rfl rfl h (fun _ hq => s_X12_isTied (by omega) hq) (fun x13 M12 h => ?_)
        refine x_if_eq (tgt := 70) dX12_tiedOf_62 (by decide) h (fun h => ?_) (fun h => ?_)
        · refine v_iconst dX12_tiedOf_70 ic_0 ?_
          exact V.pick [0, 1, 2, 3, 5] rfl (t_X12_tiedOf_71 hd_ hk6 h)
        · refine v_bipush dX12_tiedOf_65 bp_16 ?_
          refine v_goto (tgt := 71) dX12_tiedOf_67 (by decide) ?_
          exact V.pick [0, 1, 2, 3, 5] rfl (t_X12_tiedOf_71 hd_ hk6 h)
      · exact t_X12_tiedOf_101 hd_ hk6 h
    · exact t_X12_tiedOf_101 hd_ hk6 h
theorem t_X12_tiedOf_6 {G : jG} {d : Nat} (hd_ : 1 ≤ d)  : ∀ (n : Nat) (v0 : Nat) (v1 : Int32) (v2 : Int32) (v3 : Int32) (v4 : Int32) (v5 : Int32) (M : jM) (b : Int32 × jM), l_X12_tiedOf_6  n v0 v1 v2 v3 v4 v5 M = some b → V G m_X12_tiedOf d 6 [(0, .ref v0), (1, .int v1), (2, .int v2), (3, .int v3), (4, .int v4), (5, .int v5)] [] M (jQb cI b) := by
  intro n
  induction n with
  | zero => intro v0 v1 v2 v3 v4 v5 M b h; exact nomatch (show (none : jO Int32) = some b from h)
  | succ n ih => intro v0 v1 v2 v3 v4 v5 M b h; exact tb_X12_tiedOf_6 hd_  ih h
def f_X12_tiedOf (v0 : Nat) (v1 : Int32) (v2 : Int32) (v3 : Int32) (M : jM) : jO Int32 :=
  l_X12_tiedOf_6 jF0 v0 v1 v2 v3 (nI 0) (nI 0) M
theorem s_X12_tiedOf {G : jG} {d : Nat} (hd_ : 1 ≤ d) {v0 : Nat} {v1 : Int32} {v2 : Int32} {v3 : Int32} {M : jM} {b : Int32 × jM} (h : f_X12_tiedOf  v0 v1 v2 v3 M = some b) : V G m_X12_tiedOf d 0 [(0, .ref v0), (1, .int v1), (2, .int v2), (3, .int v3)] [] M (jQb cI b) := by
  unfold f_X12_tiedOf at h
  refine v_iconst dX12_tiedOf_0 ic_0 ?_
  refine v_istore (ls2 := [(4, .int (nI 0)), (0, .ref v0), (1, .int v1), (2, .int v2), (3, .int v3)]) dX12_tiedOf_1 (by decide) rfl ?_
  refine v_iconst dX12_tiedOf_3 ic_0 ?_
  refine v_istore (ls2 := [(5, .int (nI 0)), (4, .int (nI 0)), (0, .ref v0), (1, .int v1), (2, .int v2), (3, .int v3)]) dX12_tiedOf_4 (by decide) rfl ?_
  exact V.pick [2, 3, 4, 5, 1, 0] rfl (t_X12_tiedOf_6 hd_ _ _ _ _ _ _ _ _ _ h)
def j_X12_staysWith_99 (k27 : Nat → Int32 → Int32 → Int32 → Int32 → Int32 → Int32 → Int32 → jM → jO Int32) (v0 : Nat) (v1 : Int32) (v2 : Int32) (v3 : Int32) (v4 : Int32) (v5 : Int32) (v7 : Int32) (s0 : Int32) (M : jM) : jO Int32 :=
  k27 v0 v1 v2 v3 v4 v5 s0 (v7 + (nI 1)) M
theorem t_X12_staysWith_99 {G : jG} {d : Nat} (hd_ : 2 ≤ d) {k27 : Nat → Int32 → Int32 → Int32 → Int32 → Int32 → Int32 → Int32 → jM → jO Int32} (hk27 : ∀ (w0 : Nat) (w1 : Int32) (w2 : Int32) (w3 : Int32) (w4 : Int32) (w5 : Int32) (w6 : Int32) (w7 : Int32) (M : jM) (b : Int32 × jM), k27 w0 w1 w2 w3 w4 w5 w6 w7 M = some b → V G m_X12_staysWith d 27 [(0, .ref w0), (1, .int w1), (2, .int w2), (3, .int w3), (4, .int w4), (5, .int w5), (6, .int w6), (7, .int w7)] [] M (jQb cI b)) {v0 : Nat} {v1 : Int32} {v2 : Int32} {v3 : Int32} {v4 : Int32} {v5 : Int32} {v7 : Int32} {s0 : Int32} {M : jM} {b : Int32 × jM} (h : j_X12_staysWith_99 k27 v0 v1 v2 v3 v4 v5 v7 s0 M = some b) : V G m_X12_staysWith d 99 [(0, .ref v0), (1, .int v1), (2, .int v2), (3, .int v3), (4, .int v4), (5, .int v5), (7, .int v7)] [.int s0] M (jQb cI b) := by
  unfold j_X12_staysWith_99 at h
  refine v_istore (ls2 := [(6, .int s0), (0, .ref v0), (1, .int v1), (2, .int v2), (3, .int v3), (4, .int v4), (5, .int v5), (7, .int v7)]) dX12_staysWith_99 (by decide) rfl ?_
  refine v_iincC (ls2 := [(7, .int (v7 + (nI 1))), (6, .int s0), (0, .ref v0), (1, .int v1), (2, .int v2), (3, .int v3), (4, .int v4), (5, .int v5)]) dX12_staysWith_101 ic_1 7 rfl (by decide) rfl ?_
  refine v_goto (tgt := 27) dX12_staysWith_104 (by decide) ?_
  exact V.pick [2, 3, 4, 5, 6, 7, 1, 0] rfl (hk27 _ _ _ _ _ _ _ _ _ _ h)
def j_X12_staysWith_84 (k27 : Nat → Int32 → Int32 → Int32 → Int32 → Int32 → Int32 → Int32 → jM → jO Int32) (v0 : Nat) (v1 : Int32) (v2 : Int32) (v3 : Int32) (v4 : Int32) (v5 : Int32) (v7 : Int32) (s0 : Int32) (s1 : Nat) (s2 : Int32) (M : jM) : jO Int32 :=
  jb2 (jiv 11 M s1 (f_X12_tiedOf s1 s2 v5 v7 M)) fun x2 M1 =>
  if s0 = x2 then
    j_X12_staysWith_99 k27 v0 v1 v2 v3 v4 v5 v7 (nI 1) M1
  else
    j_X12_staysWith_99 k27 v0 v1 v2 v3 v4 v5 v7 (nI 0) M1
theorem t_X12_staysWith_84 {G : jG} {d : Nat} (hd_ : 2 ≤ d) {k27 : Nat → Int32 → Int32 → Int32 → Int32 → Int32 → Int32 → Int32 → jM → jO Int32} (hk27 : ∀ (w0 : Nat) (w1 : Int32) (w2 : Int32) (w3 : Int32) (w4 : Int32) (w5 : Int32) (w6 : Int32) (w7 : Int32) (M : jM) (b : Int32 × jM), k27 w0 w1 w2 w3 w4 w5 w6 w7 M = some b → V G m_X12_staysWith d 27 [(0, .ref w0), (1, .int w1), (2, .int w2), (3, .int w3), (4, .int w4), (5, .int w5), (6, .int w6), (7, .int w7)] [] M (jQb cI b)) {v0 : Nat} {v1 : Int32} {v2 : Int32} {v3 : Int32} {v4 : Int32} {v5 : Int32} {v7 : Int32} {s0 : Int32} {s1 : Nat} {s2 : Int32} {M : jM} {b : Int32 × jM} (h : j_X12_staysWith_84 k27 v0 v1 v2 v3 v4 v5 v7 s0 s1 s2 M = some b) : V G m_X12_staysWith d 84 [(0, .ref v0), (1, .int v1), (2, .int v2), (3, .int v3), (4, .int v4), (5, .int v5), (7, .int v7)] [.int s2, .ref s1, .int s0] M (jQb cI b) := by
  unfold j_X12_staysWith_84 at h
  refine v_iload dX12_staysWith_84 5 rfl ?_
  refine v_iload dX12_staysWith_86 6 rfl ?_
  refine x_inv (cv := cI) (As := [.int s2, .int v5, .int v7]) (rest := [.int s0]) (ls2 := [(0, .ref s1), (1, .int s2), (2, .int v5), (3, .int v7)]) (ci := 11) (by omega) dX12_staysWith_88 ke_X12_tiedOf kv_X12_386 rfl rfl (by decide) (Nat.le_of_ble_eq_true rfl) rfl rfl rfl rfl h (fun _ hq => s_X12_tiedOf (by omega) hq) (fun x2 M1 h => ?_)
  refine x_ic_ne (tgt := 98) dX12_staysWith_91 (by decide) h (fun h => ?_) (fun h => ?_)
  · refine v_iconst dX12_staysWith_94 ic_1 ?_
    refine v_goto (tgt := 99) dX12_staysWith_95 (by decide) ?_
    exact t_X12_staysWith_99 hd_ hk27 h
  · refine v_iconst dX12_staysWith_98 ic_0 ?_
    exact t_X12_staysWith_99 hd_ hk27 h
def j_X12_staysWith_61 (k27 : Nat → Int32 → Int32 → Int32 → Int32 → Int32 → Int32 → Int32 → jM → jO Int32) (v0 : Nat) (v1 : Int32) (v2 : Int32) (v3 : Int32) (v4 : Int32) (v5 : Int32) (v7 : Int32) (s0 : Nat) (s1 : Int32) (M : jM) : jO Int32 :=
  jb2 (jiv 11 M s0 (f_X12_tiedOf s0 s1 v4 v7 M)) fun x2 M1 =>
  (gR 11 M1 v0 57).bind fun r3 =>
  (ldI M1 r3 v5).bind fun x4 =>
  if x4 = 0 then
    j_X12_staysWith_84 k27 v0 v1 v2 v3 v4 v5 v7 x2 v0 v1 M1
  else
    j_X12_staysWith_84 k27 v0 v1 v2 v3 v4 v5 v7 x2 v0 v2 M1
theorem t_X12_staysWith_61 {G : jG} {d : Nat} (hd_ : 2 ≤ d) {k27 : Nat → Int32 → Int32 → Int32 → Int32 → Int32 → Int32 → Int32 → jM → jO Int32} (hk27 : ∀ (w0 : Nat) (w1 : Int32) (w2 : Int32) (w3 : Int32) (w4 : Int32) (w5 : Int32) (w6 : Int32) (w7 : Int32) (M : jM) (b : Int32 × jM), k27 w0 w1 w2 w3 w4 w5 w6 w7 M = some b → V G m_X12_staysWith d 27 [(0, .ref w0), (1, .int w1), (2, .int w2), (3, .int w3), (4, .int w4), (5, .int w5), (6, .int w6), (7, .int w7)] [] M (jQb cI b)) {v0 : Nat} {v1 : Int32} {v2 : Int32} {v3 : Int32} {v4 : Int32} {v5 : Int32} {v7 : Int32} {s0 : Nat} {s1 : Int32} {M : jM} {b : Int32 × jM} (h : j_X12_staysWith_61 k27 v0 v1 v2 v3 v4 v5 v7 s0 s1 M = some b) : V G m_X12_staysWith d 61 [(0, .ref v0), (1, .int v1), (2, .int v2), (3, .int v3), (4, .int v4), (5, .int v5), (7, .int v7)] [.int s1, .ref s0] M (jQb cI b) := by
  unfold j_X12_staysWith_61 at h
  refine v_iload dX12_staysWith_61 4 rfl ?_
  refine v_iload dX12_staysWith_63 6 rfl ?_
  refine x_inv (cv := cI) (As := [.int s1, .int v4, .int v7]) (rest := []) (ls2 := [(0, .ref s0), (1, .int s1), (2, .int v4), (3, .int v7)]) (ci := 11) (by omega) dX12_staysWith_65 ke_X12_tiedOf kv_X12_386 rfl rfl (by decide) (Nat.le_of_ble_eq_true rfl) rfl rfl rfl rfl h (fun _ hq => s_X12_tiedOf (by omega) hq) (fun x2 M1 h => ?_)
  refine v_aload_n dX12_staysWith_68 rfl 0 rfl ?_
  refine v_aload_n dX12_staysWith_69 rfl 0 rfl ?_
  refine x_gR dX12_staysWith_70 kf_X12_104 rfl h (fun r3 h => ?_)
  refine v_iload dX12_staysWith_73 5 rfl ?_
  refine x_ldI dX12_staysWith_75 h (fun x4 h => ?_)
  refine x_if_ne (tgt := 83) dX12_staysWith_76 (by decide) h (fun h => ?_) (fun h => ?_)
  · refine v_iload_n dX12_staysWith_79 rfl 1 rfl ?_
    refine v_goto (tgt := 84) dX12_staysWith_80 (by decide) ?_
    exact t_X12_staysWith_84 hd_ hk27 h
  · refine v_iload_n dX12_staysWith_83 rfl 2 rfl ?_
    exact t_X12_staysWith_84 hd_ hk27 h
def j_X12_staysWith_188   (M : jM) : jO Int32 :=
  rZ (nI 1) M
theorem t_X12_staysWith_188 {G : jG} {d : Nat} (hd_ : 2 ≤ d)   {M : jM} {b : Int32 × jM} (h : j_X12_staysWith_188   M = some b) : V G m_X12_staysWith d 188 [] [] M (jQb cI b) := by
  unfold j_X12_staysWith_188 at h
  refine v_iconst dX12_staysWith_188 ic_1 ?_
  refine v_goto (tgt := 193) dX12_staysWith_189 (by decide) ?_
  exact x_zret dX12_staysWith_193 rfl h
def j_X12_staysWith_107  (v0 : Nat) (v3 : Int32) (v4 : Int32) (v5 : Int32) (v6 : Int32) (M : jM) : jO Int32 :=
  if v6 = 0 then
    rZ (nI 0) M
  else
    if v3 = 0 then
      j_X12_staysWith_188 M
    else
      (gR 11 M v0 60).bind fun r1 =>
      (ldJ M r1 v4).bind fun x2 =>
      (gR 11 M v0 60).bind fun r3 =>
      (ldJ M r3 v5).bind fun x4 =>
      if (lg_cmp x2 x4) = 0 then
        (gR 11 M v0 61).bind fun r5 =>
        (ldJ M r5 v4).bind fun x6 =>
        (gR 11 M v0 61).bind fun r7 =>
        (ldJ M r7 v5).bind fun x8 =>
        if (lg_cmp x6 x8) = 0 then
          (gR 11 M v0 62).bind fun r9 =>
          (ldJ M r9 v4).bind fun x10 =>
          (gR 11 M v0 62).bind fun r11 =>
          (ldJ M r11 v5).bind fun x12 =>
          if (lg_cmp x10 x12) = 0 then
            (gR 11 M v0 63).bind fun r13 =>
            (ldJ M r13 v4).bind fun x14 =>
            (gR 11 M v0 63).bind fun r15 =>
            (ldJ M r15 v5).bind fun x16 =>
            if (lg_cmp x14 x16) = 0 then
              j_X12_staysWith_188 M
            else
              rZ (nI 0) M
          else
            rZ (nI 0) M
        else
          rZ (nI 0) M
      else
        rZ (nI 0) M
theorem t_X12_staysWith_107 {G : jG} {d : Nat} (hd_ : 2 ≤ d)  {v0 : Nat} {v3 : Int32} {v4 : Int32} {v5 : Int32} {v6 : Int32} {M : jM} {b : Int32 × jM} (h : j_X12_staysWith_107  v0 v3 v4 v5 v6 M = some b) : V G m_X12_staysWith d 107 [(0, .ref v0), (3, .int v3), (4, .int v4), (5, .int v5), (6, .int v6)] [] M (jQb cI b) := by
  unfold j_X12_staysWith_107 at h
  refine v_iload dX12_staysWith_107 4 rfl ?_
  refine x_if_eq (tgt := 192) dX12_staysWith_109 (by decide) h (fun h => ?_) (fun h => ?_)
  · refine v_iconst dX12_staysWith_192 ic_0 ?_
    exact x_zret dX12_staysWith_193 rfl h
  · refine v_iload_n dX12_staysWith_112 rfl 1 rfl ?_
    refine x_if_eq (tgt := 188) dX12_staysWith_113 (by decide) h (fun h => ?_) (fun h => ?_)
    · exact V.pick [] rfl (t_X12_staysWith_188 hd_ h)
    · refine v_aload_n dX12_staysWith_116 rfl 0 rfl ?_
      refine x_gR dX12_staysWith_117 kf_X12_113 rfl h (fun r1 h => ?_)
      refine v_iload dX12_staysWith_120 2 rfl ?_
      refine x_ldJ dX12_staysWith_122 h (fun x2 h => ?_)
      refine v_aload_n dX12_staysWith_123 rfl 0 rfl ?_
      refine x_gR dX12_staysWith_124 kf_X12_113 rfl h (fun r3 h => ?_)
      refine v_iload dX12_staysWith_127 3 rfl ?_
      refine x_ldJ dX12_staysWith_129 h (fun x4 h => ?_)
      refine v_lcmp dX12_staysWith_130 ?_
      refine x_if_ne (tgt := 192) dX12_staysWith_131 (by decide) h (fun h => ?_) (fun h => ?_)
      · refine v_aload_n dX12_staysWith_134 rfl 0 rfl ?_
        refine x_gR dX12_staysWith_135 kf_X12_117 rfl h (fun r5 h => ?_)
        refine v_iload dX12_staysWith_138 2 rfl ?_
        refine x_ldJ dX12_staysWith_140 h (fun x6 h => ?_)
        refine v_aload_n dX12_staysWith_141 rfl 0 rfl ?_
        refine x_gR dX12_staysWith_142 kf_X12_117 rfl h (fun r7 h => ?_)
        refine v_iload dX12_staysWith_145 3 rfl ?_
        refine x_ldJ dX12_staysWith_147 h (fun x8 h => ?_)
        refine v_lcmp dX12_staysWith_148 ?_
        refine x_if_ne (tgt := 192) dX12_staysWith_149 (by decide) h (fun h => ?_) (fun h => ?_)
        · refine v_aload_n dX12_staysWith_152 rfl 0 rfl ?_
          refine x_gR dX12_staysWith_153 kf_X12_120 rfl h (fun r9 h => ?_)
          refine v_iload dX12_staysWith_156 2 rfl ?_
          refine x_ldJ dX12_staysWith_158 h (fun x10 h => ?_)
          refine v_aload_n dX12_staysWith_159 rfl 0 rfl ?_
          refine x_gR dX12_staysWith_160 kf_X12_120 rfl h (fun r11 h => ?_)
          refine v_iload dX12_staysWith_163 3 rfl ?_
          refine x_ldJ dX12_staysWith_165 h (fun x12 h => ?_)
          refine v_lcmp dX12_staysWith_166 ?_
          refine x_if_ne (tgt := 192) dX12_staysWith_167 (by decide) h (fun h => ?_) (fun h => ?_)
          · refine v_aload_n dX12_staysWith_170 rfl 0 rfl ?_
            refine x_gR dX12_staysWith_171 kf_X12_123 rfl h (fun r13 h => ?_)
            refine v_iload dX12_staysWith_174 2 rfl ?_
            refine x_ldJ dX12_staysWith_176 h (fun x14 h => ?_)
            refine v_aload_n dX12_staysWith_177 rfl 0 rfl ?_
            refine x_gR dX12_staysWith_178 kf_X12_123 rfl h (fun r15 h => ?_)
            refine v_iload dX12_staysWith_181 3 rfl ?_
            refine x_ldJ dX12_staysWith_183 h (fun x16 h => ?_)
            refine v_lcmp dX12_staysWith_184 ?_
            refine x_if_ne (tgt := 192) dX12_staysWith_185 (by decide) h (fun h => ?_) (fun h => ?_)
            · exact V.pick [] rfl (t_X12_staysWith_188 hd_ h)
            · refine v_iconst dX12_staysWith_192 ic_0 ?_
              exact x_zret dX12_staysWith_193 rfl h
          · refine v_iconst dX12_staysWith_192 ic_0 ?_
            exact x_zret dX12_staysWith_193 rfl h
        · refine v_iconst dX12_staysWith_192 ic_0 ?_
          exact x_zret dX12_staysWith_193 rfl h
      · refine v_iconst dX12_staysWith_192 ic_0 ?_
        exact x_zret dX12_staysWith_193 rfl h
def b_X12_staysWith_27  (k27 : Nat → Int32 → Int32 → Int32 → Int32 → Int32 → Int32 → Int32 → jM → jO Int32) (v0 : Nat) (v1 : Int32) (v2 : Int32) (v3 : Int32) (v4 : Int32) (v5 : Int32) (v6 : Int32) (v7 : Int32) (M : jM) : jO Int32 :=
  (gI 11 M v0 51).bind fun x1 =>
  if x1 ≤ v7 then
    j_X12_staysWith_107 v0 v3 v4 v5 v6 M
  else
    if v6 = 0 then
      j_X12_staysWith_107 v0 v3 v4 v5 v6 M
    else
      if v3 = 0 then
        (gR 11 M v0 57).bind fun r2 =>
        (ldI M r2 v4).bind fun x3 =>
        if x3 = 0 then
          j_X12_staysWith_61 k27 v0 v1 v2 v3 v4 v5 v7 v0 v1 M
        else
          j_X12_staysWith_61 k27 v0 v1 v2 v3 v4 v5 v7 v0 v2 M
      else
        j_X12_staysWith_107 v0 v3 v4 v5 v6 M
def l_X12_staysWith_27  : Nat → Nat → Int32 → Int32 → Int32 → Int32 → Int32 → Int32 → Int32 → jM → jO Int32
  | 0 => fun _ _ _ _ _ _ _ _ _ => none
  | n + 1 => b_X12_staysWith_27  (l_X12_staysWith_27  n)
theorem tb_X12_staysWith_27 {G : jG} {d : Nat} (hd_ : 2 ≤ d)  {k27 : Nat → Int32 → Int32 → Int32 → Int32 → Int32 → Int32 → Int32 → jM → jO Int32} (hk27 : ∀ (w0 : Nat) (w1 : Int32) (w2 : Int32) (w3 : Int32) (w4 : Int32) (w5 : Int32) (w6 : Int32) (w7 : Int32) (M : jM) (b : Int32 × jM), k27 w0 w1 w2 w3 w4 w5 w6 w7 M = some b → V G m_X12_staysWith d 27 [(0, .ref w0), (1, .int w1), (2, .int w2), (3, .int w3), (4, .int w4), (5, .int w5), (6, .int w6), (7, .int w7)] [] M (jQb cI b)) {v0 : Nat} {v1 : Int32} {v2 : Int32} {v3 : Int32} {v4 : Int32} {v5 : Int32} {v6 : Int32} {v7 : Int32} {M : jM} {b : Int32 × jM} (h : b_X12_staysWith_27  k27 v0 v1 v2 v3 v4 v5 v6 v7 M = some b) : V G m_X12_staysWith d 27 [(0, .ref v0), (1, .int v1), (2, .int v2), (3, .int v3), (4, .int v4), (5, .int v5), (6, .int v6), (7, .int v7)] [] M (jQb cI b) := by
  unfold b_X12_staysWith_27 at h
  refine v_iload dX12_staysWith_27 7 rfl ?_
  refine v_aload_n dX12_staysWith_29 rfl 0 rfl ?_
  refine x_gI dX12_staysWith_30 kf_X12_130 rfl h (fun x1 h => ?_)
  refine x_ic_ge (tgt := 107) dX12_staysWith_33 (by decide) h (fun h => ?_) (fun h => ?_)
  · exact V.pick [0, 3, 4, 5, 6] rfl (t_X12_staysWith_107 hd_ h)
  · refine v_iload dX12_staysWith_36 6 rfl ?_
    refine x_if_eq (tgt := 107) dX12_staysWith_38 (by decide) h (fun h => ?_) (fun h => ?_)
    · exact V.pick [0, 3, 4, 5, 6] rfl (t_X12_staysWith_107 hd_ h)
    · refine v_iload_n dX12_staysWith_41 rfl 3 rfl ?_
      refine x_if_ne (tgt := 107) dX12_staysWith_42 (by decide) h (fun h => ?_) (fun h => ?_)
      · refine v_aload_n dX12_staysWith_45 rfl 0 rfl ?_
        refine v_aload_n dX12_staysWith_46 rfl 0 rfl ?_
        refine x_gR dX12_staysWith_47 kf_X12_104 rfl h (fun r2 h => ?_)
        refine v_iload dX12_staysWith_50 4 rfl ?_
        refine x_ldI dX12_staysWith_52 h (fun x3 h => ?_)
        refine x_if_ne (tgt := 60) dX12_staysWith_53 (by decide) h (fun h => ?_) (fun h => ?_)
        · refine v_iload_n dX12_staysWith_56 rfl 1 rfl ?_
          refine v_goto (tgt := 61) dX12_staysWith_57 (by decide) ?_
          exact V.pick [0, 1, 2, 3, 4, 5, 7] rfl (t_X12_staysWith_61 hd_ hk27 h)
        · refine v_iload_n dX12_staysWith_60 rfl 2 rfl ?_
          exact V.pick [0, 1, 2, 3, 4, 5, 7] rfl (t_X12_staysWith_61 hd_ hk27 h)
      · exact V.pick [0, 3, 4, 5, 6] rfl (t_X12_staysWith_107 hd_ h)
theorem t_X12_staysWith_27 {G : jG} {d : Nat} (hd_ : 2 ≤ d)  : ∀ (n : Nat) (v0 : Nat) (v1 : Int32) (v2 : Int32) (v3 : Int32) (v4 : Int32) (v5 : Int32) (v6 : Int32) (v7 : Int32) (M : jM) (b : Int32 × jM), l_X12_staysWith_27  n v0 v1 v2 v3 v4 v5 v6 v7 M = some b → V G m_X12_staysWith d 27 [(0, .ref v0), (1, .int v1), (2, .int v2), (3, .int v3), (4, .int v4), (5, .int v5), (6, .int v6), (7, .int v7)] [] M (jQb cI b) := by
  intro n
  induction n with
  | zero => intro v0 v1 v2 v3 v4 v5 v6 v7 M b h; exact nomatch (show (none : jO Int32) = some b from h)
  | succ n ih => intro v0 v1 v2 v3 v4 v5 v6 v7 M b h; exact tb_X12_staysWith_27 hd_  ih h
def j_X12_staysWith_22  (v0 : Nat) (v1 : Int32) (v2 : Int32) (v3 : Int32) (v4 : Int32) (v5 : Int32) (s0 : Int32) (M : jM) : jO Int32 :=
  l_X12_staysWith_27 jF0 v0 v1 v2 v3 v4 v5 s0 (nI 0) M
theorem t_X12_staysWith_22 {G : jG} {d : Nat} (hd_ : 2 ≤ d)  {v0 : Nat} {v1 : Int32} {v2 : Int32} {v3 : Int32} {v4 : Int32} {v5 : Int32} {s0 : Int32} {M : jM} {b : Int32 × jM} (h : j_X12_staysWith_22  v0 v1 v2 v3 v4 v5 s0 M = some b) : V G m_X12_staysWith d 22 [(0, .ref v0), (1, .int v1), (2, .int v2), (3, .int v3), (4, .int v4), (5, .int v5)] [.int s0] M (jQb cI b) := by
  unfold j_X12_staysWith_22 at h
  refine v_istore (ls2 := [(6, .int s0), (0, .ref v0), (1, .int v1), (2, .int v2), (3, .int v3), (4, .int v4), (5, .int v5)]) dX12_staysWith_22 (by decide) rfl ?_
  refine v_iconst dX12_staysWith_24 ic_0 ?_
  refine v_istore (ls2 := [(7, .int (nI 0)), (6, .int s0), (0, .ref v0), (1, .int v1), (2, .int v2), (3, .int v3), (4, .int v4), (5, .int v5)]) dX12_staysWith_25 (by decide) rfl ?_
  exact V.pick [2, 3, 4, 5, 6, 7, 1, 0] rfl (t_X12_staysWith_27 hd_ _ _ _ _ _ _ _ _ _ _ _ h)
def f_X12_staysWith (v0 : Nat) (v1 : Int32) (v2 : Int32) (v3 : Int32) (v4 : Int32) (v5 : Int32) (M : jM) : jO Int32 :=
  (gR 11 M v0 55).bind fun r1 =>
  (ldI M r1 v4).bind fun x2 =>
  (gR 11 M v0 55).bind fun r3 =>
  (ldI M r3 v5).bind fun x4 =>
  if x2 = x4 then
    j_X12_staysWith_22 v0 v1 v2 v3 v4 v5 (nI 1) M
  else
    j_X12_staysWith_22 v0 v1 v2 v3 v4 v5 (nI 0) M
theorem s_X12_staysWith {G : jG} {d : Nat} (hd_ : 2 ≤ d) {v0 : Nat} {v1 : Int32} {v2 : Int32} {v3 : Int32} {v4 : Int32} {v5 : Int32} {M : jM} {b : Int32 × jM} (h : f_X12_staysWith  v0 v1 v2 v3 v4 v5 M = some b) : V G m_X12_staysWith d 0 [(0, .ref v0), (1, .int v1), (2, .int v2), (3, .int v3), (4, .int v4), (5, .int v5)] [] M (jQb cI b) := by
  unfold f_X12_staysWith at h
  refine v_aload_n dX12_staysWith_0 rfl 0 rfl ?_
  refine x_gR dX12_staysWith_1 kf_X12_98 rfl h (fun r1 h => ?_)
  refine v_iload dX12_staysWith_4 4 rfl ?_
  refine x_ldI dX12_staysWith_6 h (fun x2 h => ?_)
  refine v_aload_n dX12_staysWith_7 rfl 0 rfl ?_
  refine x_gR dX12_staysWith_8 kf_X12_98 rfl h (fun r3 h => ?_)
  refine v_iload dX12_staysWith_11 5 rfl ?_
  refine x_ldI dX12_staysWith_13 h (fun x4 h => ?_)
  refine x_ic_ne (tgt := 21) dX12_staysWith_14 (by decide) h (fun h => ?_) (fun h => ?_)
  · refine v_iconst dX12_staysWith_17 ic_1 ?_
    refine v_goto (tgt := 22) dX12_staysWith_18 (by decide) ?_
    exact t_X12_staysWith_22 hd_ h
  · refine v_iconst dX12_staysWith_21 ic_0 ?_
    exact t_X12_staysWith_22 hd_ h
def j_X12_step_118 (k40 : Nat → Int32 → Int32 → Int32 → Int32 → Int32 → Int32 → jM → jO Int32) (k55 : Nat → Int32 → Int32 → Int32 → Int32 → Int32 → Int32 → Int32 → Int32 → jM → jO Int32) (v0 : Nat) (v1 : Int32) (v2 : Int32) (v3 : Int32) (v4 : Int32) (v5 : Int32) (v6 : Int32) (v8 : Int32) (s0 : Int32) (M : jM) : jO Int32 :=
  k55 v0 v1 v2 v3 v4 v5 v6 s0 (v8 + (nI 1)) M
theorem t_X12_step_118 {G : jG} {d : Nat} (hd_ : 4 ≤ d) {k40 : Nat → Int32 → Int32 → Int32 → Int32 → Int32 → Int32 → jM → jO Int32} (hk40 : ∀ (w0 : Nat) (w1 : Int32) (w2 : Int32) (w3 : Int32) (w4 : Int32) (w5 : Int32) (w6 : Int32) (M : jM) (b : Int32 × jM), k40 w0 w1 w2 w3 w4 w5 w6 M = some b → V G m_X12_step d 40 [(0, .ref w0), (1, .int w1), (2, .int w2), (3, .int w3), (4, .int w4), (5, .int w5), (6, .int w6)] [] M (jQb cI b)) {k55 : Nat → Int32 → Int32 → Int32 → Int32 → Int32 → Int32 → Int32 → Int32 → jM → jO Int32} (hk55 : ∀ (w0 : Nat) (w1 : Int32) (w2 : Int32) (w3 : Int32) (w4 : Int32) (w5 : Int32) (w6 : Int32) (w7 : Int32) (w8 : Int32) (M : jM) (b : Int32 × jM), k55 w0 w1 w2 w3 w4 w5 w6 w7 w8 M = some b → V G m_X12_step d 55 [(0, .ref w0), (1, .int w1), (2, .int w2), (3, .int w3), (4, .int w4), (5, .int w5), (6, .int w6), (7, .int w7), (8, .int w8)] [] M (jQb cI b)) {v0 : Nat} {v1 : Int32} {v2 : Int32} {v3 : Int32} {v4 : Int32} {v5 : Int32} {v6 : Int32} {v8 : Int32} {s0 : Int32} {M : jM} {b : Int32 × jM} (h : j_X12_step_118 k40 k55 v0 v1 v2 v3 v4 v5 v6 v8 s0 M = some b) : V G m_X12_step d 118 [(0, .ref v0), (1, .int v1), (2, .int v2), (3, .int v3), (4, .int v4), (5, .int v5), (6, .int v6), (8, .int v8)] [.int s0] M (jQb cI b) := by
  unfold j_X12_step_118 at h
  refine v_istore (ls2 := [(7, .int s0), (0, .ref v0), (1, .int v1), (2, .int v2), (3, .int v3), (4, .int v4), (5, .int v5), (6, .int v6), (8, .int v8)]) dX12_step_118 (by decide) rfl ?_
  refine v_iincC (ls2 := [(8, .int (v8 + (nI 1))), (7, .int s0), (0, .ref v0), (1, .int v1), (2, .int v2), (3, .int v3), (4, .int v4), (5, .int v5), (6, .int v6)]) dX12_step_120 ic_1 8 rfl (by decide) rfl ?_
  refine v_goto (tgt := 55) dX12_step_123 (by decide) ?_
  exact V.pick [2, 3, 4, 5, 6, 7, 8, 1, 0] rfl (hk55 _ _ _ _ _ _ _ _ _ _ _ h)
def j_X12_step_112 (k40 : Nat → Int32 → Int32 → Int32 → Int32 → Int32 → Int32 → jM → jO Int32) (k55 : Nat → Int32 → Int32 → Int32 → Int32 → Int32 → Int32 → Int32 → Int32 → jM → jO Int32) (v0 : Nat) (v1 : Int32) (v2 : Int32) (v3 : Int32) (v4 : Int32) (v5 : Int32) (v6 : Int32) (v8 : Int32) (M : jM) : jO Int32 :=
  j_X12_step_118 k40 k55 v0 v1 v2 v3 v4 v5 v6 v8 v8 M
theorem t_X12_step_112 {G : jG} {d : Nat} (hd_ : 4 ≤ d) {k40 : Nat → Int32 → Int32 → Int32 → Int32 → Int32 → Int32 → jM → jO Int32} (hk40 : ∀ (w0 : Nat) (w1 : Int32) (w2 : Int32) (w3 : Int32) (w4 : Int32) (w5 : Int32) (w6 : Int32) (M : jM) (b : Int32 × jM), k40 w0 w1 w2 w3 w4 w5 w6 M = some b → V G m_X12_step d 40 [(0, .ref w0), (1, .int w1), (2, .int w2), (3, .int w3), (4, .int w4), (5, .int w5), (6, .int w6)] [] M (jQb cI b)) {k55 : Nat → Int32 → Int32 → Int32 → Int32 → Int32 → Int32 → Int32 → Int32 → jM → jO Int32} (hk55 : ∀ (w0 : Nat) (w1 : Int32) (w2 : Int32) (w3 : Int32) (w4 : Int32) (w5 : Int32) (w6 : Int32) (w7 : Int32) (w8 : Int32) (M : jM) (b : Int32 × jM), k55 w0 w1 w2 w3 w4 w5 w6 w7 w8 M = some b → V G m_X12_step d 55 [(0, .ref w0), (1, .int w1), (2, .int w2), (3, .int w3), (4, .int w4), (5, .int w5), (6, .int w6), (7, .int w7), (8, .int w8)] [] M (jQb cI b)) {v0 : Nat} {v1 : Int32} {v2 : Int32} {v3 : Int32} {v4 : Int32} {v5 : Int32} {v6 : Int32} {v8 : Int32} {M : jM} {b : Int32 × jM} (h : j_X12_step_112 k40 k55 v0 v1 v2 v3 v4 v5 v6 v8 M = some b) : V G m_X12_step d 112 [(0, .ref v0), (1, .int v1), (2, .int v2), (3, .int v3), (4, .int v4), (5, .int v5), (6, .int v6), (8, .int v8)] [] M (jQb cI b) := by
  unfold j_X12_step_112 at h
  refine v_iload dX12_step_112 7 rfl ?_
  refine v_goto (tgt := 118) dX12_step_114 (by decide) ?_
  exact t_X12_step_118 hd_ hk40 hk55 h
def j_X12_step_117 (k40 : Nat → Int32 → Int32 → Int32 → Int32 → Int32 → Int32 → jM → jO Int32) (k55 : Nat → Int32 → Int32 → Int32 → Int32 → Int32 → Int32 → Int32 → Int32 → jM → jO Int32) (v0 : Nat) (v1 : Int32) (v2 : Int32) (v3 : Int32) (v4 : Int32) (v5 : Int32) (v6 : Int32) (v8 : Int32) (M : jM) : jO Int32 :=
  j_X12_step_118 k40 k55 v0 v1 v2 v3 v4 v5 v6 v8 (-1 : Int32) M
theorem t_X12_step_117 {G : jG} {d : Nat} (hd_ : 4 ≤ d) {k40 : Nat → Int32 → Int32 → Int32 → Int32 → Int32 → Int32 → jM → jO Int32} (hk40 : ∀ (w0 : Nat) (w1 : Int32) (w2 : Int32) (w3 : Int32) (w4 : Int32) (w5 : Int32) (w6 : Int32) (M : jM) (b : Int32 × jM), k40 w0 w1 w2 w3 w4 w5 w6 M = some b → V G m_X12_step d 40 [(0, .ref w0), (1, .int w1), (2, .int w2), (3, .int w3), (4, .int w4), (5, .int w5), (6, .int w6)] [] M (jQb cI b)) {k55 : Nat → Int32 → Int32 → Int32 → Int32 → Int32 → Int32 → Int32 → Int32 → jM → jO Int32} (hk55 : ∀ (w0 : Nat) (w1 : Int32) (w2 : Int32) (w3 : Int32) (w4 : Int32) (w5 : Int32) (w6 : Int32) (w7 : Int32) (w8 : Int32) (M : jM) (b : Int32 × jM), k55 w0 w1 w2 w3 w4 w5 w6 w7 w8 M = some b → V G m_X12_step d 55 [(0, .ref w0), (1, .int w1), (2, .int w2), (3, .int w3), (4, .int w4), (5, .int w5), (6, .int w6), (7, .int w7), (8, .int w8)] [] M (jQb cI b)) {v0 : Nat} {v1 : Int32} {v2 : Int32} {v3 : Int32} {v4 : Int32} {v5 : Int32} {v6 : Int32} {v8 : Int32} {M : jM} {b : Int32 × jM} (h : j_X12_step_117 k40 k55 v0 v1 v2 v3 v4 v5 v6 v8 M = some b) : V G m_X12_step d 117 [(0, .ref v0), (1, .int v1), (2, .int v2), (3, .int v3), (4, .int v4), (5, .int v5), (6, .int v6), (8, .int v8)] [] M (jQb cI b) := by
  unfold j_X12_step_117 at h
  refine v_iconst dX12_step_117 ic_m1 ?_
  exact t_X12_step_118 hd_ hk40 hk55 h
def j_X12_step_147 (k40 : Nat → Int32 → Int32 → Int32 → Int32 → Int32 → Int32 → jM → jO Int32) (v0 : Nat) (v1 : Int32) (v2 : Int32) (v3 : Int32) (v4 : Int32) (v5 : Int32) (v6 : Int32) (v7 : Int32) (M : jM) : jO Int32 :=
  (gR 11 M v0 56).bind fun r1 =>
  (stI M r1 v6 v7).bind fun M2 =>
  k40 v0 v1 v2 v3 v4 v5 (v6 + (nI 1)) M2
theorem t_X12_step_147 {G : jG} {d : Nat} (hd_ : 4 ≤ d) {k40 : Nat → Int32 → Int32 → Int32 → Int32 → Int32 → Int32 → jM → jO Int32} (hk40 : ∀ (w0 : Nat) (w1 : Int32) (w2 : Int32) (w3 : Int32) (w4 : Int32) (w5 : Int32) (w6 : Int32) (M : jM) (b : Int32 × jM), k40 w0 w1 w2 w3 w4 w5 w6 M = some b → V G m_X12_step d 40 [(0, .ref w0), (1, .int w1), (2, .int w2), (3, .int w3), (4, .int w4), (5, .int w5), (6, .int w6)] [] M (jQb cI b)) {v0 : Nat} {v1 : Int32} {v2 : Int32} {v3 : Int32} {v4 : Int32} {v5 : Int32} {v6 : Int32} {v7 : Int32} {M : jM} {b : Int32 × jM} (h : j_X12_step_147 k40 v0 v1 v2 v3 v4 v5 v6 v7 M = some b) : V G m_X12_step d 147 [(0, .ref v0), (1, .int v1), (2, .int v2), (3, .int v3), (4, .int v4), (5, .int v5), (6, .int v6), (7, .int v7)] [] M (jQb cI b) := by
  unfold j_X12_step_147 at h
  refine v_aload_n dX12_step_147 rfl 0 rfl ?_
  refine x_gR dX12_step_148 kf_X12_101 rfl h (fun r1 h => ?_)
  refine v_iload dX12_step_151 6 rfl ?_
  refine v_iload dX12_step_153 7 rfl ?_
  refine x_stI dX12_step_155 h (fun M2 h => ?_)
  refine v_iincC (ls2 := [(6, .int (v6 + (nI 1))), (0, .ref v0), (1, .int v1), (2, .int v2), (3, .int v3), (4, .int v4), (5, .int v5), (7, .int v7)]) dX12_step_156 ic_1 6 rfl (by decide) rfl ?_
  refine v_goto (tgt := 40) dX12_step_159 (by decide) ?_
  exact V.pick [1, 2, 3, 4, 5, 6, 0] rfl (hk40 _ _ _ _ _ _ _ _ _ h)
def j_X12_step_126 (k40 : Nat → Int32 → Int32 → Int32 → Int32 → Int32 → Int32 → jM → jO Int32) (v0 : Nat) (v1 : Int32) (v2 : Int32) (v3 : Int32) (v4 : Int32) (v5 : Int32) (v6 : Int32) (v7 : Int32) (M : jM) : jO Int32 :=
  if 0 ≤ v7 then
    j_X12_step_147 k40 v0 v1 v2 v3 v4 v5 v6 v7 M
  else
    (gR 11 M v0 50).bind fun r1 =>
    (stI M r1 v5 v6).bind fun M2 =>
    j_X12_step_147 k40 v0 v1 v2 v3 v4 (v5 + (nI 1)) v6 v5 M2
theorem t_X12_step_126 {G : jG} {d : Nat} (hd_ : 4 ≤ d) {k40 : Nat → Int32 → Int32 → Int32 → Int32 → Int32 → Int32 → jM → jO Int32} (hk40 : ∀ (w0 : Nat) (w1 : Int32) (w2 : Int32) (w3 : Int32) (w4 : Int32) (w5 : Int32) (w6 : Int32) (M : jM) (b : Int32 × jM), k40 w0 w1 w2 w3 w4 w5 w6 M = some b → V G m_X12_step d 40 [(0, .ref w0), (1, .int w1), (2, .int w2), (3, .int w3), (4, .int w4), (5, .int w5), (6, .int w6)] [] M (jQb cI b)) {v0 : Nat} {v1 : Int32} {v2 : Int32} {v3 : Int32} {v4 : Int32} {v5 : Int32} {v6 : Int32} {v7 : Int32} {M : jM} {b : Int32 × jM} (h : j_X12_step_126 k40 v0 v1 v2 v3 v4 v5 v6 v7 M = some b) : V G m_X12_step d 126 [(0, .ref v0), (1, .int v1), (2, .int v2), (3, .int v3), (4, .int v4), (5, .int v5), (6, .int v6), (7, .int v7)] [] M (jQb cI b) := by
  unfold j_X12_step_126 at h
  refine v_iload dX12_step_126 7 rfl ?_
  refine x_if_ge (tgt := 147) dX12_step_128 (by decide) h (fun h => ?_) (fun h => ?_)
  · exact t_X12_step_147 hd_ hk40 h
  · refine v_iload dX12_step_131 5 rfl ?_
    refine v_istore (ls2 := [(7, .int v5), (0, .ref v0), (1, .int v1), (2, .int v2), (3, .int v3), (4, .int v4), (5, .int v5), (6, .int v6)]) dX12_step_133 (by decide) rfl ?_
    refine v_aload_n dX12_step_135 rfl 1 rfl ?_
    refine x_gR dX12_step_136 kf_X12_95 rfl h (fun r1 h => ?_)
    refine v_iload dX12_step_139 6 rfl ?_
    refine v_iload dX12_step_141 7 rfl ?_
    refine x_stI dX12_step_143 h (fun M2 h => ?_)
    refine v_iincC (ls2 := [(5, .int (v5 + (nI 1))), (7, .int v5), (0, .ref v0), (1, .int v1), (2, .int v2), (3, .int v3), (4, .int v4), (6, .int v6)]) dX12_step_144 ic_1 6 rfl (by decide) rfl ?_
    exact V.pick [2, 3, 4, 5, 6, 0, 7, 1] rfl (t_X12_step_147 hd_ hk40 h)
def b_X12_step_55 (k40 : Nat → Int32 → Int32 → Int32 → Int32 → Int32 → Int32 → jM → jO Int32) (k55 : Nat → Int32 → Int32 → Int32 → Int32 → Int32 → Int32 → Int32 → Int32 → jM → jO Int32) (v0 : Nat) (v1 : Int32) (v2 : Int32) (v3 : Int32) (v4 : Int32) (v5 : Int32) (v6 : Int32) (v7 : Int32) (v8 : Int32) (M : jM) : jO Int32 :=
  if v5 ≤ v8 then
    j_X12_step_126 k40 v0 v1 v2 v3 v4 v5 v6 v7 M
  else
    if 0 ≤ v7 then
      j_X12_step_126 k40 v0 v1 v2 v3 v4 v5 v6 v7 M
    else
      if v4 = 0 then
        (gR 11 M v0 50).bind fun r1 =>
        (ldI M r1 v8).bind fun x2 =>
        jb2 (jiv 11 M v0 (f_X12_staysWith v0 v1 v2 v3 x2 v6 M)) fun x4 M3 =>
        if x4 = 0 then
          j_X12_step_117 k40 k55 v0 v1 v2 v3 v4 v5 v6 v8 M3
        else
          j_X12_step_112 k40 k55 v0 v1 v2 v3 v4 v5 v6 v8 M3
      else
        (gR 11 M v0 50).bind fun r5 =>
        (ldI M r5 v8).bind fun x6 =>
        jb2 (jiv 11 M v0 (f_X12_startsAlike v0 v1 v2 x6 v6 M)) fun x8 M7 =>
        if x8 = 0 then
          j_X12_step_117 k40 k55 v0 v1 v2 v3 v4 v5 v6 v8 M7
        else
          j_X12_step_112 k40 k55 v0 v1 v2 v3 v4 v5 v6 v8 M7
def l_X12_step_55 (k40 : Nat → Int32 → Int32 → Int32 → Int32 → Int32 → Int32 → jM → jO Int32) : Nat → Nat → Int32 → Int32 → Int32 → Int32 → Int32 → Int32 → Int32 → Int32 → jM → jO Int32
  | 0 => fun _ _ _ _ _ _ _ _ _ _ => none
  | n + 1 => b_X12_step_55 k40 (l_X12_step_55 k40 n)
theorem tb_X12_step_55 {G : jG} {d : Nat} (hd_ : 4 ≤ d) {k40 : Nat → Int32 → Int32 → Int32 → Int32 → Int32 → Int32 → jM → jO Int32} (hk40 : ∀ (w0 : Nat) (w1 : Int32) (w2 : Int32) (w3 : Int32) (w4 : Int32) (w5 : Int32) (w6 : Int32) (M : jM) (b : Int32 × jM), k40 w0 w1 w2 w3 w4 w5 w6 M = some b → V G m_X12_step d 40 [(0, .ref w0), (1, .int w1), (2, .int w2), (3, .int w3), (4, .int w4), (5, .int w5), (6, .int w6)] [] M (jQb cI b)) {k55 : Nat → Int32 → Int32 → Int32 → Int32 → Int32 → Int32 → Int32 → Int32 → jM → jO Int32} (hk55 : ∀ (w0 : Nat) (w1 : Int32) (w2 : Int32) (w3 : Int32) (w4 : Int32) (w5 : Int32) (w6 : Int32) (w7 : Int32) (w8 : Int32) (M : jM) (b : Int32 × jM), k55 w0 w1 w2 w3 w4 w5 w6 w7 w8 M = some b → V G m_X12_step d 55 [(0, .ref w0), (1, .int w1), (2, .int w2), (3, .int w3), (4, .int w4), (5, .int w5), (6, .int w6), (7, .int w7), (8, .int w8)] [] M (jQb cI b)) {v0 : Nat} {v1 : Int32} {v2 : Int32} {v3 : Int32} {v4 : Int32} {v5 : Int32} {v6 : Int32} {v7 : Int32} {v8 : Int32} {M : jM} {b : Int32 × jM} (h : b_X12_step_55 k40 k55 v0 v1 v2 v3 v4 v5 v6 v7 v8 M = some b) : V G m_X12_step d 55 [(0, .ref v0), (1, .int v1), (2, .int v2), (3, .int v3), (4, .int v4), (5, .int v5), (6, .int v6), (7, .int v7), (8, .int v8)] [] M (jQb cI b) := by
  unfold b_X12_step_55 at h
  refine v_iload dX12_step_55 8 rfl ?_
  refine v_iload dX12_step_57 5 rfl ?_
  refine x_ic_ge (tgt := 126) dX12_step_59 (by decide) h (fun h => ?_) (fun h => ?_)
  · exact V.pick [0, 1, 2, 3, 4, 5, 6, 7] rfl (t_X12_step_126 hd_ hk40 h)
  · refine v_iload dX12_step_62 7 rfl ?_
    refine x_if_ge (tgt := 126) dX12_step_64 (by decide) h (fun h => ?_) (fun h => ?_)
    · exact V.pick [0, 1, 2, 3, 4, 5, 6, 7] rfl (t_X12_step_126 hd_ hk40 h)
    · refine v_iload dX12_step_67 4 rfl ?_
      refine x_if_eq (tgt := 93) dX12_step_69 (by decide) h (fun h => ?_) (fun h => ?_)
      · refine v_aload_n dX12_step_93 rfl 0 rfl ?_
        refine v_iload_n dX12_step_94 rfl 1 rfl ?_
        refine v_iload_n dX12_step_95 rfl 2 rfl ?_
        refine v_iload_n dX12_step_96 rfl 3 rfl ?_
        refine v_aload_n dX12_step_97 rfl 0 rfl ?_
        refine x_gR dX12_step_98 kf_X12_95 rfl h (fun r1 h => ?_)
        refine v_iload dX12_step_101 8 rfl ?_
        refine x_ldI dX12_step_103 h (fun x2 h => ?_)
        refine v_iload dX12_step_104 6 rfl ?_
        refine x_inv (cv := cI) (As := [.int v1, .int v2, .int v3, .int x2, .int v6]) (rest := []) (ls2 := [(0, .ref v0), (1, .int v1), (2, .int v2), (3, .int v3), (4, .int x2), (5, .int v6)]) (ci := 11) (by omega) dX12_step_106 ke_X12_staysWith kv_X12_396 rfl rfl (by decide) (Nat.le_of_ble_eq_true rfl) rfl rfl rfl rfl h (fun _ hq => s_X12_staysWith (by omega) hq) (fun x4 M3 h => ?_)
        refine x_if_eq (tgt := 117) dX12_step_109 (by decide) h (fun h => ?_) (fun h => ?_)
        · exact V.pick [0, 1, 2, 3, 4, 5, 6, 8] rfl (t_X12_step_117 hd_ hk40 hk55 h)
        · exact V.pick [0, 1, 2, 3, 4, 5, 6, 8] rfl (t_X12_step_112 hd_ hk40 hk55 h)
      · refine v_aload_n dX12_step_72 rfl 0 rfl ?_
        refine v_iload_n dX12_step_73 rfl 1 rfl ?_
        refine v_iload_n dX12_step_74 rfl 2 rfl ?_
        refine v_aload_n dX12_step_75 rfl 0 rfl ?_
        refine x_gR dX12_step_76 kf_X12_95 rfl h (fun r5 h => ?_)
        refine v_iload dX12_step_79 8 rfl ?_
        refine x_ldI dX12_step_81 h (fun x6 h => ?_)
        refine v_iload dX12_step_82 6 rfl ?_
        refine x_inv (cv := cI) (As := [.int v1, .int v2, .int x6, .int v6]) (rest := []) (ls2 := [(0, .ref v0), (1, .int v1), (2, .int v2), (3, .int x6), (4, .int v6)]) (ci := 11) (by omega) dX12_step_84 ke_X12_startsAlike kv_X12_392 rfl rfl (by decide) (Nat.le_of_ble_eq_true rfl) rfl rfl rfl rfl h (fun _ hq => s_X12_startsAlike (by omega) hq) (fun x8 M7 h => ?_)
        refine x_if_eq (tgt := 117) dX12_step_87 (by decide) h (fun h => ?_) (fun h => ?_)
        · exact V.pick [0, 1, 2, 3, 4, 5, 6, 8] rfl (t_X12_step_117 hd_ hk40 hk55 h)
        · refine v_goto (tgt := 112) dX12_step_90 (by decide) ?_
          exact V.pick [0, 1, 2, 3, 4, 5, 6, 8] rfl (t_X12_step_112 hd_ hk40 hk55 h)
theorem t_X12_step_55 {G : jG} {d : Nat} (hd_ : 4 ≤ d) {k40 : Nat → Int32 → Int32 → Int32 → Int32 → Int32 → Int32 → jM → jO Int32} (hk40 : ∀ (w0 : Nat) (w1 : Int32) (w2 : Int32) (w3 : Int32) (w4 : Int32) (w5 : Int32) (w6 : Int32) (M : jM) (b : Int32 × jM), k40 w0 w1 w2 w3 w4 w5 w6 M = some b → V G m_X12_step d 40 [(0, .ref w0), (1, .int w1), (2, .int w2), (3, .int w3), (4, .int w4), (5, .int w5), (6, .int w6)] [] M (jQb cI b)) : ∀ (n : Nat) (v0 : Nat) (v1 : Int32) (v2 : Int32) (v3 : Int32) (v4 : Int32) (v5 : Int32) (v6 : Int32) (v7 : Int32) (v8 : Int32) (M : jM) (b : Int32 × jM), l_X12_step_55 k40 n v0 v1 v2 v3 v4 v5 v6 v7 v8 M = some b → V G m_X12_step d 55 [(0, .ref v0), (1, .int v1), (2, .int v2), (3, .int v3), (4, .int v4), (5, .int v5), (6, .int v6), (7, .int v7), (8, .int v8)] [] M (jQb cI b) := by
  intro n
  induction n with
  | zero => intro v0 v1 v2 v3 v4 v5 v6 v7 v8 M b h; exact nomatch (show (none : jO Int32) = some b from h)
  | succ n ih => intro v0 v1 v2 v3 v4 v5 v6 v7 v8 M b h; exact tb_X12_step_55 hd_ hk40 ih h
def b_X12_step_165  (k165 : Nat → Int32 → Int32 → jM → jO Int32) (v0 : Nat) (v5 : Int32) (v6 : Int32) (M : jM) : jO Int32 :=
  (gI 11 M v0 52).bind fun x1 =>
  if x1 ≤ v6 then
    rt v5 M
  else
    (gR 11 M v0 55).bind fun r2 =>
    (gR 11 M v0 56).bind fun r3 =>
    (ldI M r3 v6).bind fun x4 =>
    (stI M r2 v6 x4).bind fun M5 =>
    k165 v0 v5 (v6 + (nI 1)) M5
def l_X12_step_165  : Nat → Nat → Int32 → Int32 → jM → jO Int32
  | 0 => fun _ _ _ _ => none
  | n + 1 => b_X12_step_165  (l_X12_step_165  n)
theorem tb_X12_step_165 {G : jG} {d : Nat} (hd_ : 4 ≤ d)  {k165 : Nat → Int32 → Int32 → jM → jO Int32} (hk165 : ∀ (w0 : Nat) (w5 : Int32) (w6 : Int32) (M : jM) (b : Int32 × jM), k165 w0 w5 w6 M = some b → V G m_X12_step d 165 [(0, .ref w0), (5, .int w5), (6, .int w6)] [] M (jQb cI b)) {v0 : Nat} {v5 : Int32} {v6 : Int32} {M : jM} {b : Int32 × jM} (h : b_X12_step_165  k165 v0 v5 v6 M = some b) : V G m_X12_step d 165 [(0, .ref v0), (5, .int v5), (6, .int v6)] [] M (jQb cI b) := by
  unfold b_X12_step_165 at h
  refine v_iload dX12_step_165 2 rfl ?_
  refine v_aload_n dX12_step_167 rfl 0 rfl ?_
  refine x_gI dX12_step_168 kf_X12_383 rfl h (fun x1 h => ?_)
  refine x_ic_ge (tgt := 194) dX12_step_171 (by decide) h (fun h => ?_) (fun h => ?_)
  · refine v_iload dX12_step_194 1 rfl ?_
    exact x_iret dX12_step_196 rfl h
  · refine v_aload_n dX12_step_174 rfl 0 rfl ?_
    refine x_gR dX12_step_175 kf_X12_98 rfl h (fun r2 h => ?_)
    refine v_iload dX12_step_178 2 rfl ?_
    refine v_aload_n dX12_step_180 rfl 0 rfl ?_
    refine x_gR dX12_step_181 kf_X12_101 rfl h (fun r3 h => ?_)
    refine v_iload dX12_step_184 2 rfl ?_
    refine x_ldI dX12_step_186 h (fun x4 h => ?_)
    refine x_stI dX12_step_187 h (fun M5 h => ?_)
    refine v_iincC (ls2 := [(6, .int (v6 + (nI 1))), (0, .ref v0), (5, .int v5)]) dX12_step_188 ic_1 2 rfl (by decide) rfl ?_
    refine v_goto (tgt := 165) dX12_step_191 (by decide) ?_
    exact V.pick [1, 2, 0] rfl (hk165 _ _ _ _ _ h)
theorem t_X12_step_165 {G : jG} {d : Nat} (hd_ : 4 ≤ d)  : ∀ (n : Nat) (v0 : Nat) (v5 : Int32) (v6 : Int32) (M : jM) (b : Int32 × jM), l_X12_step_165  n v0 v5 v6 M = some b → V G m_X12_step d 165 [(0, .ref v0), (5, .int v5), (6, .int v6)] [] M (jQb cI b) := by
  intro n
  induction n with
  | zero => intro v0 v5 v6 M b h; exact nomatch (show (none : jO Int32) = some b from h)
  | succ n ih => intro v0 v5 v6 M b h; exact tb_X12_step_165 hd_  ih h
def b_X12_step_40  (k40 : Nat → Int32 → Int32 → Int32 → Int32 → Int32 → Int32 → jM → jO Int32) (v0 : Nat) (v1 : Int32) (v2 : Int32) (v3 : Int32) (v4 : Int32) (v5 : Int32) (v6 : Int32) (M : jM) : jO Int32 :=
  (gI 11 M v0 52).bind fun x1 =>
  if x1 ≤ v6 then
    l_X12_step_165 jF0 v0 v5 (nI 0) M
  else
    l_X12_step_55 k40 jF0 v0 v1 v2 v3 v4 v5 v6 (-1 : Int32) (nI 0) M
def l_X12_step_40  : Nat → Nat → Int32 → Int32 → Int32 → Int32 → Int32 → Int32 → jM → jO Int32
  | 0 => fun _ _ _ _ _ _ _ _ => none
  | n + 1 => b_X12_step_40  (l_X12_step_40  n)
theorem tb_X12_step_40 {G : jG} {d : Nat} (hd_ : 4 ≤ d)  {k40 : Nat → Int32 → Int32 → Int32 → Int32 → Int32 → Int32 → jM → jO Int32} (hk40 : ∀ (w0 : Nat) (w1 : Int32) (w2 : Int32) (w3 : Int32) (w4 : Int32) (w5 : Int32) (w6 : Int32) (M : jM) (b : Int32 × jM), k40 w0 w1 w2 w3 w4 w5 w6 M = some b → V G m_X12_step d 40 [(0, .ref w0), (1, .int w1), (2, .int w2), (3, .int w3), (4, .int w4), (5, .int w5), (6, .int w6)] [] M (jQb cI b)) {v0 : Nat} {v1 : Int32} {v2 : Int32} {v3 : Int32} {v4 : Int32} {v5 : Int32} {v6 : Int32} {M : jM} {b : Int32 × jM} (h : b_X12_step_40  k40 v0 v1 v2 v3 v4 v5 v6 M = some b) : V G m_X12_step d 40 [(0, .ref v0), (1, .int v1), (2, .int v2), (3, .int v3), (4, .int v4), (5, .int v5), (6, .int v6)] [] M (jQb cI b) := by
  unfold b_X12_step_40 at h
  refine v_iload dX12_step_40 6 rfl ?_
  refine v_aload_n dX12_step_42 rfl 0 rfl ?_
  refine x_gI dX12_step_43 kf_X12_383 rfl h (fun x1 h => ?_)
  refine x_ic_ge (tgt := 162) dX12_step_46 (by decide) h (fun h => ?_) (fun h => ?_)
  · refine v_iconst dX12_step_162 ic_0 ?_
    refine v_istore (ls2 := [(6, .int (nI 0)), (0, .ref v0), (1, .int v1), (2, .int v2), (3, .int v3), (4, .int v4), (5, .int v5)]) dX12_step_163 (by decide) rfl ?_
    exact V.pick [1, 6, 0] rfl (t_X12_step_165 hd_ _ _ _ _ _ _ h)
  · refine v_iconst dX12_step_49 ic_m1 ?_
    refine v_istore (ls2 := [(7, .int (-1 : Int32)), (0, .ref v0), (1, .int v1), (2, .int v2), (3, .int v3), (4, .int v4), (5, .int v5), (6, .int v6)]) dX12_step_50 (by decide) rfl ?_
    refine v_iconst dX12_step_52 ic_0 ?_
    refine v_istore (ls2 := [(8, .int (nI 0)), (7, .int (-1 : Int32)), (0, .ref v0), (1, .int v1), (2, .int v2), (3, .int v3), (4, .int v4), (5, .int v5), (6, .int v6)]) dX12_step_53 (by decide) rfl ?_
    exact V.pick [2, 3, 4, 5, 6, 7, 8, 1, 0] rfl (t_X12_step_55 hd_ hk40 _ _ _ _ _ _ _ _ _ _ _ _ h)
theorem t_X12_step_40 {G : jG} {d : Nat} (hd_ : 4 ≤ d)  : ∀ (n : Nat) (v0 : Nat) (v1 : Int32) (v2 : Int32) (v3 : Int32) (v4 : Int32) (v5 : Int32) (v6 : Int32) (M : jM) (b : Int32 × jM), l_X12_step_40  n v0 v1 v2 v3 v4 v5 v6 M = some b → V G m_X12_step d 40 [(0, .ref v0), (1, .int v1), (2, .int v2), (3, .int v3), (4, .int v4), (5, .int v5), (6, .int v6)] [] M (jQb cI b) := by
  intro n
  induction n with
  | zero => intro v0 v1 v2 v3 v4 v5 v6 M b h; exact nomatch (show (none : jO Int32) = some b from h)
  | succ n ih => intro v0 v1 v2 v3 v4 v5 v6 M b h; exact tb_X12_step_40 hd_  ih h
def j_X12_step_37  (v0 : Nat) (v1 : Int32) (v2 : Int32) (v3 : Int32) (v4 : Int32) (v5 : Int32) (M : jM) : jO Int32 :=
  l_X12_step_40 jF0 v0 v1 v2 v3 v4 v5 (nI 0) M
theorem t_X12_step_37 {G : jG} {d : Nat} (hd_ : 4 ≤ d)  {v0 : Nat} {v1 : Int32} {v2 : Int32} {v3 : Int32} {v4 : Int32} {v5 : Int32} {M : jM} {b : Int32 × jM} (h : j_X12_step_37  v0 v1 v2 v3 v4 v5 M = some b) : V G m_X12_step d 37 [(0, .ref v0), (1, .int v1), (2, .int v2), (3, .int v3), (4, .int v4), (5, .int v5)] [] M (jQb cI b) := by
  unfold j_X12_step_37 at h
  refine v_iconst dX12_step_37 ic_0 ?_
  refine v_istore (ls2 := [(6, .int (nI 0)), (0, .ref v0), (1, .int v1), (2, .int v2), (3, .int v3), (4, .int v4), (5, .int v5)]) dX12_step_38 (by decide) rfl ?_
  exact V.pick [1, 2, 3, 4, 5, 6, 0] rfl (t_X12_step_40 hd_ _ _ _ _ _ _ _ _ _ _ h)
def b_X12_step_6  (k6 : Nat → Int32 → Int32 → Int32 → Int32 → Int32 → Int32 → jM → jO Int32) (v0 : Nat) (v1 : Int32) (v2 : Int32) (v3 : Int32) (v4 : Int32) (v5 : Int32) (v6 : Int32) (M : jM) : jO Int32 :=
  (gI 11 M v0 52).bind fun x1 =>
  if x1 ≤ v6 then
    j_X12_step_37 v0 v1 v2 v3 v4 v5 M
  else
    if v4 = 0 then
      if v3 = (nI 1) then
        jb2 (jiv 11 M v0 (f_X12_gather v0 v6 M)) fun _ M2 =>
        k6 v0 v1 v2 v3 v4 v5 (v6 + (nI 1)) M2
      else
        j_X12_step_37 v0 v1 v2 v3 v4 v5 M
    else
      j_X12_step_37 v0 v1 v2 v3 v4 v5 M
def l_X12_step_6  : Nat → Nat → Int32 → Int32 → Int32 → Int32 → Int32 → Int32 → jM → jO Int32
  | 0 => fun _ _ _ _ _ _ _ _ => none
  | n + 1 => b_X12_step_6  (l_X12_step_6  n)
theorem tb_X12_step_6 {G : jG} {d : Nat} (hd_ : 4 ≤ d)  {k6 : Nat → Int32 → Int32 → Int32 → Int32 → Int32 → Int32 → jM → jO Int32} (hk6 : ∀ (w0 : Nat) (w1 : Int32) (w2 : Int32) (w3 : Int32) (w4 : Int32) (w5 : Int32) (w6 : Int32) (M : jM) (b : Int32 × jM), k6 w0 w1 w2 w3 w4 w5 w6 M = some b → V G m_X12_step d 6 [(0, .ref w0), (1, .int w1), (2, .int w2), (3, .int w3), (4, .int w4), (5, .int w5), (6, .int w6)] [] M (jQb cI b)) {v0 : Nat} {v1 : Int32} {v2 : Int32} {v3 : Int32} {v4 : Int32} {v5 : Int32} {v6 : Int32} {M : jM} {b : Int32 × jM} (h : b_X12_step_6  k6 v0 v1 v2 v3 v4 v5 v6 M = some b) : V G m_X12_step d 6 [(0, .ref v0), (1, .int v1), (2, .int v2), (3, .int v3), (4, .int v4), (5, .int v5), (6, .int v6)] [] M (jQb cI b) := by
  unfold b_X12_step_6 at h
  refine v_iload dX12_step_6 6 rfl ?_
  refine v_aload_n dX12_step_8 rfl 0 rfl ?_
  refine x_gI dX12_step_9 kf_X12_383 rfl h (fun x1 h => ?_)
  refine x_ic_ge (tgt := 37) dX12_step_12 (by decide) h (fun h => ?_) (fun h => ?_)
  · exact V.pick [0, 1, 2, 3, 4, 5] rfl (t_X12_step_37 hd_ h)
  · refine v_iload dX12_step_15 4 rfl ?_
    refine x_if_ne (tgt := 37) dX12_step_17 (by decide) h (fun h => ?_) (fun h => ?_)
    · refine v_iload_n dX12_step_20 rfl 3 rfl ?_
      refine v_iconst dX12_step_21 ic_1 ?_
      refine x_ic_ne (tgt := 37) dX12_step_22 (by decide) h (fun h => ?_) (fun h => ?_)
      · refine v_aload_n dX12_step_25 rfl 0 rfl ?_
        refine v_iload dX12_step_26 6 rfl ?_
        refine x_inv (cv := cU) (As := [.int v6]) (rest := []) (ls2 := [(0, .ref v0), (1, .int v6)]) (ci := 11) (by omega) dX12_step_28 ke_X12_gather kv_X12_389 rfl rfl (by decide) (Nat.le_of_ble_eq_true rfl) rfl rfl rfl rfl h (fun _ hq => s_X12_gather (by omega) hq) (fun _ M2 h => ?_)
        refine v_iincC (ls2 := [(6, .int (v6 + (nI 1))), (0, .ref v0), (1, .int v1), (2, .int v2), (3, .int v3), (4, .int v4), (5, .int v5)]) dX12_step_31 ic_1 6 rfl (by decide) rfl ?_
        refine v_goto (tgt := 6) dX12_step_34 (by decide) ?_
        exact V.pick [1, 2, 3, 4, 5, 6, 0] rfl (hk6 _ _ _ _ _ _ _ _ _ h)
      · exact V.pick [0, 1, 2, 3, 4, 5] rfl (t_X12_step_37 hd_ h)
    · exact V.pick [0, 1, 2, 3, 4, 5] rfl (t_X12_step_37 hd_ h)
theorem t_X12_step_6 {G : jG} {d : Nat} (hd_ : 4 ≤ d)  : ∀ (n : Nat) (v0 : Nat) (v1 : Int32) (v2 : Int32) (v3 : Int32) (v4 : Int32) (v5 : Int32) (v6 : Int32) (M : jM) (b : Int32 × jM), l_X12_step_6  n v0 v1 v2 v3 v4 v5 v6 M = some b → V G m_X12_step d 6 [(0, .ref v0), (1, .int v1), (2, .int v2), (3, .int v3), (4, .int v4), (5, .int v5), (6, .int v6)] [] M (jQb cI b) := by
  intro n
  induction n with
  | zero => intro v0 v1 v2 v3 v4 v5 v6 M b h; exact nomatch (show (none : jO Int32) = some b from h)
  | succ n ih => intro v0 v1 v2 v3 v4 v5 v6 M b h; exact tb_X12_step_6 hd_  ih h
def f_X12_step (v0 : Nat) (v1 : Int32) (v2 : Int32) (v3 : Int32) (v4 : Int32) (M : jM) : jO Int32 :=
  l_X12_step_6 jF0 v0 v1 v2 v3 v4 (nI 0) (nI 0) M
theorem s_X12_step {G : jG} {d : Nat} (hd_ : 4 ≤ d) {v0 : Nat} {v1 : Int32} {v2 : Int32} {v3 : Int32} {v4 : Int32} {M : jM} {b : Int32 × jM} (h : f_X12_step  v0 v1 v2 v3 v4 M = some b) : V G m_X12_step d 0 [(0, .ref v0), (1, .int v1), (2, .int v2), (3, .int v3), (4, .int v4)] [] M (jQb cI b) := by
  unfold f_X12_step at h
  refine v_iconst dX12_step_0 ic_0 ?_
  refine v_istore (ls2 := [(5, .int (nI 0)), (0, .ref v0), (1, .int v1), (2, .int v2), (3, .int v3), (4, .int v4)]) dX12_step_1 (by decide) rfl ?_
  refine v_iconst dX12_step_3 ic_0 ?_
  refine v_istore (ls2 := [(6, .int (nI 0)), (5, .int (nI 0)), (0, .ref v0), (1, .int v1), (2, .int v2), (3, .int v3), (4, .int v4)]) dX12_step_4 (by decide) rfl ?_
  exact V.pick [2, 3, 4, 5, 6, 1, 0] rfl (t_X12_step_6 hd_ _ _ _ _ _ _ _ _ _ _ h)
def j_X12_colour_111 (k57 : Nat → Int32 → Int32 → Int32 → Int32 → jM → jO Int32) (v0 : Nat) (v1 : Int32) (v2 : Int32) (v3 : Int32) (v4 : Int32) (s0 : Nat) (s1 : Int32) (s2 : Int32) (M : jM) : jO Int32 :=
  (pI 11 M s0 53 (s1 + s2)).bind fun M1 =>
  k57 v0 v1 v2 v3 v4 M1
theorem t_X12_colour_111 {G : jG} {d : Nat} (hd_ : 5 ≤ d) {k57 : Nat → Int32 → Int32 → Int32 → Int32 → jM → jO Int32} (hk57 : ∀ (w0 : Nat) (w1 : Int32) (w2 : Int32) (w3 : Int32) (w4 : Int32) (M : jM) (b : Int32 × jM), k57 w0 w1 w2 w3 w4 M = some b → V G m_X12_colour d 57 [(0, .ref w0), (1, .int w1), (2, .int w2), (3, .int w3), (4, .int w4)] [] M (jQb cI b)) {v0 : Nat} {v1 : Int32} {v2 : Int32} {v3 : Int32} {v4 : Int32} {s0 : Nat} {s1 : Int32} {s2 : Int32} {M : jM} {b : Int32 × jM} (h : j_X12_colour_111 k57 v0 v1 v2 v3 v4 s0 s1 s2 M = some b) : V G m_X12_colour d 111 [(0, .ref v0), (1, .int v1), (2, .int v2), (3, .int v3), (4, .int v4)] [.int s2, .int s1, .ref s0] M (jQb cI b) := by
  unfold j_X12_colour_111 at h
  refine v_iadd dX12_colour_111 ?_
  refine x_pI dX12_colour_112 kf_X12_407 rfl (fun q => Bool.noConfusion q) h (fun M1 h => ?_)
  refine v_goto (tgt := 57) dX12_colour_115 (by decide) ?_
  exact hk57 _ _ _ _ _ _ _ h
def j_X12_colour_94 (k57 : Nat → Int32 → Int32 → Int32 → Int32 → jM → jO Int32) (v0 : Nat) (v1 : Int32) (v2 : Int32) (v3 : Int32) (s0 : Int32) (M : jM) : jO Int32 :=
  (gI 11 M v0 53).bind fun x1 =>
  if s0 = 0 then
    j_X12_colour_111 k57 v0 v1 v2 v3 s0 v0 x1 (nI 0) M
  else
    j_X12_colour_111 k57 v0 v1 v2 v3 s0 v0 x1 (nI 1) M
theorem t_X12_colour_94 {G : jG} {d : Nat} (hd_ : 5 ≤ d) {k57 : Nat → Int32 → Int32 → Int32 → Int32 → jM → jO Int32} (hk57 : ∀ (w0 : Nat) (w1 : Int32) (w2 : Int32) (w3 : Int32) (w4 : Int32) (M : jM) (b : Int32 × jM), k57 w0 w1 w2 w3 w4 M = some b → V G m_X12_colour d 57 [(0, .ref w0), (1, .int w1), (2, .int w2), (3, .int w3), (4, .int w4)] [] M (jQb cI b)) {v0 : Nat} {v1 : Int32} {v2 : Int32} {v3 : Int32} {s0 : Int32} {M : jM} {b : Int32 × jM} (h : j_X12_colour_94 k57 v0 v1 v2 v3 s0 M = some b) : V G m_X12_colour d 94 [(0, .ref v0), (1, .int v1), (2, .int v2), (3, .int v3)] [.int s0] M (jQb cI b) := by
  unfold j_X12_colour_94 at h
  refine v_istore (ls2 := [(4, .int s0), (0, .ref v0), (1, .int v1), (2, .int v2), (3, .int v3)]) dX12_colour_94 (by decide) rfl ?_
  refine v_aload_n dX12_colour_96 rfl 1 rfl ?_
  refine v_dup dX12_colour_97 rfl ?_
  refine x_gI dX12_colour_98 kf_X12_407 rfl h (fun x1 h => ?_)
  refine v_iload dX12_colour_101 0 rfl ?_
  refine x_if_eq (tgt := 110) dX12_colour_103 (by decide) h (fun h => ?_) (fun h => ?_)
  · refine v_iconst dX12_colour_110 ic_0 ?_
    exact V.pick [1, 2, 3, 4, 0] rfl (t_X12_colour_111 hd_ hk57 h)
  · refine v_iconst dX12_colour_106 ic_1 ?_
    refine v_goto (tgt := 111) dX12_colour_107 (by decide) ?_
    exact V.pick [1, 2, 3, 4, 0] rfl (t_X12_colour_111 hd_ hk57 h)
def b_X12_colour_57  (k57 : Nat → Int32 → Int32 → Int32 → Int32 → jM → jO Int32) (v0 : Nat) (v1 : Int32) (v2 : Int32) (v3 : Int32) (v4 : Int32) (M : jM) : jO Int32 :=
  if v4 = 0 then
    jb2 (jiv 11 M v0 (f_X12_areBalanced v0 M)) fun x2 M1 =>
    (pZ 11 M1 v0 54 x2).bind fun M3 =>
    (gI 11 M3 v0 51).bind fun x4 =>
    rt x4 M3
  else
    (gI 11 M v0 51).bind fun x5 =>
    jb2 (jiv 11 M v0 (f_X12_step v0 v1 v2 v3 (nI 0) M)) fun x7 M6 =>
    (pI 11 M6 v0 51 x7).bind fun M8 =>
    (gI 11 M8 v0 51).bind fun x9 =>
    if x9 ≤ x5 then
      j_X12_colour_94 k57 v0 v1 v2 v3 (nI 0) M8
    else
      j_X12_colour_94 k57 v0 v1 v2 v3 (nI 1) M8
def l_X12_colour_57  : Nat → Nat → Int32 → Int32 → Int32 → Int32 → jM → jO Int32
  | 0 => fun _ _ _ _ _ _ => none
  | n + 1 => b_X12_colour_57  (l_X12_colour_57  n)
theorem tb_X12_colour_57 {G : jG} {d : Nat} (hd_ : 5 ≤ d)  {k57 : Nat → Int32 → Int32 → Int32 → Int32 → jM → jO Int32} (hk57 : ∀ (w0 : Nat) (w1 : Int32) (w2 : Int32) (w3 : Int32) (w4 : Int32) (M : jM) (b : Int32 × jM), k57 w0 w1 w2 w3 w4 M = some b → V G m_X12_colour d 57 [(0, .ref w0), (1, .int w1), (2, .int w2), (3, .int w3), (4, .int w4)] [] M (jQb cI b)) {v0 : Nat} {v1 : Int32} {v2 : Int32} {v3 : Int32} {v4 : Int32} {M : jM} {b : Int32 × jM} (h : b_X12_colour_57  k57 v0 v1 v2 v3 v4 M = some b) : V G m_X12_colour d 57 [(0, .ref v0), (1, .int v1), (2, .int v2), (3, .int v3), (4, .int v4)] [] M (jQb cI b) := by
  unfold b_X12_colour_57 at h
  refine v_iload dX12_colour_57 4 rfl ?_
  refine x_if_eq (tgt := 118) dX12_colour_59 (by decide) h (fun h => ?_) (fun h => ?_)
  · refine v_aload_n dX12_colour_118 rfl 0 rfl ?_
    refine v_aload_n dX12_colour_119 rfl 0 rfl ?_
    refine x_inv (cv := cI) (As := []) (rest := [.ref v0]) (ls2 := [(0, .ref v0)]) (ci := 11) (by omega) dX12_colour_120 ke_X12_areBalanced kv_X12_410 rfl rfl (by decide) (Nat.le_of_ble_eq_true rfl) rfl rfl rfl rfl h (fun _ hq => s_X12_areBalanced (by omega) hq) (fun x2 M1 h => ?_)
    refine x_pZ dX12_colour_123 kf_X12_413 rfl (fun q => Bool.noConfusion q) h (fun M3 h => ?_)
    refine v_aload_n dX12_colour_126 rfl 0 rfl ?_
    refine x_gI dX12_colour_127 kf_X12_130 rfl h (fun x4 h => ?_)
    exact x_iret dX12_colour_130 rfl h
  · refine v_aload_n dX12_colour_62 rfl 0 rfl ?_
    refine x_gI dX12_colour_63 kf_X12_130 rfl h (fun x5 h => ?_)
    refine v_istore (ls2 := [(5, .int x5), (0, .ref v0), (1, .int v1), (2, .int v2), (3, .int v3), (4, .int v4)]) dX12_colour_66 (by decide) rfl ?_
    refine v_aload_n dX12_colour_68 rfl 1 rfl ?_
    refine v_aload_n dX12_colour_69 rfl 1 rfl ?_
    refine v_iload_n dX12_colour_70 rfl 2 rfl ?_
    refine v_iload_n dX12_colour_71 rfl 3 rfl ?_
    refine v_iload_n dX12_colour_72 rfl 4 rfl ?_
    refine v_iconst dX12_colour_73 ic_0 ?_
    refine x_inv (cv := cI) (As := [.int v1, .int v2, .int v3, .int (nI 0)]) (rest := [.ref v0]) (ls2 := [(0, .ref v0), (1, .int v1), (2, .int v2), (3, .int v3), (4, .int (nI 0))]) (ci := 11) (by omega) dX12_colour_74 ke_X12_step kv_X12_403 rfl rfl (by decide) (Nat.le_of_ble_eq_true rfl) rfl rfl rfl rfl h (fun _ hq => s_X12_step (by omega) hq) (fun x7 M6 h => ?_)
    refine x_pI dX12_colour_77 kf_X12_130 rfl (fun q => Bool.noConfusion q) h (fun M8 h => ?_)
    refine v_aload_n dX12_colour_80 rfl 1 rfl ?_
    refine x_gI dX12_colour_81 kf_X12_130 rfl h (fun x9 h => ?_)
    refine v_iload dX12_colour_84 0 rfl ?_
    refine x_ic_le (tgt := 93) dX12_colour_86 (by decide) h (fun h => ?_) (fun h => ?_)
    · refine v_iconst dX12_colour_93 ic_0 ?_
      exact V.pick [1, 2, 3, 4] rfl (t_X12_colour_94 hd_ hk57 h)
    · refine v_iconst dX12_colour_89 ic_1 ?_
      refine v_goto (tgt := 94) dX12_colour_90 (by decide) ?_
      exact V.pick [1, 2, 3, 4] rfl (t_X12_colour_94 hd_ hk57 h)
theorem t_X12_colour_57 {G : jG} {d : Nat} (hd_ : 5 ≤ d)  : ∀ (n : Nat) (v0 : Nat) (v1 : Int32) (v2 : Int32) (v3 : Int32) (v4 : Int32) (M : jM) (b : Int32 × jM), l_X12_colour_57  n v0 v1 v2 v3 v4 M = some b → V G m_X12_colour d 57 [(0, .ref v0), (1, .int v1), (2, .int v2), (3, .int v3), (4, .int v4)] [] M (jQb cI b) := by
  intro n
  induction n with
  | zero => intro v0 v1 v2 v3 v4 M b h; exact nomatch (show (none : jO Int32) = some b from h)
  | succ n ih => intro v0 v1 v2 v3 v4 M b h; exact tb_X12_colour_57 hd_  ih h
def f_X12_colour (v0 : Nat) (v1 : Int32) (v2 : Int32) (v3 : Int32) (M : jM) : jO Int32 :=
  jb2 (jiv 11 M v0 (f_X12_noWorld v0 v1 M)) fun x2 M1 =>
  if x2 = 0 then
    jb2 (jiv 11 M1 v0 (f_X12_noWorld v0 v2 M1)) fun x4 M3 =>
    if x4 = 0 then
      jb2 (f_X12_in v3 (nI 0) (nI 1) M3) fun x6 M5 =>
      if x6 = 0 then
        rt (-2 : Int32) M5
      else
        jb2 (jiv 11 M5 v0 (f_X12_layThings v0 v1 v2 v3 M5)) fun _ M7 =>
        jb2 (jiv 11 M7 v0 (f_X12_step v0 v1 v2 v3 (nI 1) M7)) fun x9 M8 =>
        (pI 11 M8 v0 51 x9).bind fun M10 =>
        (pI 11 M10 v0 53 (nI 0)).bind fun M11 =>
        l_X12_colour_57 jF0 v0 v1 v2 v3 (nI 1) M11
    else
      rt (-1 : Int32) M3
  else
    rt (-1 : Int32) M1
theorem s_X12_colour {G : jG} {d : Nat} (hd_ : 5 ≤ d) {v0 : Nat} {v1 : Int32} {v2 : Int32} {v3 : Int32} {M : jM} {b : Int32 × jM} (h : f_X12_colour  v0 v1 v2 v3 M = some b) : V G m_X12_colour d 0 [(0, .ref v0), (1, .int v1), (2, .int v2), (3, .int v3)] [] M (jQb cI b) := by
  unfold f_X12_colour at h
  refine v_aload_n dX12_colour_0 rfl 0 rfl ?_
  refine v_iload_n dX12_colour_1 rfl 1 rfl ?_
  refine x_inv (cv := cI) (As := [.int v1]) (rest := []) (ls2 := [(0, .ref v0), (1, .int v1)]) (ci := 11) (by omega) dX12_colour_2 ke_X12_noWorld kv_X12_141 rfl rfl (by decide) (Nat.le_of_ble_eq_true rfl) rfl rfl rfl rfl h (fun _ hq => s_X12_noWorld (by omega) hq) (fun x2 M1 h => ?_)
  refine x_if_ne (tgt := 16) dX12_colour_5 (by decide) h (fun h => ?_) (fun h => ?_)
  · refine v_aload_n dX12_colour_8 rfl 0 rfl ?_
    refine v_iload_n dX12_colour_9 rfl 2 rfl ?_
    refine x_inv (cv := cI) (As := [.int v2]) (rest := []) (ls2 := [(0, .ref v0), (1, .int v2)]) (ci := 11) (by omega) dX12_colour_10 ke_X12_noWorld kv_X12_141 rfl rfl (by decide) (Nat.le_of_ble_eq_true rfl) rfl rfl rfl rfl h (fun _ hq => s_X12_noWorld (by omega) hq) (fun x4 M3 h => ?_)
    refine x_if_eq (tgt := 18) dX12_colour_13 (by decide) h (fun h => ?_) (fun h => ?_)
    · refine v_iload_n dX12_colour_18 rfl 3 rfl ?_
      refine v_iconst dX12_colour_19 ic_0 ?_
      refine v_iconst dX12_colour_20 ic_1 ?_
      refine x_invs (cv := cI) (As := [.int v3, .int (nI 0), .int (nI 1)]) (rest := []) (ls2 := [(0, .int v3), (1, .int (nI 0)), (2, .int (nI 1))]) (by omega) dX12_colour_21 ke_X12_in ks_X12_133 (Nat.le_of_ble_eq_true rfl) rfl rfl rfl rfl h (fun _ hq => s_X12_in (by omega) hq) (fun x6 M5 h => ?_)
      refine x_if_ne (tgt := 30) dX12_colour_24 (by decide) h (fun h => ?_) (fun h => ?_)
      · refine v_bipush dX12_colour_27 bp_m2 ?_
        exact x_iret dX12_colour_29 rfl h
      · refine v_aload_n dX12_colour_30 rfl 0 rfl ?_
        refine v_iload_n dX12_colour_31 rfl 1 rfl ?_
        refine v_iload_n dX12_colour_32 rfl 2 rfl ?_
        refine v_iload_n dX12_colour_33 rfl 3 rfl ?_
        refine x_inv (cv := cU) (As := [.int v1, .int v2, .int v3]) (rest := []) (ls2 := [(0, .ref v0), (1, .int v1), (2, .int v2), (3, .int v3)]) (ci := 11) (by omega) dX12_colour_34 ke_X12_layThings kv_X12_400 rfl rfl (by decide) (Nat.le_of_ble_eq_true rfl) rfl rfl rfl rfl h (fun _ hq => s_X12_layThings (by omega) hq) (fun _ M7 h => ?_)
        refine v_aload_n dX12_colour_37 rfl 0 rfl ?_
        refine v_aload_n dX12_colour_38 rfl 0 rfl ?_
        refine v_iload_n dX12_colour_39 rfl 1 rfl ?_
        refine v_iload_n dX12_colour_40 rfl 2 rfl ?_
        refine v_iload_n dX12_colour_41 rfl 3 rfl ?_
        refine v_iconst dX12_colour_42 ic_1 ?_
        refine x_inv (cv := cI) (As := [.int v1, .int v2, .int v3, .int (nI 1)]) (rest := [.ref v0]) (ls2 := [(0, .ref v0), (1, .int v1), (2, .int v2), (3, .int v3), (4, .int (nI 1))]) (ci := 11) (by omega) dX12_colour_43 ke_X12_step kv_X12_403 rfl rfl (by decide) (Nat.le_of_ble_eq_true rfl) rfl rfl rfl rfl h (fun _ hq => s_X12_step (by omega) hq) (fun x9 M8 h => ?_)
        refine x_pI dX12_colour_46 kf_X12_130 rfl (fun q => Bool.noConfusion q) h (fun M10 h => ?_)
        refine v_aload_n dX12_colour_49 rfl 0 rfl ?_
        refine v_iconst dX12_colour_50 ic_0 ?_
        refine x_pI dX12_colour_51 kf_X12_407 rfl (fun q => Bool.noConfusion q) h (fun M11 h => ?_)
        refine v_iconst dX12_colour_54 ic_1 ?_
        refine v_istore (ls2 := [(4, .int (nI 1)), (0, .ref v0), (1, .int v1), (2, .int v2), (3, .int v3)]) dX12_colour_55 (by decide) rfl ?_
        exact V.pick [1, 2, 3, 4, 0] rfl (t_X12_colour_57 hd_ _ _ _ _ _ _ _ _ h)
    · refine v_iconst dX12_colour_16 ic_m1 ?_
      exact x_iret dX12_colour_17 rfl h
  · refine v_iconst dX12_colour_16 ic_m1 ?_
    exact x_iret dX12_colour_17 rfl h
def f_X12_coloured (v0 : Nat) (v1 : Int32) (M : jM) : jO Int32 :=
  (gI 11 M v0 51).bind fun x1 =>
  if x1 < 0 then
    rt (-1 : Int32) M
  else
    (gI 11 M v0 52).bind fun x2 =>
    jb2 (f_X12_in v1 (nI 0) (x2 - (nI 1)) M) fun x4 M3 =>
    if x4 = 0 then
      rt (-1 : Int32) M3
    else
      (gR 11 M3 v0 55).bind fun r5 =>
      (ldI M3 r5 v1).bind fun x6 =>
      rt x6 M3
theorem s_X12_coloured {G : jG} {d : Nat} (hd_ : 1 ≤ d) {v0 : Nat} {v1 : Int32} {M : jM} {b : Int32 × jM} (h : f_X12_coloured  v0 v1 M = some b) : V G m_X12_coloured d 0 [(0, .ref v0), (1, .int v1)] [] M (jQb cI b) := by
  unfold f_X12_coloured at h
  refine v_aload_n dX12_coloured_0 rfl 0 rfl ?_
  refine x_gI dX12_coloured_1 kf_X12_130 rfl h (fun x1 h => ?_)
  refine x_if_lt (tgt := 30) dX12_coloured_4 (by decide) h (fun h => ?_) (fun h => ?_)
  · refine v_iconst dX12_coloured_30 ic_m1 ?_
    exact x_iret dX12_coloured_31 rfl h
  · refine v_iload_n dX12_coloured_7 rfl 1 rfl ?_
    refine v_iconst dX12_coloured_8 ic_0 ?_
    refine v_aload_n dX12_coloured_9 rfl 0 rfl ?_
    refine x_gI dX12_coloured_10 kf_X12_383 rfl h (fun x2 h => ?_)
    refine v_iconst dX12_coloured_13 ic_1 ?_
    refine v_isub dX12_coloured_14 ?_
    refine x_invs (cv := cI) (As := [.int v1, .int (nI 0), .int (x2 - (nI 1))]) (rest := []) (ls2 := [(0, .int v1), (1, .int (nI 0)), (2, .int (x2 - (nI 1)))]) (by omega) dX12_coloured_15 ke_X12_in ks_X12_133 (Nat.le_of_ble_eq_true rfl) rfl rfl rfl rfl h (fun _ hq => s_X12_in (by omega) hq) (fun x4 M3 h => ?_)
    refine x_if_eq (tgt := 30) dX12_coloured_18 (by decide) h (fun h => ?_) (fun h => ?_)
    · refine v_iconst dX12_coloured_30 ic_m1 ?_
      exact x_iret dX12_coloured_31 rfl h
    · refine v_aload_n dX12_coloured_21 rfl 0 rfl ?_
      refine x_gR dX12_coloured_22 kf_X12_98 rfl h (fun r5 h => ?_)
      refine v_iload_n dX12_coloured_25 rfl 1 rfl ?_
      refine x_ldI dX12_coloured_26 h (fun x6 h => ?_)
      refine v_goto (tgt := 31) dX12_coloured_27 (by decide) ?_
      exact x_iret dX12_coloured_31 rfl h
def b_X12_feed_20  (k20 : Nat → Int32 → Int32 → Int32 → Int32 → Int32 → Int32 → jM → jO Int32) (v0 : Nat) (v1 : Int32) (v2 : Int32) (v3 : Int32) (v4 : Int32) (v5 : Int32) (v6 : Int32) (M : jM) : jO Int32 :=
  if v6 < 0 then
    (gI 11 M v0 28).bind fun x1 =>
    (pI 11 M v0 28 (x1 + (nI 20))).bind fun M2 =>
    (gI 11 M2 v0 28).bind fun x3 =>
    rt x3 M2
  else
    (gI 11 M v0 28).bind fun x4 =>
    (dv v6 (nI 8)).bind fun z5 =>
    (jv ((x4 + (nI 3)) - z5)).bind fun y6 =>
    (gR 11 M v0 27).bind fun r7 =>
    (stB M r7 y6 (Int8.toInt32 (Int32.toInt8 (v1 >>> (v6 &&& 31))))).bind fun M8 =>
    (gR 11 M8 v0 27).bind fun r9 =>
    (stB M8 r9 (y6 + (nI 4)) (Int8.toInt32 (Int32.toInt8 (v2 >>> (v6 &&& 31))))).bind fun M10 =>
    (gR 11 M10 v0 27).bind fun r11 =>
    (stB M10 r11 (y6 + (nI 8)) (Int8.toInt32 (Int32.toInt8 (v3 >>> (v6 &&& 31))))).bind fun M12 =>
    (gR 11 M12 v0 27).bind fun r13 =>
    (stB M12 r13 (y6 + (nI 12)) (Int8.toInt32 (Int32.toInt8 (v4 >>> (v6 &&& 31))))).bind fun M14 =>
    (gR 11 M14 v0 27).bind fun r15 =>
    (stB M14 r15 (y6 + (nI 16)) (Int8.toInt32 (Int32.toInt8 (v5 >>> (v6 &&& 31))))).bind fun M16 =>
    k20 v0 v1 v2 v3 v4 v5 (v6 + (-8 : Int32)) M16
def l_X12_feed_20  : Nat → Nat → Int32 → Int32 → Int32 → Int32 → Int32 → Int32 → jM → jO Int32
  | 0 => fun _ _ _ _ _ _ _ _ => none
  | n + 1 => b_X12_feed_20  (l_X12_feed_20  n)
theorem tb_X12_feed_20 {G : jG} {d : Nat} (hd_ : 0 ≤ d)  {k20 : Nat → Int32 → Int32 → Int32 → Int32 → Int32 → Int32 → jM → jO Int32} (hk20 : ∀ (w0 : Nat) (w1 : Int32) (w2 : Int32) (w3 : Int32) (w4 : Int32) (w5 : Int32) (w6 : Int32) (M : jM) (b : Int32 × jM), k20 w0 w1 w2 w3 w4 w5 w6 M = some b → V G m_X12_feed d 20 [(0, .ref w0), (1, .int w1), (2, .int w2), (3, .int w3), (4, .int w4), (5, .int w5), (6, .int w6)] [] M (jQb cI b)) {v0 : Nat} {v1 : Int32} {v2 : Int32} {v3 : Int32} {v4 : Int32} {v5 : Int32} {v6 : Int32} {M : jM} {b : Int32 × jM} (h : b_X12_feed_20  k20 v0 v1 v2 v3 v4 v5 v6 M = some b) : V G m_X12_feed d 20 [(0, .ref v0), (1, .int v1), (2, .int v2), (3, .int v3), (4, .int v4), (5, .int v5), (6, .int v6)] [] M (jQb cI b) := by
  unfold b_X12_feed_20 at h
  refine v_iload dX12_feed_20 6 rfl ?_
  refine x_if_lt (tgt := 118) dX12_feed_22 (by decide) h (fun h => ?_) (fun h => ?_)
  · refine v_aload_n dX12_feed_118 rfl 0 rfl ?_
    refine v_dup dX12_feed_119 rfl ?_
    refine x_gI dX12_feed_120 kf_X12_231 rfl h (fun x1 h => ?_)
    refine v_bipush dX12_feed_123 bp_20 ?_
    refine v_iadd dX12_feed_125 ?_
    refine x_pI dX12_feed_126 kf_X12_231 rfl (fun q => Bool.noConfusion q) h (fun M2 h => ?_)
    refine v_aload_n dX12_feed_129 rfl 0 rfl ?_
    refine x_gI dX12_feed_130 kf_X12_231 rfl h (fun x3 h => ?_)
    exact x_iret dX12_feed_133 rfl h
  · refine v_aload_n dX12_feed_25 rfl 0 rfl ?_
    refine x_gI dX12_feed_26 kf_X12_231 rfl h (fun x4 h => ?_)
    refine v_iconst dX12_feed_29 ic_3 ?_
    refine v_iadd dX12_feed_30 ?_
    refine v_iload dX12_feed_31 6 rfl ?_
    refine v_bipush dX12_feed_33 bp_8 ?_
    refine x_dv dX12_feed_35 h (fun z5 h => ?_)
    refine v_isub dX12_feed_36 ?_
    refine x_jvI h (fun y6 h => ?_)
    refine v_istore (ls2 := [(7, .int y6), (0, .ref v0), (1, .int v1), (2, .int v2), (3, .int v3), (4, .int v4), (5, .int v5), (6, .int v6)]) dX12_feed_37 (by decide) rfl ?_
    refine v_aload_n dX12_feed_39 rfl 1 rfl ?_
    refine x_gR dX12_feed_40 kf_X12_62 rfl h (fun r7 h => ?_)
    refine v_iload dX12_feed_43 0 rfl ?_
    refine v_iload_n dX12_feed_45 rfl 2 rfl ?_
    refine v_iload dX12_feed_46 7 rfl ?_
    refine v_ishr dX12_feed_48 ?_
    refine v_i2b dX12_feed_49 ?_
    refine x_stB dX12_feed_50 h (fun M8 h => ?_)
    refine v_aload_n dX12_feed_51 rfl 1 rfl ?_
    refine x_gR dX12_feed_52 kf_X12_62 rfl h (fun r9 h => ?_)
    refine v_iload dX12_feed_55 0 rfl ?_
    refine v_iconst dX12_feed_57 ic_4 ?_
    refine v_iadd dX12_feed_58 ?_
    refine v_iload_n dX12_feed_59 rfl 3 rfl ?_
    refine v_iload dX12_feed_60 7 rfl ?_
    refine v_ishr dX12_feed_62 ?_
    refine v_i2b dX12_feed_63 ?_
    refine x_stB dX12_feed_64 h (fun M10 h => ?_)
    refine v_aload_n dX12_feed_65 rfl 1 rfl ?_
    refine x_gR dX12_feed_66 kf_X12_62 rfl h (fun r11 h => ?_)
    refine v_iload dX12_feed_69 0 rfl ?_
    refine v_bipush dX12_feed_71 bp_8 ?_
    refine v_iadd dX12_feed_73 ?_
    refine v_iload_n dX12_feed_74 rfl 4 rfl ?_
    refine v_iload dX12_feed_75 7 rfl ?_
    refine v_ishr dX12_feed_77 ?_
    refine v_i2b dX12_feed_78 ?_
    refine x_stB dX12_feed_79 h (fun M12 h => ?_)
    refine v_aload_n dX12_feed_80 rfl 1 rfl ?_
    refine x_gR dX12_feed_81 kf_X12_62 rfl h (fun r13 h => ?_)
    refine v_iload dX12_feed_84 0 rfl ?_
    refine v_bipush dX12_feed_86 bp_12 ?_
    refine v_iadd dX12_feed_88 ?_
    refine v_iload dX12_feed_89 5 rfl ?_
    refine v_iload dX12_feed_91 7 rfl ?_
    refine v_ishr dX12_feed_93 ?_
    refine v_i2b dX12_feed_94 ?_
    refine x_stB dX12_feed_95 h (fun M14 h => ?_)
    refine v_aload_n dX12_feed_96 rfl 1 rfl ?_
    refine x_gR dX12_feed_97 kf_X12_62 rfl h (fun r15 h => ?_)
    refine v_iload dX12_feed_100 0 rfl ?_
    refine v_bipush dX12_feed_102 bp_16 ?_
    refine v_iadd dX12_feed_104 ?_
    refine v_iload dX12_feed_105 6 rfl ?_
    refine v_iload dX12_feed_107 7 rfl ?_
    refine v_ishr dX12_feed_109 ?_
    refine v_i2b dX12_feed_110 ?_
    refine x_stB dX12_feed_111 h (fun M16 h => ?_)
    refine v_iincC (ls2 := [(6, .int (v6 + (-8 : Int32))), (7, .int y6), (0, .ref v0), (1, .int v1), (2, .int v2), (3, .int v3), (4, .int v4), (5, .int v5)]) dX12_feed_112 ic_m8 7 rfl (by decide) rfl ?_
    refine v_goto (tgt := 20) dX12_feed_115 (by decide) ?_
    exact V.pick [2, 3, 4, 5, 6, 7, 0] rfl (hk20 _ _ _ _ _ _ _ _ _ h)
theorem t_X12_feed_20 {G : jG} {d : Nat} (hd_ : 0 ≤ d)  : ∀ (n : Nat) (v0 : Nat) (v1 : Int32) (v2 : Int32) (v3 : Int32) (v4 : Int32) (v5 : Int32) (v6 : Int32) (M : jM) (b : Int32 × jM), l_X12_feed_20  n v0 v1 v2 v3 v4 v5 v6 M = some b → V G m_X12_feed d 20 [(0, .ref v0), (1, .int v1), (2, .int v2), (3, .int v3), (4, .int v4), (5, .int v5), (6, .int v6)] [] M (jQb cI b) := by
  intro n
  induction n with
  | zero => intro v0 v1 v2 v3 v4 v5 v6 M b h; exact nomatch (show (none : jO Int32) = some b from h)
  | succ n ih => intro v0 v1 v2 v3 v4 v5 v6 M b h; exact tb_X12_feed_20 hd_  ih h
def f_X12_feed (v0 : Nat) (v1 : Int32) (v2 : Int32) (v3 : Int32) (v4 : Int32) (v5 : Int32) (M : jM) : jO Int32 :=
  (gI 11 M v0 28).bind fun x1 =>
  if (x1 + (nI 20)) ≤ (nI 800) then
    l_X12_feed_20 jF0 v0 v1 v2 v3 v4 v5 (nI 24) M
  else
    rt (-4 : Int32) M
theorem s_X12_feed {G : jG} {d : Nat} (hd_ : 0 ≤ d) {v0 : Nat} {v1 : Int32} {v2 : Int32} {v3 : Int32} {v4 : Int32} {v5 : Int32} {M : jM} {b : Int32 × jM} (h : f_X12_feed  v0 v1 v2 v3 v4 v5 M = some b) : V G m_X12_feed d 0 [(0, .ref v0), (1, .int v1), (2, .int v2), (3, .int v3), (4, .int v4), (5, .int v5)] [] M (jQb cI b) := by
  unfold f_X12_feed at h
  refine v_aload_n dX12_feed_0 rfl 0 rfl ?_
  refine x_gI dX12_feed_1 kf_X12_231 rfl h (fun x1 h => ?_)
  refine v_bipush dX12_feed_4 bp_20 ?_
  refine v_iadd dX12_feed_6 ?_
  refine v_sipush dX12_feed_7 sp_800 ?_
  refine x_ic_le (tgt := 16) dX12_feed_10 (by decide) h (fun h => ?_) (fun h => ?_)
  · refine v_bipush dX12_feed_16 bp_24 ?_
    refine v_istore (ls2 := [(6, .int (nI 24)), (0, .ref v0), (1, .int v1), (2, .int v2), (3, .int v3), (4, .int v4), (5, .int v5)]) dX12_feed_18 (by decide) rfl ?_
    exact V.pick [1, 2, 3, 4, 5, 6, 0] rfl (t_X12_feed_20 hd_ _ _ _ _ _ _ _ _ _ _ h)
  · refine v_bipush dX12_feed_13 bp_m4 ?_
    exact x_iret dX12_feed_15 rfl h
def f_X12_game (v0 : Nat) (v1 : Int32) (v2 : Int32) (v3 : Int32) (M : jM) : jO Int32 :=
  jb2 (jiv 11 M v0 (f_X12_noWorld v0 v1 M)) fun x2 M1 =>
  if x2 = 0 then
    jb2 (jiv 11 M1 v0 (f_X12_noWorld v0 v2 M1)) fun x4 M3 =>
    if x4 = 0 then
      jb2 (f_X12_in v3 (nI 0) (nI 3) M3) fun x6 M5 =>
      if x6 = 0 then
        rt (-2 : Int32) M5
      else
        jb2 (jiv 11 M5 v0 (f_X12_begin v0 v1 v2 M5)) fun _ M7 =>
        jb2 (jiv 11 M7 v0 (f_X12_keeps v0 v3 M7)) fun x9 M8 =>
        if x9 = 0 then
          rt (nI 0) M8
        else
          rt (nI 1) M8
    else
      rt (-1 : Int32) M3
  else
    rt (-1 : Int32) M1
theorem s_X12_game {G : jG} {d : Nat} (hd_ : 7 ≤ d) {v0 : Nat} {v1 : Int32} {v2 : Int32} {v3 : Int32} {M : jM} {b : Int32 × jM} (h : f_X12_game  v0 v1 v2 v3 M = some b) : V G m_X12_game d 0 [(0, .ref v0), (1, .int v1), (2, .int v2), (3, .int v3)] [] M (jQb cI b) := by
  unfold f_X12_game at h
  refine v_aload_n dX12_game_0 rfl 0 rfl ?_
  refine v_iload_n dX12_game_1 rfl 1 rfl ?_
  refine x_inv (cv := cI) (As := [.int v1]) (rest := []) (ls2 := [(0, .ref v0), (1, .int v1)]) (ci := 11) (by omega) dX12_game_2 ke_X12_noWorld kv_X12_141 rfl rfl (by decide) (Nat.le_of_ble_eq_true rfl) rfl rfl rfl rfl h (fun _ hq => s_X12_noWorld (by omega) hq) (fun x2 M1 h => ?_)
  refine x_if_ne (tgt := 16) dX12_game_5 (by decide) h (fun h => ?_) (fun h => ?_)
  · refine v_aload_n dX12_game_8 rfl 0 rfl ?_
    refine v_iload_n dX12_game_9 rfl 2 rfl ?_
    refine x_inv (cv := cI) (As := [.int v2]) (rest := []) (ls2 := [(0, .ref v0), (1, .int v2)]) (ci := 11) (by omega) dX12_game_10 ke_X12_noWorld kv_X12_141 rfl rfl (by decide) (Nat.le_of_ble_eq_true rfl) rfl rfl rfl rfl h (fun _ hq => s_X12_noWorld (by omega) hq) (fun x4 M3 h => ?_)
    refine x_if_eq (tgt := 18) dX12_game_13 (by decide) h (fun h => ?_) (fun h => ?_)
    · refine v_iload_n dX12_game_18 rfl 3 rfl ?_
      refine v_iconst dX12_game_19 ic_0 ?_
      refine v_iconst dX12_game_20 ic_3 ?_
      refine x_invs (cv := cI) (As := [.int v3, .int (nI 0), .int (nI 3)]) (rest := []) (ls2 := [(0, .int v3), (1, .int (nI 0)), (2, .int (nI 3))]) (by omega) dX12_game_21 ke_X12_in ks_X12_133 (Nat.le_of_ble_eq_true rfl) rfl rfl rfl rfl h (fun _ hq => s_X12_in (by omega) hq) (fun x6 M5 h => ?_)
      refine x_if_ne (tgt := 30) dX12_game_24 (by decide) h (fun h => ?_) (fun h => ?_)
      · refine v_bipush dX12_game_27 bp_m2 ?_
        exact x_iret dX12_game_29 rfl h
      · refine v_aload_n dX12_game_30 rfl 0 rfl ?_
        refine v_iload_n dX12_game_31 rfl 1 rfl ?_
        refine v_iload_n dX12_game_32 rfl 2 rfl ?_
        refine x_inv (cv := cU) (As := [.int v1, .int v2]) (rest := []) (ls2 := [(0, .ref v0), (1, .int v1), (2, .int v2)]) (ci := 11) (by omega) dX12_game_33 ke_X12_begin kv_X12_198 rfl rfl (by decide) (Nat.le_of_ble_eq_true rfl) rfl rfl rfl rfl h (fun _ hq => s_X12_begin (by omega) hq) (fun _ M7 h => ?_)
        refine v_aload_n dX12_game_36 rfl 0 rfl ?_
        refine v_iload_n dX12_game_37 rfl 3 rfl ?_
        refine x_inv (cv := cI) (As := [.int v3]) (rest := []) (ls2 := [(0, .ref v0), (1, .int v3)]) (ci := 11) (by omega) dX12_game_38 ke_X12_keeps kv_X12_201 rfl rfl (by decide) (Nat.le_of_ble_eq_true rfl) rfl rfl rfl rfl h (fun _ hq => s_X12_keeps (by omega) hq) (fun x9 M8 h => ?_)
        refine x_if_eq (tgt := 48) dX12_game_41 (by decide) h (fun h => ?_) (fun h => ?_)
        · refine v_iconst dX12_game_48 ic_0 ?_
          exact x_iret dX12_game_49 rfl h
        · refine v_iconst dX12_game_44 ic_1 ?_
          refine v_goto (tgt := 49) dX12_game_45 (by decide) ?_
          exact x_iret dX12_game_49 rfl h
    · refine v_iconst dX12_game_16 ic_m1 ?_
      exact x_iret dX12_game_17 rfl h
  · refine v_iconst dX12_game_16 ic_m1 ?_
    exact x_iret dX12_game_17 rfl h
def j_X12_isAtom_26  (v0 : Nat) (v1 : Int32) (v2 : Int32) (s0 : Int32) (M : jM) : jO Int32 :=
  (gR 11 M v0 19).bind fun r1 =>
  (ldB M r1 v2).bind fun x2 =>
  if x2 = (nI 6) then
    (gR 11 M v0 1).bind fun r3 =>
    (ldI M r3 (((nI 6) * v1) + s0)).bind fun x4 =>
    if (x4 &&& (nI 1)) = (nI 1) then
      rZ (nI 1) M
    else
      rZ (nI 0) M
  else
  if x2 = (nI 7) then
    (gR 11 M v0 1).bind fun r5 =>
    (ldI M r5 (((nI 6) * v1) + s0)).bind fun x6 =>
    if (x6 &&& (nI 2)) = (nI 2) then
      rZ (nI 1) M
    else
      rZ (nI 0) M
  else
  if x2 = (nI 8) then
    (gR 11 M v0 46).bind fun r7 =>
    (gR 11 M v0 21).bind fun r8 =>
    (ldB M r8 v2).bind fun x9 =>
    (ldI M r7 x9).bind fun x10 =>
    jb2 (jiv 11 M v0 (f_X12_isTied v0 v1 s0 x10 M)) fun x12 M11 =>
    rZ x12 M11
  else
  if x2 = (nI 9) then
    (gR 11 M v0 46).bind fun r13 =>
    (gR 11 M v0 21).bind fun r14 =>
    (ldB M r14 v2).bind fun x15 =>
    (ldI M r13 x15).bind fun x16 =>
    if s0 = x16 then
      rZ (nI 1) M
    else
      rZ (nI 0) M
  else
    (gR 11 M v0 19).bind fun r17 =>
    (ldB M r17 v2).bind fun x18 =>
    if x18 = (nI 10) then
      rZ (nI 1) M
    else
      rZ (nI 0) M
theorem t_X12_isAtom_26 {G : jG} {d : Nat} (hd_ : 1 ≤ d)  {v0 : Nat} {v1 : Int32} {v2 : Int32} {s0 : Int32} {M : jM} {b : Int32 × jM} (h : j_X12_isAtom_26  v0 v1 v2 s0 M = some b) : V G m_X12_isAtom d 26 [(0, .ref v0), (1, .int v1), (2, .int v2)] [.int s0] M (jQb cI b) := by
  unfold j_X12_isAtom_26 at h
  refine v_istore_n (ls2 := [(3, .int s0), (0, .ref v0), (1, .int v1), (2, .int v2)]) dX12_isAtom_26 rfl (by decide) rfl ?_
  refine v_aload_n dX12_isAtom_27 rfl 1 rfl ?_
  refine x_gR dX12_isAtom_28 kf_X12_40 rfl h (fun r1 h => ?_)
  refine v_iload_n dX12_isAtom_31 rfl 3 rfl ?_
  refine x_ldB dX12_isAtom_32 h (fun x2 h => ?_)
  rcases x_br h with ⟨hc, h⟩ | ⟨hc6, h⟩
  · refine v_table (off := 31) (tgt := 64) dX12_isAtom_33 (by decide) (by rw [hc]; decide +kernel) (by decide) ?_
    refine v_aload_n dX12_isAtom_64 rfl 1 rfl ?_
    refine x_gR dX12_isAtom_65 kf_X12_13 rfl h (fun r3 h => ?_)
    refine v_bipush dX12_isAtom_68 bp_6 ?_
    refine v_iload_n dX12_isAtom_70 rfl 2 rfl ?_
    refine v_imul dX12_isAtom_71 ?_
    refine v_iload_n dX12_isAtom_72 rfl 0 rfl ?_
    refine v_iadd dX12_isAtom_73 ?_
    refine x_ldI dX12_isAtom_74 h (fun x4 h => ?_)
    refine v_iconst dX12_isAtom_75 ic_1 ?_
    refine v_iand dX12_isAtom_76 ?_
    refine v_iconst dX12_isAtom_77 ic_1 ?_
    refine x_ic_ne (tgt := 85) dX12_isAtom_78 (by decide) h (fun h => ?_) (fun h => ?_)
    · refine v_iconst dX12_isAtom_81 ic_1 ?_
      refine v_goto (tgt := 86) dX12_isAtom_82 (by decide) ?_
      exact x_zret dX12_isAtom_86 rfl h
    · refine v_iconst dX12_isAtom_85 ic_0 ?_
      exact x_zret dX12_isAtom_86 rfl h
  rcases x_br h with ⟨hc, h⟩ | ⟨hc7, h⟩
  · refine v_table (off := 54) (tgt := 87) dX12_isAtom_33 (by decide) (by rw [hc]; decide +kernel) (by decide) ?_
    refine v_aload_n dX12_isAtom_87 rfl 1 rfl ?_
    refine x_gR dX12_isAtom_88 kf_X12_13 rfl h (fun r5 h => ?_)
    refine v_bipush dX12_isAtom_91 bp_6 ?_
    refine v_iload_n dX12_isAtom_93 rfl 2 rfl ?_
    refine v_imul dX12_isAtom_94 ?_
    refine v_iload_n dX12_isAtom_95 rfl 0 rfl ?_
    refine v_iadd dX12_isAtom_96 ?_
    refine x_ldI dX12_isAtom_97 h (fun x6 h => ?_)
    refine v_iconst dX12_isAtom_98 ic_2 ?_
    refine v_iand dX12_isAtom_99 ?_
    refine v_iconst dX12_isAtom_100 ic_2 ?_
    refine x_ic_ne (tgt := 108) dX12_isAtom_101 (by decide) h (fun h => ?_) (fun h => ?_)
    · refine v_iconst dX12_isAtom_104 ic_1 ?_
      refine v_goto (tgt := 109) dX12_isAtom_105 (by decide) ?_
      exact x_zret dX12_isAtom_109 rfl h
    · refine v_iconst dX12_isAtom_108 ic_0 ?_
      exact x_zret dX12_isAtom_109 rfl h
  rcases x_br h with ⟨hc, h⟩ | ⟨hc8, h⟩
  · refine v_table (off := 77) (tgt := 110) dX12_isAtom_33 (by decide) (by rw [hc]; decide +kernel) (by decide) ?_
    refine v_aload_n dX12_isAtom_110 rfl 1 rfl ?_
    refine v_iload_n dX12_isAtom_111 rfl 2 rfl ?_
    refine v_iload_n dX12_isAtom_112 rfl 0 rfl ?_
    refine v_aload_n dX12_isAtom_113 rfl 1 rfl ?_
    refine x_gR dX12_isAtom_114 kf_X12_89 rfl h (fun r7 h => ?_)
    refine v_aload_n dX12_isAtom_117 rfl 1 rfl ?_
    refine x_gR dX12_isAtom_118 kf_X12_47 rfl h (fun r8 h => ?_)
    refine v_iload_n dX12_isAtom_121 rfl 3 rfl ?_
    refine x_ldB dX12_isAtom_122 h (fun x9 h => ?_)
    refine x_ldI dX12_isAtom_123 h (fun x10 h => ?_)
    refine x_inv (cv := cI) (As := [.int v1, .int s0, .int x10]) (rest := []) (ls2 := [(0, .ref v0), (1, .int v1), (2, .int s0), (3, .int x10)]) (ci := 11) (by omega) dX12_isAtom_124 ke_X12_isTied kv_X12_152 rfl rfl (by decide) (Nat.le_of_ble_eq_true rfl) rfl rfl rfl rfl h (fun _ hq => s_X12_isTied (by omega) hq) (fun x12 M11 h => ?_)
    exact x_zret dX12_isAtom_127 rfl h
  rcases x_br h with ⟨hc, h⟩ | ⟨hc9, h⟩
  · refine v_table (off := 95) (tgt := 128) dX12_isAtom_33 (by decide) (by rw [hc]; decide +kernel) (by decide) ?_
    refine v_iload_n dX12_isAtom_128 rfl 0 rfl ?_
    refine v_aload_n dX12_isAtom_129 rfl 1 rfl ?_
    refine x_gR dX12_isAtom_130 kf_X12_89 rfl h (fun r13 h => ?_)
    refine v_aload_n dX12_isAtom_133 rfl 1 rfl ?_
    refine x_gR dX12_isAtom_134 kf_X12_47 rfl h (fun r14 h => ?_)
    refine v_iload_n dX12_isAtom_137 rfl 3 rfl ?_
    refine x_ldB dX12_isAtom_138 h (fun x15 h => ?_)
    refine x_ldI dX12_isAtom_139 h (fun x16 h => ?_)
    refine x_ic_ne (tgt := 147) dX12_isAtom_140 (by decide) h (fun h => ?_) (fun h => ?_)
    · refine v_iconst dX12_isAtom_143 ic_1 ?_
      refine v_goto (tgt := 148) dX12_isAtom_144 (by decide) ?_
      exact x_zret dX12_isAtom_148 rfl h
    · refine v_iconst dX12_isAtom_147 ic_0 ?_
      exact x_zret dX12_isAtom_148 rfl h
  have he6 := x_ne hc6 (z := 6) (by decide +kernel)
  have he7 := x_ne hc7 (z := 7) (by decide +kernel)
  have he8 := x_ne hc8 (z := 8) (by decide +kernel)
  have he9 := x_ne hc9 (z := 9) (by decide +kernel)
  have hj_ : jtab (116) (6) (9) #[31, 54, 77, 95] (x2).toInt = 116 := by
    unfold jtab
    split
    · rfl
    · exfalso; omega
  refine v_table (off := 116) (tgt := 149) dX12_isAtom_33 (by decide) hj_ (by decide) ?_
  refine v_aload_n dX12_isAtom_149 rfl 1 rfl ?_
  refine x_gR dX12_isAtom_150 kf_X12_40 rfl h (fun r17 h => ?_)
  refine v_iload_n dX12_isAtom_153 rfl 3 rfl ?_
  refine x_ldB dX12_isAtom_154 h (fun x18 h => ?_)
  refine v_bipush dX12_isAtom_155 bp_10 ?_
  refine x_ic_ne (tgt := 164) dX12_isAtom_157 (by decide) h (fun h => ?_) (fun h => ?_)
  · refine v_iconst dX12_isAtom_160 ic_1 ?_
    refine v_goto (tgt := 165) dX12_isAtom_161 (by decide) ?_
    exact x_zret dX12_isAtom_165 rfl h
  · refine v_iconst dX12_isAtom_164 ic_0 ?_
    exact x_zret dX12_isAtom_165 rfl h
def f_X12_isAtom (v0 : Nat) (v1 : Int32) (v2 : Int32) (M : jM) : jO Int32 :=
  (gR 11 M v0 19).bind fun r1 =>
  (ldB M r1 v2).bind fun x2 =>
  if (nI 10) ≤ x2 then
    j_X12_isAtom_26 v0 v1 v2 (nI 0) M
  else
    (gR 11 M v0 46).bind fun r3 =>
    (gR 11 M v0 20).bind fun r4 =>
    (ldI M r4 v2).bind fun x5 =>
    (ldI M r3 x5).bind fun x6 =>
    j_X12_isAtom_26 v0 v1 v2 x6 M
theorem s_X12_isAtom {G : jG} {d : Nat} (hd_ : 1 ≤ d) {v0 : Nat} {v1 : Int32} {v2 : Int32} {M : jM} {b : Int32 × jM} (h : f_X12_isAtom  v0 v1 v2 M = some b) : V G m_X12_isAtom d 0 [(0, .ref v0), (1, .int v1), (2, .int v2)] [] M (jQb cI b) := by
  unfold f_X12_isAtom at h
  refine v_aload_n dX12_isAtom_0 rfl 0 rfl ?_
  refine x_gR dX12_isAtom_1 kf_X12_40 rfl h (fun r1 h => ?_)
  refine v_iload_n dX12_isAtom_4 rfl 2 rfl ?_
  refine x_ldB dX12_isAtom_5 h (fun x2 h => ?_)
  refine v_bipush dX12_isAtom_6 bp_10 ?_
  refine x_ic_ge (tgt := 25) dX12_isAtom_8 (by decide) h (fun h => ?_) (fun h => ?_)
  · refine v_iconst dX12_isAtom_25 ic_0 ?_
    exact t_X12_isAtom_26 hd_ h
  · refine v_aload_n dX12_isAtom_11 rfl 0 rfl ?_
    refine x_gR dX12_isAtom_12 kf_X12_89 rfl h (fun r3 h => ?_)
    refine v_aload_n dX12_isAtom_15 rfl 0 rfl ?_
    refine x_gR dX12_isAtom_16 kf_X12_44 rfl h (fun r4 h => ?_)
    refine v_iload_n dX12_isAtom_19 rfl 2 rfl ?_
    refine x_ldI dX12_isAtom_20 h (fun x5 h => ?_)
    refine x_ldI dX12_isAtom_21 h (fun x6 h => ?_)
    refine v_goto (tgt := 26) dX12_isAtom_22 (by decide) ?_
    exact t_X12_isAtom_26 hd_ h
def j_X12_nextAsked_250 (k10 : Nat → Int32 → Int32 → Int32 → jM → jO Int32) (v0 : Nat) (v2 : Int32) (v4 : Int32) (v5 : Int32) (M : jM) : jO Int32 :=
  (gI 11 M v0 38).bind fun x1 =>
  (pI 11 M v0 38 (x1 - (nI 1))).bind fun M2 =>
  k10 v0 v2 v4 v5 M2
theorem t_X12_nextAsked_250 {G : jG} {d : Nat} (hd_ : 0 ≤ d) {k10 : Nat → Int32 → Int32 → Int32 → jM → jO Int32} (hk10 : ∀ (w0 : Nat) (w2 : Int32) (w4 : Int32) (w5 : Int32) (M : jM) (b : Int32 × jM), k10 w0 w2 w4 w5 M = some b → V G m_X12_nextAsked d 10 [(0, .ref w0), (2, .int w2), (4, .int w4), (5, .int w5)] [] M (jQb cI b)) {v0 : Nat} {v2 : Int32} {v4 : Int32} {v5 : Int32} {M : jM} {b : Int32 × jM} (h : j_X12_nextAsked_250 k10 v0 v2 v4 v5 M = some b) : V G m_X12_nextAsked d 250 [(0, .ref v0), (2, .int v2), (4, .int v4), (5, .int v5)] [] M (jQb cI b) := by
  unfold j_X12_nextAsked_250 at h
  refine v_aload_n dX12_nextAsked_250 rfl 0 rfl ?_
  refine v_dup dX12_nextAsked_251 rfl ?_
  refine x_gI dX12_nextAsked_252 kf_X12_308 rfl h (fun x1 h => ?_)
  refine v_iconst dX12_nextAsked_255 ic_1 ?_
  refine v_isub dX12_nextAsked_256 ?_
  refine x_pI dX12_nextAsked_257 kf_X12_308 rfl (fun q => Bool.noConfusion q) h (fun M2 h => ?_)
  refine v_goto (tgt := 10) dX12_nextAsked_260 (by decide) ?_
  exact hk10 _ _ _ _ _ _ h
def j_X12_nextAsked_58 (k10 : Nat → Int32 → Int32 → Int32 → jM → jO Int32) (v0 : Nat) (v2 : Int32) (v4 : Int32) (s0 : Int32) (M : jM) : jO Int32 :=
  j_X12_nextAsked_250 k10 v0 v2 v4 s0 M
theorem t_X12_nextAsked_58 {G : jG} {d : Nat} (hd_ : 0 ≤ d) {k10 : Nat → Int32 → Int32 → Int32 → jM → jO Int32} (hk10 : ∀ (w0 : Nat) (w2 : Int32) (w4 : Int32) (w5 : Int32) (M : jM) (b : Int32 × jM), k10 w0 w2 w4 w5 M = some b → V G m_X12_nextAsked d 10 [(0, .ref w0), (2, .int w2), (4, .int w4), (5, .int w5)] [] M (jQb cI b)) {v0 : Nat} {v2 : Int32} {v4 : Int32} {s0 : Int32} {M : jM} {b : Int32 × jM} (h : j_X12_nextAsked_58 k10 v0 v2 v4 s0 M = some b) : V G m_X12_nextAsked d 58 [(0, .ref v0), (2, .int v2), (4, .int v4)] [.int s0] M (jQb cI b) := by
  unfold j_X12_nextAsked_58 at h
  refine v_istore (ls2 := [(5, .int s0), (0, .ref v0), (2, .int v2), (4, .int v4)]) dX12_nextAsked_58 (by decide) rfl ?_
  refine v_goto (tgt := 250) dX12_nextAsked_60 (by decide) ?_
  exact V.pick [1, 2, 3, 0] rfl (t_X12_nextAsked_250 hd_ hk10 h)
def j_X12_nextAsked_103 (k10 : Nat → Int32 → Int32 → Int32 → jM → jO Int32) (v0 : Nat) (v2 : Int32) (v4 : Int32) (v5 : Int32) (v7 : Int32) (s0 : Int32) (s1 : Int32) (M : jM) : jO Int32 :=
  if s0 = s1 then
    (gR 11 M v0 41).bind fun r1 =>
    (gI 11 M v0 38).bind fun x2 =>
    (ldI M r1 (x2 - (nI 1))).bind fun x3 =>
    (gR 11 M v0 22).bind fun r4 =>
    (ldI M r4 v7).bind fun x5 =>
    if x5 ≤ x3 then
      j_X12_nextAsked_250 k10 v0 v2 v4 v5 M
    else
      (gR 11 M v0 41).bind fun r6 =>
      (gI 11 M v0 38).bind fun x7 =>
      (ldI M r6 (x7 - (nI 1))).bind fun x8 =>
      (gR 11 M v0 41).bind fun r9 =>
      (gI 11 M v0 38).bind fun x10 =>
      (gR 11 M v0 22).bind fun r11 =>
      (ldI M r11 (v4 + x8)).bind fun x12 =>
      (stI M r9 (x10 - (nI 1)) x12).bind fun M13 =>
      rt x8 M13
  else
    j_X12_nextAsked_250 k10 v0 v2 v4 v5 M
theorem t_X12_nextAsked_103 {G : jG} {d : Nat} (hd_ : 0 ≤ d) {k10 : Nat → Int32 → Int32 → Int32 → jM → jO Int32} (hk10 : ∀ (w0 : Nat) (w2 : Int32) (w4 : Int32) (w5 : Int32) (M : jM) (b : Int32 × jM), k10 w0 w2 w4 w5 M = some b → V G m_X12_nextAsked d 10 [(0, .ref w0), (2, .int w2), (4, .int w4), (5, .int w5)] [] M (jQb cI b)) {v0 : Nat} {v2 : Int32} {v4 : Int32} {v5 : Int32} {v7 : Int32} {s0 : Int32} {s1 : Int32} {M : jM} {b : Int32 × jM} (h : j_X12_nextAsked_103 k10 v0 v2 v4 v5 v7 s0 s1 M = some b) : V G m_X12_nextAsked d 103 [(0, .ref v0), (2, .int v2), (4, .int v4), (5, .int v5), (7, .int v7)] [.int s1, .int s0] M (jQb cI b) := by
  unfold j_X12_nextAsked_103 at h
  refine x_ic_ne (tgt := 250) dX12_nextAsked_103 (by decide) h (fun h => ?_) (fun h => ?_)
  · refine v_aload_n dX12_nextAsked_106 rfl 0 rfl ?_
    refine x_gR dX12_nextAsked_107 kf_X12_83 rfl h (fun r1 h => ?_)
    refine v_aload_n dX12_nextAsked_110 rfl 0 rfl ?_
    refine x_gI dX12_nextAsked_111 kf_X12_308 rfl h (fun x2 h => ?_)
    refine v_iconst dX12_nextAsked_114 ic_1 ?_
    refine v_isub dX12_nextAsked_115 ?_
    refine x_ldI dX12_nextAsked_116 h (fun x3 h => ?_)
    refine v_aload_n dX12_nextAsked_117 rfl 0 rfl ?_
    refine x_gR dX12_nextAsked_118 kf_X12_50 rfl h (fun r4 h => ?_)
    refine v_iload dX12_nextAsked_121 4 rfl ?_
    refine x_ldI dX12_nextAsked_123 h (fun x5 h => ?_)
    refine x_ic_ge (tgt := 250) dX12_nextAsked_124 (by decide) h (fun h => ?_) (fun h => ?_)
    · exact V.pick [0, 1, 2, 3] rfl (t_X12_nextAsked_250 hd_ hk10 h)
    · refine v_aload_n dX12_nextAsked_127 rfl 0 rfl ?_
      refine x_gR dX12_nextAsked_128 kf_X12_83 rfl h (fun r6 h => ?_)
      refine v_aload_n dX12_nextAsked_131 rfl 0 rfl ?_
      refine x_gI dX12_nextAsked_132 kf_X12_308 rfl h (fun x7 h => ?_)
      refine v_iconst dX12_nextAsked_135 ic_1 ?_
      refine v_isub dX12_nextAsked_136 ?_
      refine x_ldI dX12_nextAsked_137 h (fun x8 h => ?_)
      refine v_istore (ls2 := [(8, .int x8), (0, .ref v0), (2, .int v2), (4, .int v4), (5, .int v5), (7, .int v7)]) dX12_nextAsked_138 (by decide) rfl ?_
      refine v_aload_n dX12_nextAsked_140 rfl 1 rfl ?_
      refine x_gR dX12_nextAsked_141 kf_X12_83 rfl h (fun r9 h => ?_)
      refine v_aload_n dX12_nextAsked_144 rfl 1 rfl ?_
      refine x_gI dX12_nextAsked_145 kf_X12_308 rfl h (fun x10 h => ?_)
      refine v_iconst dX12_nextAsked_148 ic_1 ?_
      refine v_isub dX12_nextAsked_149 ?_
      refine v_aload_n dX12_nextAsked_150 rfl 1 rfl ?_
      refine x_gR dX12_nextAsked_151 kf_X12_50 rfl h (fun r11 h => ?_)
      refine v_iload dX12_nextAsked_154 3 rfl ?_
      refine v_iload dX12_nextAsked_156 0 rfl ?_
      refine v_iadd dX12_nextAsked_158 ?_
      refine x_ldI dX12_nextAsked_159 h (fun x12 h => ?_)
      refine x_stI dX12_nextAsked_160 h (fun M13 h => ?_)
      refine v_iload dX12_nextAsked_161 0 rfl ?_
      exact x_iret dX12_nextAsked_163 rfl h
  · exact V.pick [0, 1, 2, 3] rfl (t_X12_nextAsked_250 hd_ hk10 h)
def j_X12_nextAsked_85 (k10 : Nat → Int32 → Int32 → Int32 → jM → jO Int32) (v0 : Nat) (v2 : Int32) (v4 : Int32) (v5 : Int32) (v7 : Int32) (M : jM) : jO Int32 :=
  (gR 11 M v0 19).bind fun r1 =>
  (ldB M r1 v7).bind fun x2 =>
  if x2 = (nI 4) then
    j_X12_nextAsked_103 k10 v0 v2 v4 v5 v7 v5 (nI 1) M
  else
    j_X12_nextAsked_103 k10 v0 v2 v4 v5 v7 v5 (nI 0) M
theorem t_X12_nextAsked_85 {G : jG} {d : Nat} (hd_ : 0 ≤ d) {k10 : Nat → Int32 → Int32 → Int32 → jM → jO Int32} (hk10 : ∀ (w0 : Nat) (w2 : Int32) (w4 : Int32) (w5 : Int32) (M : jM) (b : Int32 × jM), k10 w0 w2 w4 w5 M = some b → V G m_X12_nextAsked d 10 [(0, .ref w0), (2, .int w2), (4, .int w4), (5, .int w5)] [] M (jQb cI b)) {v0 : Nat} {v2 : Int32} {v4 : Int32} {v5 : Int32} {v7 : Int32} {M : jM} {b : Int32 × jM} (h : j_X12_nextAsked_85 k10 v0 v2 v4 v5 v7 M = some b) : V G m_X12_nextAsked d 85 [(0, .ref v0), (2, .int v2), (4, .int v4), (5, .int v5), (7, .int v7)] [] M (jQb cI b) := by
  unfold j_X12_nextAsked_85 at h
  refine v_iload dX12_nextAsked_85 3 rfl ?_
  refine v_aload_n dX12_nextAsked_87 rfl 0 rfl ?_
  refine x_gR dX12_nextAsked_88 kf_X12_40 rfl h (fun r1 h => ?_)
  refine v_iload dX12_nextAsked_91 4 rfl ?_
  refine x_ldB dX12_nextAsked_93 h (fun x2 h => ?_)
  refine v_iconst dX12_nextAsked_94 ic_4 ?_
  refine x_ic_ne (tgt := 102) dX12_nextAsked_95 (by decide) h (fun h => ?_) (fun h => ?_)
  · refine v_iconst dX12_nextAsked_98 ic_1 ?_
    refine v_goto (tgt := 103) dX12_nextAsked_99 (by decide) ?_
    exact t_X12_nextAsked_103 hd_ hk10 h
  · refine v_iconst dX12_nextAsked_102 ic_0 ?_
    exact t_X12_nextAsked_103 hd_ hk10 h
def j_X12_nextAsked_182 (k10 : Nat → Int32 → Int32 → Int32 → jM → jO Int32) (v0 : Nat) (v2 : Int32) (v4 : Int32) (v5 : Int32) (v6 : Int32) (v7 : Int32) (s0 : Int32) (s1 : Int32) (M : jM) : jO Int32 :=
  if s0 = s1 then
    (gR 11 M v0 40).bind fun r1 =>
    (gI 11 M v0 38).bind fun x2 =>
    (ldI M r1 (x2 - (nI 1))).bind fun x3 =>
    (gR 11 M v0 0).bind fun r4 =>
    (ldI M r4 v2).bind fun x5 =>
    if x5 ≤ (x3 + (nI 1)) then
      j_X12_nextAsked_250 k10 v0 v2 v4 v5 M
    else
      (gR 11 M v0 40).bind fun r6 =>
      (gI 11 M v0 38).bind fun x7 =>
      (ldI M r6 (x7 - (nI 1))).bind fun x8 =>
      (stI M r6 (x7 - (nI 1)) (x8 + (nI 1))).bind fun M9 =>
      (gR 11 M9 v0 46).bind fun r10 =>
      (gR 11 M9 v0 20).bind fun r11 =>
      (ldI M9 r11 v7).bind fun x12 =>
      (gR 11 M9 v0 40).bind fun r13 =>
      (gI 11 M9 v0 38).bind fun x14 =>
      (ldI M9 r13 (x14 - (nI 1))).bind fun x15 =>
      (stI M9 r10 x12 x15).bind fun M16 =>
      rt (v6 + (nI 1)) M16
  else
    j_X12_nextAsked_250 k10 v0 v2 v4 v5 M
theorem t_X12_nextAsked_182 {G : jG} {d : Nat} (hd_ : 0 ≤ d) {k10 : Nat → Int32 → Int32 → Int32 → jM → jO Int32} (hk10 : ∀ (w0 : Nat) (w2 : Int32) (w4 : Int32) (w5 : Int32) (M : jM) (b : Int32 × jM), k10 w0 w2 w4 w5 M = some b → V G m_X12_nextAsked d 10 [(0, .ref w0), (2, .int w2), (4, .int w4), (5, .int w5)] [] M (jQb cI b)) {v0 : Nat} {v2 : Int32} {v4 : Int32} {v5 : Int32} {v6 : Int32} {v7 : Int32} {s0 : Int32} {s1 : Int32} {M : jM} {b : Int32 × jM} (h : j_X12_nextAsked_182 k10 v0 v2 v4 v5 v6 v7 s0 s1 M = some b) : V G m_X12_nextAsked d 182 [(0, .ref v0), (2, .int v2), (4, .int v4), (5, .int v5), (6, .int v6), (7, .int v7)] [.int s1, .int s0] M (jQb cI b) := by
  unfold j_X12_nextAsked_182 at h
  refine x_ic_ne (tgt := 250) dX12_nextAsked_182 (by decide) h (fun h => ?_) (fun h => ?_)
  · refine v_aload_n dX12_nextAsked_185 rfl 0 rfl ?_
    refine x_gR dX12_nextAsked_186 kf_X12_80 rfl h (fun r1 h => ?_)
    refine v_aload_n dX12_nextAsked_189 rfl 0 rfl ?_
    refine x_gI dX12_nextAsked_190 kf_X12_308 rfl h (fun x2 h => ?_)
    refine v_iconst dX12_nextAsked_193 ic_1 ?_
    refine v_isub dX12_nextAsked_194 ?_
    refine x_ldI dX12_nextAsked_195 h (fun x3 h => ?_)
    refine v_iconst dX12_nextAsked_196 ic_1 ?_
    refine v_iadd dX12_nextAsked_197 ?_
    refine v_aload_n dX12_nextAsked_198 rfl 0 rfl ?_
    refine x_gR dX12_nextAsked_199 kf_X12_7 rfl h (fun r4 h => ?_)
    refine v_iload_n dX12_nextAsked_202 rfl 1 rfl ?_
    refine x_ldI dX12_nextAsked_203 h (fun x5 h => ?_)
    refine x_ic_ge (tgt := 250) dX12_nextAsked_204 (by decide) h (fun h => ?_) (fun h => ?_)
    · exact V.pick [0, 1, 2, 3] rfl (t_X12_nextAsked_250 hd_ hk10 h)
    · refine v_aload_n dX12_nextAsked_207 rfl 0 rfl ?_
      refine x_gR dX12_nextAsked_208 kf_X12_80 rfl h (fun r6 h => ?_)
      refine v_aload_n dX12_nextAsked_211 rfl 0 rfl ?_
      refine x_gI dX12_nextAsked_212 kf_X12_308 rfl h (fun x7 h => ?_)
      refine v_iconst dX12_nextAsked_215 ic_1 ?_
      refine v_isub dX12_nextAsked_216 ?_
      refine v_dup2 dX12_nextAsked_217 rfl rfl ?_
      refine x_ldI dX12_nextAsked_218 h (fun x8 h => ?_)
      refine v_iconst dX12_nextAsked_219 ic_1 ?_
      refine v_iadd dX12_nextAsked_220 ?_
      refine x_stI dX12_nextAsked_221 h (fun M9 h => ?_)
      refine v_aload_n dX12_nextAsked_222 rfl 0 rfl ?_
      refine x_gR dX12_nextAsked_223 kf_X12_89 rfl h (fun r10 h => ?_)
      refine v_aload_n dX12_nextAsked_226 rfl 0 rfl ?_
      refine x_gR dX12_nextAsked_227 kf_X12_44 rfl h (fun r11 h => ?_)
      refine v_iload dX12_nextAsked_230 5 rfl ?_
      refine x_ldI dX12_nextAsked_232 h (fun x12 h => ?_)
      refine v_aload_n dX12_nextAsked_233 rfl 0 rfl ?_
      refine x_gR dX12_nextAsked_234 kf_X12_80 rfl h (fun r13 h => ?_)
      refine v_aload_n dX12_nextAsked_237 rfl 0 rfl ?_
      refine x_gI dX12_nextAsked_238 kf_X12_308 rfl h (fun x14 h => ?_)
      refine v_iconst dX12_nextAsked_241 ic_1 ?_
      refine v_isub dX12_nextAsked_242 ?_
      refine x_ldI dX12_nextAsked_243 h (fun x15 h => ?_)
      refine x_stI dX12_nextAsked_244 h (fun M16 h => ?_)
      refine v_iload dX12_nextAsked_245 4 rfl ?_
      refine v_iconst dX12_nextAsked_247 ic_1 ?_
      refine v_iadd dX12_nextAsked_248 ?_
      exact x_iret dX12_nextAsked_249 rfl h
  · exact V.pick [0, 1, 2, 3] rfl (t_X12_nextAsked_250 hd_ hk10 h)
def b_X12_nextAsked_10  (k10 : Nat → Int32 → Int32 → Int32 → jM → jO Int32) (v0 : Nat) (v2 : Int32) (v4 : Int32) (v5 : Int32) (M : jM) : jO Int32 :=
  (gI 11 M v0 38).bind fun x1 =>
  if x1 ≤ 0 then
    (pZ 11 M v0 47 v5).bind fun M2 =>
    rt (-1 : Int32) M2
  else
    (gR 11 M v0 39).bind fun r3 =>
    (gI 11 M v0 38).bind fun x4 =>
    (ldI M r3 (x4 - (nI 1))).bind fun x5 =>
    (jv (v4 + x5)).bind fun y6 =>
    (gR 11 M v0 19).bind fun r7 =>
    (ldB M r7 y6).bind fun x8 =>
    if x8 = (nI 1) then
      if v5 = 0 then
        j_X12_nextAsked_58 k10 v0 v2 v4 (nI 1) M
      else
        j_X12_nextAsked_58 k10 v0 v2 v4 (nI 0) M
    else
      (gR 11 M v0 19).bind fun r9 =>
      (ldB M r9 y6).bind fun x10 =>
      if x10 = (nI 4) then
        j_X12_nextAsked_85 k10 v0 v2 v4 v5 y6 M
      else
        (gR 11 M v0 19).bind fun r11 =>
        (ldB M r11 y6).bind fun x12 =>
        if x12 = (nI 5) then
          j_X12_nextAsked_85 k10 v0 v2 v4 v5 y6 M
        else
          (gR 11 M v0 19).bind fun r13 =>
          (ldB M r13 y6).bind fun x14 =>
          if x14 = (nI 2) then
            j_X12_nextAsked_182 k10 v0 v2 v4 v5 x5 y6 v5 (nI 1) M
          else
            j_X12_nextAsked_182 k10 v0 v2 v4 v5 x5 y6 v5 (nI 0) M
def l_X12_nextAsked_10  : Nat → Nat → Int32 → Int32 → Int32 → jM → jO Int32
  | 0 => fun _ _ _ _ _ => none
  | n + 1 => b_X12_nextAsked_10  (l_X12_nextAsked_10  n)
theorem tb_X12_nextAsked_10 {G : jG} {d : Nat} (hd_ : 0 ≤ d)  {k10 : Nat → Int32 → Int32 → Int32 → jM → jO Int32} (hk10 : ∀ (w0 : Nat) (w2 : Int32) (w4 : Int32) (w5 : Int32) (M : jM) (b : Int32 × jM), k10 w0 w2 w4 w5 M = some b → V G m_X12_nextAsked d 10 [(0, .ref w0), (2, .int w2), (4, .int w4), (5, .int w5)] [] M (jQb cI b)) {v0 : Nat} {v2 : Int32} {v4 : Int32} {v5 : Int32} {M : jM} {b : Int32 × jM} (h : b_X12_nextAsked_10  k10 v0 v2 v4 v5 M = some b) : V G m_X12_nextAsked d 10 [(0, .ref v0), (2, .int v2), (4, .int v4), (5, .int v5)] [] M (jQb cI b) := by
  unfold b_X12_nextAsked_10 at h
  refine v_aload_n dX12_nextAsked_10 rfl 0 rfl ?_
  refine x_gI dX12_nextAsked_11 kf_X12_308 rfl h (fun x1 h => ?_)
  refine x_if_le (tgt := 263) dX12_nextAsked_14 (by decide) h (fun h => ?_) (fun h => ?_)
  · refine v_aload_n dX12_nextAsked_263 rfl 0 rfl ?_
    refine v_iload dX12_nextAsked_264 3 rfl ?_
    refine x_pZ dX12_nextAsked_266 kf_X12_326 rfl (fun q => Bool.noConfusion q) h (fun M2 h => ?_)
    refine v_iconst dX12_nextAsked_269 ic_m1 ?_
    exact x_iret dX12_nextAsked_270 rfl h
  · refine v_aload_n dX12_nextAsked_17 rfl 0 rfl ?_
    refine x_gR dX12_nextAsked_18 kf_X12_77 rfl h (fun r3 h => ?_)
    refine v_aload_n dX12_nextAsked_21 rfl 0 rfl ?_
    refine x_gI dX12_nextAsked_22 kf_X12_308 rfl h (fun x4 h => ?_)
    refine v_iconst dX12_nextAsked_25 ic_1 ?_
    refine v_isub dX12_nextAsked_26 ?_
    refine x_ldI dX12_nextAsked_27 h (fun x5 h => ?_)
    refine v_istore (ls2 := [(6, .int x5), (0, .ref v0), (2, .int v2), (4, .int v4), (5, .int v5)]) dX12_nextAsked_28 (by decide) rfl ?_
    refine v_iload dX12_nextAsked_30 3 rfl ?_
    refine v_iload dX12_nextAsked_32 0 rfl ?_
    refine v_iadd dX12_nextAsked_34 ?_
    refine x_jvI h (fun y6 h => ?_)
    refine v_istore (ls2 := [(7, .int y6), (6, .int x5), (0, .ref v0), (2, .int v2), (4, .int v4), (5, .int v5)]) dX12_nextAsked_35 (by decide) rfl ?_
    refine v_aload_n dX12_nextAsked_37 rfl 2 rfl ?_
    refine x_gR dX12_nextAsked_38 kf_X12_40 rfl h (fun r7 h => ?_)
    refine v_iload dX12_nextAsked_41 0 rfl ?_
    refine x_ldB dX12_nextAsked_43 h (fun x8 h => ?_)
    refine v_iconst dX12_nextAsked_44 ic_1 ?_
    refine x_ic_ne (tgt := 63) dX12_nextAsked_45 (by decide) h (fun h => ?_) (fun h => ?_)
    · refine v_iload dX12_nextAsked_48 5 rfl ?_
      refine x_if_ne (tgt := 57) dX12_nextAsked_50 (by decide) h (fun h => ?_) (fun h => ?_)
      · refine v_iconst dX12_nextAsked_53 ic_1 ?_
        refine v_goto (tgt := 58) dX12_nextAsked_54 (by decide) ?_
        exact V.pick [2, 3, 4] rfl (t_X12_nextAsked_58 hd_ hk10 h)
      · refine v_iconst dX12_nextAsked_57 ic_0 ?_
        exact V.pick [2, 3, 4] rfl (t_X12_nextAsked_58 hd_ hk10 h)
    · refine v_aload_n dX12_nextAsked_63 rfl 2 rfl ?_
      refine x_gR dX12_nextAsked_64 kf_X12_40 rfl h (fun r9 h => ?_)
      refine v_iload dX12_nextAsked_67 0 rfl ?_
      refine x_ldB dX12_nextAsked_69 h (fun x10 h => ?_)
      refine v_iconst dX12_nextAsked_70 ic_4 ?_
      refine x_ic_eq (tgt := 85) dX12_nextAsked_71 (by decide) h (fun h => ?_) (fun h => ?_)
      · exact V.pick [2, 3, 4, 5, 0] rfl (t_X12_nextAsked_85 hd_ hk10 h)
      · refine v_aload_n dX12_nextAsked_74 rfl 2 rfl ?_
        refine x_gR dX12_nextAsked_75 kf_X12_40 rfl h (fun r11 h => ?_)
        refine v_iload dX12_nextAsked_78 0 rfl ?_
        refine x_ldB dX12_nextAsked_80 h (fun x12 h => ?_)
        refine v_iconst dX12_nextAsked_81 ic_5 ?_
        refine x_ic_ne (tgt := 164) dX12_nextAsked_82 (by decide) h (fun h => ?_) (fun h => ?_)
        · exact V.pick [2, 3, 4, 5, 0] rfl (t_X12_nextAsked_85 hd_ hk10 h)
        · refine v_iload dX12_nextAsked_164 5 rfl ?_
          refine v_aload_n dX12_nextAsked_166 rfl 2 rfl ?_
          refine x_gR dX12_nextAsked_167 kf_X12_40 rfl h (fun r13 h => ?_)
          refine v_iload dX12_nextAsked_170 0 rfl ?_
          refine x_ldB dX12_nextAsked_172 h (fun x14 h => ?_)
          refine v_iconst dX12_nextAsked_173 ic_2 ?_
          refine x_ic_ne (tgt := 181) dX12_nextAsked_174 (by decide) h (fun h => ?_) (fun h => ?_)
          · refine v_iconst dX12_nextAsked_177 ic_1 ?_
            refine v_goto (tgt := 182) dX12_nextAsked_178 (by decide) ?_
            exact V.pick [2, 3, 4, 5, 1, 0] rfl (t_X12_nextAsked_182 hd_ hk10 h)
          · refine v_iconst dX12_nextAsked_181 ic_0 ?_
            exact V.pick [2, 3, 4, 5, 1, 0] rfl (t_X12_nextAsked_182 hd_ hk10 h)
theorem t_X12_nextAsked_10 {G : jG} {d : Nat} (hd_ : 0 ≤ d)  : ∀ (n : Nat) (v0 : Nat) (v2 : Int32) (v4 : Int32) (v5 : Int32) (M : jM) (b : Int32 × jM), l_X12_nextAsked_10  n v0 v2 v4 v5 M = some b → V G m_X12_nextAsked d 10 [(0, .ref v0), (2, .int v2), (4, .int v4), (5, .int v5)] [] M (jQb cI b) := by
  intro n
  induction n with
  | zero => intro v0 v2 v4 v5 M b h; exact nomatch (show (none : jO Int32) = some b from h)
  | succ n ih => intro v0 v2 v4 v5 M b h; exact tb_X12_nextAsked_10 hd_  ih h
def f_X12_nextAsked (v0 : Nat) (v1 : Int32) (v2 : Int32) (v3 : Int32) (M : jM) : jO Int32 :=
  (jv ((nI 600) * v1)).bind fun y1 =>
  l_X12_nextAsked_10 jF0 v0 v2 y1 v3 M
theorem s_X12_nextAsked {G : jG} {d : Nat} (hd_ : 0 ≤ d) {v0 : Nat} {v1 : Int32} {v2 : Int32} {v3 : Int32} {M : jM} {b : Int32 × jM} (h : f_X12_nextAsked  v0 v1 v2 v3 M = some b) : V G m_X12_nextAsked d 0 [(0, .ref v0), (1, .int v1), (2, .int v2), (3, .int v3)] [] M (jQb cI b) := by
  unfold f_X12_nextAsked at h
  refine v_sipush dX12_nextAsked_0 sp_600 ?_
  refine v_iload_n dX12_nextAsked_3 rfl 1 rfl ?_
  refine v_imul dX12_nextAsked_4 ?_
  refine x_jvI h (fun y1 h => ?_)
  refine v_istore (ls2 := [(4, .int y1), (0, .ref v0), (1, .int v1), (2, .int v2), (3, .int v3)]) dX12_nextAsked_5 (by decide) rfl ?_
  refine v_iload_n dX12_nextAsked_7 rfl 4 rfl ?_
  refine v_istore (ls2 := [(5, .int v3), (4, .int y1), (0, .ref v0), (1, .int v1), (2, .int v2), (3, .int v3)]) dX12_nextAsked_8 (by decide) rfl ?_
  exact V.pick [2, 4, 1, 0] rfl (t_X12_nextAsked_10 hd_ _ _ _ _ _ _ _ h)
def f_X12_noSentence (v0 : Nat) (v1 : Int32) (M : jM) : jO Int32 :=
  (gI 11 M v0 17).bind fun x1 =>
  jb2 (f_X12_in v1 (nI 0) (x1 - (nI 1)) M) fun x3 M2 =>
  if x3 = 0 then
    rZ (nI 1) M2
  else
    rZ (nI 0) M2
theorem s_X12_noSentence {G : jG} {d : Nat} (hd_ : 1 ≤ d) {v0 : Nat} {v1 : Int32} {M : jM} {b : Int32 × jM} (h : f_X12_noSentence  v0 v1 M = some b) : V G m_X12_noSentence d 0 [(0, .ref v0), (1, .int v1)] [] M (jQb cI b) := by
  unfold f_X12_noSentence at h
  refine v_iload_n dX12_noSentence_0 rfl 1 rfl ?_
  refine v_iconst dX12_noSentence_1 ic_0 ?_
  refine v_aload_n dX12_noSentence_2 rfl 0 rfl ?_
  refine x_gI dX12_noSentence_3 kf_X12_290 rfl h (fun x1 h => ?_)
  refine v_iconst dX12_noSentence_6 ic_1 ?_
  refine v_isub dX12_noSentence_7 ?_
  refine x_invs (cv := cI) (As := [.int v1, .int (nI 0), .int (x1 - (nI 1))]) (rest := []) (ls2 := [(0, .int v1), (1, .int (nI 0)), (2, .int (x1 - (nI 1)))]) (by omega) dX12_noSentence_8 ke_X12_in ks_X12_133 (Nat.le_of_ble_eq_true rfl) rfl rfl rfl rfl h (fun _ hq => s_X12_in (by omega) hq) (fun x3 M2 h => ?_)
  refine x_if_ne (tgt := 18) dX12_noSentence_11 (by decide) h (fun h => ?_) (fun h => ?_)
  · refine v_iconst dX12_noSentence_14 ic_1 ?_
    refine v_goto (tgt := 19) dX12_noSentence_15 (by decide) ?_
    exact x_zret dX12_noSentence_19 rfl h
  · refine v_iconst dX12_noSentence_18 ic_0 ?_
    exact x_zret dX12_noSentence_19 rfl h
def j_X12_holds_190 (k37 : Nat → Int32 → Int32 → Int32 → Int32 → jM → jO Int32) (v0 : Nat) (v1 : Int32) (v2 : Int32) (v3 : Int32) (v4 : Int32) (M : jM) : jO Int32 :=
  k37 v0 v1 v2 v3 v4 M
theorem t_X12_holds_190 {G : jG} {d : Nat} (hd_ : 3 ≤ d) {k37 : Nat → Int32 → Int32 → Int32 → Int32 → jM → jO Int32} (hk37 : ∀ (w0 : Nat) (w1 : Int32) (w2 : Int32) (w3 : Int32) (w4 : Int32) (M : jM) (b : Int32 × jM), k37 w0 w1 w2 w3 w4 M = some b → V G m_X12_holds d 37 [(0, .ref w0), (1, .int w1), (2, .int w2), (3, .int w3), (4, .int w4)] [] M (jQb cI b)) {v0 : Nat} {v1 : Int32} {v2 : Int32} {v3 : Int32} {v4 : Int32} {M : jM} {b : Int32 × jM} (h : j_X12_holds_190 k37 v0 v1 v2 v3 v4 M = some b) : V G m_X12_holds d 190 [(0, .ref v0), (1, .int v1), (2, .int v2), (3, .int v3), (4, .int v4)] [] M (jQb cI b) := by
  unfold j_X12_holds_190 at h
  refine v_goto (tgt := 37) dX12_holds_190 (by decide) ?_
  exact hk37 _ _ _ _ _ _ _ h
def j_X12_holds_187 (k37 : Nat → Int32 → Int32 → Int32 → Int32 → jM → jO Int32) (v0 : Nat) (v1 : Int32) (v2 : Int32) (v3 : Int32) (v4 : Int32) (M : jM) : jO Int32 :=
  j_X12_holds_190 k37 v0 v1 v2 v3 (v4 + (nI 1)) M
theorem t_X12_holds_187 {G : jG} {d : Nat} (hd_ : 3 ≤ d) {k37 : Nat → Int32 → Int32 → Int32 → Int32 → jM → jO Int32} (hk37 : ∀ (w0 : Nat) (w1 : Int32) (w2 : Int32) (w3 : Int32) (w4 : Int32) (M : jM) (b : Int32 × jM), k37 w0 w1 w2 w3 w4 M = some b → V G m_X12_holds d 37 [(0, .ref w0), (1, .int w1), (2, .int w2), (3, .int w3), (4, .int w4)] [] M (jQb cI b)) {v0 : Nat} {v1 : Int32} {v2 : Int32} {v3 : Int32} {v4 : Int32} {M : jM} {b : Int32 × jM} (h : j_X12_holds_187 k37 v0 v1 v2 v3 v4 M = some b) : V G m_X12_holds d 187 [(0, .ref v0), (1, .int v1), (2, .int v2), (3, .int v3), (4, .int v4)] [] M (jQb cI b) := by
  unfold j_X12_holds_187 at h
  refine v_iincC (ls2 := [(4, .int (v4 + (nI 1))), (0, .ref v0), (1, .int v1), (2, .int v2), (3, .int v3)]) dX12_holds_187 ic_1 4 rfl (by decide) rfl ?_
  exact V.pick [1, 2, 3, 4, 0] rfl (t_X12_holds_190 hd_ hk37 h)
def j_X12_holds_174 (k37 : Nat → Int32 → Int32 → Int32 → Int32 → jM → jO Int32) (v0 : Nat) (v1 : Int32) (v2 : Int32) (v3 : Int32) (v4 : Int32) (v5 : Int32) (M : jM) : jO Int32 :=
  (gR 11 M v0 46).bind fun r1 =>
  (gR 11 M v0 20).bind fun r2 =>
  (ldI M r2 v5).bind fun x3 =>
  (stI M r1 x3 (nI 0)).bind fun M4 =>
  j_X12_holds_187 k37 v0 v1 v2 v3 v4 M4
theorem t_X12_holds_174 {G : jG} {d : Nat} (hd_ : 3 ≤ d) {k37 : Nat → Int32 → Int32 → Int32 → Int32 → jM → jO Int32} (hk37 : ∀ (w0 : Nat) (w1 : Int32) (w2 : Int32) (w3 : Int32) (w4 : Int32) (M : jM) (b : Int32 × jM), k37 w0 w1 w2 w3 w4 M = some b → V G m_X12_holds d 37 [(0, .ref w0), (1, .int w1), (2, .int w2), (3, .int w3), (4, .int w4)] [] M (jQb cI b)) {v0 : Nat} {v1 : Int32} {v2 : Int32} {v3 : Int32} {v4 : Int32} {v5 : Int32} {M : jM} {b : Int32 × jM} (h : j_X12_holds_174 k37 v0 v1 v2 v3 v4 v5 M = some b) : V G m_X12_holds d 174 [(0, .ref v0), (1, .int v1), (2, .int v2), (3, .int v3), (4, .int v4), (5, .int v5)] [] M (jQb cI b) := by
  unfold j_X12_holds_174 at h
  refine v_aload_n dX12_holds_174 rfl 0 rfl ?_
  refine x_gR dX12_holds_175 kf_X12_89 rfl h (fun r1 h => ?_)
  refine v_aload_n dX12_holds_178 rfl 0 rfl ?_
  refine x_gR dX12_holds_179 kf_X12_44 rfl h (fun r2 h => ?_)
  refine v_iload dX12_holds_182 5 rfl ?_
  refine x_ldI dX12_holds_184 h (fun x3 h => ?_)
  refine v_iconst dX12_holds_185 ic_0 ?_
  refine x_stI dX12_holds_186 h (fun M4 h => ?_)
  exact V.pick [0, 1, 2, 3, 4] rfl (t_X12_holds_187 hd_ hk37 h)
def b_X12_holds_37  (k37 : Nat → Int32 → Int32 → Int32 → Int32 → jM → jO Int32) (v0 : Nat) (v1 : Int32) (v2 : Int32) (v3 : Int32) (v4 : Int32) (M : jM) : jO Int32 :=
  if v4 < 0 then
    (gI 11 M v0 45).bind fun x1 =>
    (pI 11 M v0 44 x1).bind fun M2 =>
    (gI 11 M2 v0 47).bind fun x3 =>
    if x3 = 0 then
      rt (nI 0) M2
    else
      rt (nI 1) M2
  else
    (gI 11 M v0 45).bind fun x4 =>
    (pI 11 M v0 45 (x4 + (nI 1))).bind fun M5 =>
    (gI 11 M5 v0 45).bind fun x6 =>
    if x6 ≤ (nI 100000) then
      (jv (v3 + v4)).bind fun y7 =>
      (gR 11 M5 v0 19).bind fun r8 =>
      (ldB M5 r8 y7).bind fun x9 =>
      if x9 < (nI 6) then
        (gR 11 M5 v0 39).bind fun r10 =>
        (gI 11 M5 v0 38).bind fun x11 =>
        (stI M5 r10 x11 v4).bind fun M12 =>
        (gR 11 M12 v0 40).bind fun r13 =>
        (gI 11 M12 v0 38).bind fun x14 =>
        (stI M12 r13 x14 (nI 0)).bind fun M15 =>
        (gR 11 M15 v0 41).bind fun r16 =>
        (gI 11 M15 v0 38).bind fun x17 =>
        (gR 11 M15 v0 22).bind fun r18 =>
        (ldI M15 r18 ((v3 + v4) + (nI 1))).bind fun x19 =>
        (stI M15 r16 x17 x19).bind fun M20 =>
        (gI 11 M20 v0 38).bind fun x21 =>
        (pI 11 M20 v0 38 (x21 + (nI 1))).bind fun M22 =>
        (gR 11 M22 v0 19).bind fun r23 =>
        (ldB M22 r23 y7).bind fun x24 =>
        if x24 = (nI 2) then
          j_X12_holds_174 k37 v0 v1 v2 v3 v4 y7 M22
        else
          (gR 11 M22 v0 19).bind fun r25 =>
          (ldB M22 r25 y7).bind fun x26 =>
          if x26 = (nI 3) then
            j_X12_holds_174 k37 v0 v1 v2 v3 v4 y7 M22
          else
            j_X12_holds_187 k37 v0 v1 v2 v3 v4 M22
      else
        jb2 (jiv 11 M5 v0 (f_X12_isAtom v0 v2 y7 M5)) fun x28 M27 =>
        jb2 (jiv 11 M27 v0 (f_X12_nextAsked v0 v1 v2 x28 M27)) fun x30 M29 =>
        j_X12_holds_190 k37 v0 v1 v2 v3 x30 M29
    else
      rt (-6 : Int32) M5
def l_X12_holds_37  : Nat → Nat → Int32 → Int32 → Int32 → Int32 → jM → jO Int32
  | 0 => fun _ _ _ _ _ _ => none
  | n + 1 => b_X12_holds_37  (l_X12_holds_37  n)
theorem tb_X12_holds_37 {G : jG} {d : Nat} (hd_ : 3 ≤ d)  {k37 : Nat → Int32 → Int32 → Int32 → Int32 → jM → jO Int32} (hk37 : ∀ (w0 : Nat) (w1 : Int32) (w2 : Int32) (w3 : Int32) (w4 : Int32) (M : jM) (b : Int32 × jM), k37 w0 w1 w2 w3 w4 M = some b → V G m_X12_holds d 37 [(0, .ref w0), (1, .int w1), (2, .int w2), (3, .int w3), (4, .int w4)] [] M (jQb cI b)) {v0 : Nat} {v1 : Int32} {v2 : Int32} {v3 : Int32} {v4 : Int32} {M : jM} {b : Int32 × jM} (h : b_X12_holds_37  k37 v0 v1 v2 v3 v4 M = some b) : V G m_X12_holds d 37 [(0, .ref v0), (1, .int v1), (2, .int v2), (3, .int v3), (4, .int v4)] [] M (jQb cI b) := by
  unfold b_X12_holds_37 at h
  refine v_iload dX12_holds_37 4 rfl ?_
  refine x_if_lt (tgt := 193) dX12_holds_39 (by decide) h (fun h => ?_) (fun h => ?_)
  · refine v_aload_n dX12_holds_193 rfl 0 rfl ?_
    refine v_aload_n dX12_holds_194 rfl 0 rfl ?_
    refine x_gI dX12_holds_195 kf_X12_330 rfl h (fun x1 h => ?_)
    refine x_pI dX12_holds_198 kf_X12_341 rfl (fun q => Bool.noConfusion q) h (fun M2 h => ?_)
    refine v_aload_n dX12_holds_201 rfl 0 rfl ?_
    refine x_gI dX12_holds_202 kf_X12_326 rfl h (fun x3 h => ?_)
    refine x_if_eq (tgt := 212) dX12_holds_205 (by decide) h (fun h => ?_) (fun h => ?_)
    · refine v_iconst dX12_holds_212 ic_0 ?_
      exact x_iret dX12_holds_213 rfl h
    · refine v_iconst dX12_holds_208 ic_1 ?_
      refine v_goto (tgt := 213) dX12_holds_209 (by decide) ?_
      exact x_iret dX12_holds_213 rfl h
  · refine v_aload_n dX12_holds_42 rfl 0 rfl ?_
    refine v_dup dX12_holds_43 rfl ?_
    refine x_gI dX12_holds_44 kf_X12_330 rfl h (fun x4 h => ?_)
    refine v_iconst dX12_holds_47 ic_1 ?_
    refine v_iadd dX12_holds_48 ?_
    refine x_pI dX12_holds_49 kf_X12_330 rfl (fun q => Bool.noConfusion q) h (fun M5 h => ?_)
    refine v_aload_n dX12_holds_52 rfl 0 rfl ?_
    refine x_gI dX12_holds_53 kf_X12_330 rfl h (fun x6 h => ?_)
    refine v_ldcw (v := (nI 100000)) dX12_holds_56 (jw6 192 (by decide +kernel) (by decide +kernel)) ?_
    refine x_ic_le (tgt := 65) dX12_holds_59 (by decide) h (fun h => ?_) (fun h => ?_)
    · refine v_iload_n dX12_holds_65 rfl 3 rfl ?_
      refine v_iload dX12_holds_66 4 rfl ?_
      refine v_iadd dX12_holds_68 ?_
      refine x_jvI h (fun y7 h => ?_)
      refine v_istore (ls2 := [(5, .int y7), (0, .ref v0), (1, .int v1), (2, .int v2), (3, .int v3), (4, .int v4)]) dX12_holds_69 (by decide) rfl ?_
      refine v_aload_n dX12_holds_71 rfl 1 rfl ?_
      refine x_gR dX12_holds_72 kf_X12_40 rfl h (fun r8 h => ?_)
      refine v_iload dX12_holds_75 0 rfl ?_
      refine x_ldB dX12_holds_77 h (fun x9 h => ?_)
      refine v_bipush dX12_holds_78 bp_6 ?_
      refine x_ic_lt (tgt := 101) dX12_holds_80 (by decide) h (fun h => ?_) (fun h => ?_)
      · refine v_aload_n dX12_holds_101 rfl 1 rfl ?_
        refine x_gR dX12_holds_102 kf_X12_77 rfl h (fun r10 h => ?_)
        refine v_aload_n dX12_holds_105 rfl 1 rfl ?_
        refine x_gI dX12_holds_106 kf_X12_308 rfl h (fun x11 h => ?_)
        refine v_iload dX12_holds_109 5 rfl ?_
        refine x_stI dX12_holds_111 h (fun M12 h => ?_)
        refine v_aload_n dX12_holds_112 rfl 1 rfl ?_
        refine x_gR dX12_holds_113 kf_X12_80 rfl h (fun r13 h => ?_)
        refine v_aload_n dX12_holds_116 rfl 1 rfl ?_
        refine x_gI dX12_holds_117 kf_X12_308 rfl h (fun x14 h => ?_)
        refine v_iconst dX12_holds_120 ic_0 ?_
        refine x_stI dX12_holds_121 h (fun M15 h => ?_)
        refine v_aload_n dX12_holds_122 rfl 1 rfl ?_
        refine x_gR dX12_holds_123 kf_X12_83 rfl h (fun r16 h => ?_)
        refine v_aload_n dX12_holds_126 rfl 1 rfl ?_
        refine x_gI dX12_holds_127 kf_X12_308 rfl h (fun x17 h => ?_)
        refine v_aload_n dX12_holds_130 rfl 1 rfl ?_
        refine x_gR dX12_holds_131 kf_X12_50 rfl h (fun r18 h => ?_)
        refine v_iload_n dX12_holds_134 rfl 4 rfl ?_
        refine v_iload dX12_holds_135 5 rfl ?_
        refine v_iadd dX12_holds_137 ?_
        refine v_iconst dX12_holds_138 ic_1 ?_
        refine v_iadd dX12_holds_139 ?_
        refine x_ldI dX12_holds_140 h (fun x19 h => ?_)
        refine x_stI dX12_holds_141 h (fun M20 h => ?_)
        refine v_aload_n dX12_holds_142 rfl 1 rfl ?_
        refine v_dup dX12_holds_143 rfl ?_
        refine x_gI dX12_holds_144 kf_X12_308 rfl h (fun x21 h => ?_)
        refine v_iconst dX12_holds_147 ic_1 ?_
        refine v_iadd dX12_holds_148 ?_
        refine x_pI dX12_holds_149 kf_X12_308 rfl (fun q => Bool.noConfusion q) h (fun M22 h => ?_)
        refine v_aload_n dX12_holds_152 rfl 1 rfl ?_
        refine x_gR dX12_holds_153 kf_X12_40 rfl h (fun r23 h => ?_)
        refine v_iload dX12_holds_156 0 rfl ?_
        refine x_ldB dX12_holds_158 h (fun x24 h => ?_)
        refine v_iconst dX12_holds_159 ic_2 ?_
        refine x_ic_eq (tgt := 174) dX12_holds_160 (by decide) h (fun h => ?_) (fun h => ?_)
        · exact V.pick [1, 2, 3, 4, 5, 0] rfl (t_X12_holds_174 hd_ hk37 h)
        · refine v_aload_n dX12_holds_163 rfl 1 rfl ?_
          refine x_gR dX12_holds_164 kf_X12_40 rfl h (fun r25 h => ?_)
          refine v_iload dX12_holds_167 0 rfl ?_
          refine x_ldB dX12_holds_169 h (fun x26 h => ?_)
          refine v_iconst dX12_holds_170 ic_3 ?_
          refine x_ic_ne (tgt := 187) dX12_holds_171 (by decide) h (fun h => ?_) (fun h => ?_)
          · exact V.pick [1, 2, 3, 4, 5, 0] rfl (t_X12_holds_174 hd_ hk37 h)
          · exact V.pick [1, 2, 3, 4, 5] rfl (t_X12_holds_187 hd_ hk37 h)
      · refine v_aload_n dX12_holds_83 rfl 1 rfl ?_
        refine v_iload_n dX12_holds_84 rfl 2 rfl ?_
        refine v_iload_n dX12_holds_85 rfl 3 rfl ?_
        refine v_aload_n dX12_holds_86 rfl 1 rfl ?_
        refine v_iload_n dX12_holds_87 rfl 3 rfl ?_
        refine v_iload dX12_holds_88 0 rfl ?_
        refine x_inv (cv := cI) (As := [.int v2, .int y7]) (rest := [.int v2, .int v1, .ref v0]) (ls2 := [(0, .ref v0), (1, .int v2), (2, .int y7)]) (ci := 11) (by omega) dX12_holds_90 ke_X12_isAtom kv_X12_334 rfl rfl (by decide) (Nat.le_of_ble_eq_true rfl) rfl rfl rfl rfl h (fun _ hq => s_X12_isAtom (by omega) hq) (fun x28 M27 h => ?_)
        refine x_inv (cv := cI) (As := [.int v1, .int v2, .int x28]) (rest := []) (ls2 := [(0, .ref v0), (1, .int v1), (2, .int v2), (3, .int x28)]) (ci := 11) (by omega) dX12_holds_93 ke_X12_nextAsked kv_X12_337 rfl rfl (by decide) (Nat.le_of_ble_eq_true rfl) rfl rfl rfl rfl h (fun _ hq => s_X12_nextAsked (by omega) hq) (fun x30 M29 h => ?_)
        refine v_istore (ls2 := [(4, .int x30), (5, .int y7), (0, .ref v0), (1, .int v1), (2, .int v2), (3, .int v3)]) dX12_holds_96 (by decide) rfl ?_
        refine v_goto (tgt := 190) dX12_holds_98 (by decide) ?_
        exact V.pick [2, 3, 4, 5, 0] rfl (t_X12_holds_190 hd_ hk37 h)
    · refine v_bipush dX12_holds_62 bp_m6 ?_
      exact x_iret dX12_holds_64 rfl h
theorem t_X12_holds_37 {G : jG} {d : Nat} (hd_ : 3 ≤ d)  : ∀ (n : Nat) (v0 : Nat) (v1 : Int32) (v2 : Int32) (v3 : Int32) (v4 : Int32) (M : jM) (b : Int32 × jM), l_X12_holds_37  n v0 v1 v2 v3 v4 M = some b → V G m_X12_holds d 37 [(0, .ref v0), (1, .int v1), (2, .int v2), (3, .int v3), (4, .int v4)] [] M (jQb cI b) := by
  intro n
  induction n with
  | zero => intro v0 v1 v2 v3 v4 M b h; exact nomatch (show (none : jO Int32) = some b from h)
  | succ n ih => intro v0 v1 v2 v3 v4 M b h; exact tb_X12_holds_37 hd_  ih h
def f_X12_holds (v0 : Nat) (v1 : Int32) (v2 : Int32) (M : jM) : jO Int32 :=
  jb2 (jiv 11 M v0 (f_X12_noSentence v0 v1 M)) fun x2 M1 =>
  if x2 = 0 then
    jb2 (jiv 11 M1 v0 (f_X12_noWorld v0 v2 M1)) fun x4 M3 =>
    if x4 = 0 then
      (jv ((nI 600) * v1)).bind fun y5 =>
      (pI 11 M3 v0 45 (nI 0)).bind fun M6 =>
      (pI 11 M6 v0 38 (nI 0)).bind fun M7 =>
      l_X12_holds_37 jF0 v0 v1 v2 y5 (nI 0) M7
    else
      rt (-1 : Int32) M3
  else
    rt (-1 : Int32) M1
theorem s_X12_holds {G : jG} {d : Nat} (hd_ : 3 ≤ d) {v0 : Nat} {v1 : Int32} {v2 : Int32} {M : jM} {b : Int32 × jM} (h : f_X12_holds  v0 v1 v2 M = some b) : V G m_X12_holds d 0 [(0, .ref v0), (1, .int v1), (2, .int v2)] [] M (jQb cI b) := by
  unfold f_X12_holds at h
  refine v_aload_n dX12_holds_0 rfl 0 rfl ?_
  refine v_iload_n dX12_holds_1 rfl 1 rfl ?_
  refine x_inv (cv := cI) (As := [.int v1]) (rest := []) (ls2 := [(0, .ref v0), (1, .int v1)]) (ci := 11) (by omega) dX12_holds_2 ke_X12_noSentence kv_X12_317 rfl rfl (by decide) (Nat.le_of_ble_eq_true rfl) rfl rfl rfl rfl h (fun _ hq => s_X12_noSentence (by omega) hq) (fun x2 M1 h => ?_)
  refine x_if_ne (tgt := 16) dX12_holds_5 (by decide) h (fun h => ?_) (fun h => ?_)
  · refine v_aload_n dX12_holds_8 rfl 0 rfl ?_
    refine v_iload_n dX12_holds_9 rfl 2 rfl ?_
    refine x_inv (cv := cI) (As := [.int v2]) (rest := []) (ls2 := [(0, .ref v0), (1, .int v2)]) (ci := 11) (by omega) dX12_holds_10 ke_X12_noWorld kv_X12_141 rfl rfl (by decide) (Nat.le_of_ble_eq_true rfl) rfl rfl rfl rfl h (fun _ hq => s_X12_noWorld (by omega) hq) (fun x4 M3 h => ?_)
    refine x_if_eq (tgt := 18) dX12_holds_13 (by decide) h (fun h => ?_) (fun h => ?_)
    · refine v_sipush dX12_holds_18 sp_600 ?_
      refine v_iload_n dX12_holds_21 rfl 1 rfl ?_
      refine v_imul dX12_holds_22 ?_
      refine x_jvI h (fun y5 h => ?_)
      refine v_istore_n (ls2 := [(3, .int y5), (0, .ref v0), (1, .int v1), (2, .int v2)]) dX12_holds_23 rfl (by decide) rfl ?_
      refine v_aload_n dX12_holds_24 rfl 1 rfl ?_
      refine v_iconst dX12_holds_25 ic_0 ?_
      refine x_pI dX12_holds_26 kf_X12_330 rfl (fun q => Bool.noConfusion q) h (fun M6 h => ?_)
      refine v_aload_n dX12_holds_29 rfl 1 rfl ?_
      refine v_iconst dX12_holds_30 ic_0 ?_
      refine x_pI dX12_holds_31 kf_X12_308 rfl (fun q => Bool.noConfusion q) h (fun M7 h => ?_)
      refine v_iconst dX12_holds_34 ic_0 ?_
      refine v_istore (ls2 := [(4, .int (nI 0)), (3, .int y5), (0, .ref v0), (1, .int v1), (2, .int v2)]) dX12_holds_35 (by decide) rfl ?_
      exact V.pick [2, 3, 4, 1, 0] rfl (t_X12_holds_37 hd_ _ _ _ _ _ _ _ _ h)
    · refine v_iconst dX12_holds_16 ic_m1 ?_
      exact x_iret dX12_holds_17 rfl h
  · refine v_iconst dX12_holds_16 ic_m1 ?_
    exact x_iret dX12_holds_17 rfl h
