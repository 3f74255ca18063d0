def j_X5_partReplies_125 (rec_ : Nat → Nat → Int32 → jM → jO Unit) (k28 : Nat → Nat → Int32 → Int32 → Int32 → Int32 → Int32 → Int32 → jM → jO Unit) (v0 : Nat) (v1 : Nat) (v2 : Int32) (v3 : Int32) (v4 : Int32) (v5 : Int32) (v6 : Int32) (v7 : Int32) (M : jM) : jO Unit :=
  k28 v0 v1 v2 v3 v4 v5 v6 (v7 + (nI 1)) M
theorem t_X5_partReplies_125 {G : jG} {d : Nat} {D_ : Nat} {rec_ : Nat → Nat → Int32 → jM → jO Unit} (hrec_ : ∀ d2, D_ ≤ d2 → ∀ (u0 : Nat) (u1 : Nat) (u2 : Int32) (M : jM) b2, rec_ u0 u1 u2 M = some b2 → V G m_X5_partAlike d2 0 [(0, .ref u0), (1, .ref u1), (2, .int u2)] [] M (jQb cU b2)) (hD_ : 5 ≤ D_) (hd_ : D_ + 1 ≤ d) {k28 : Nat → Nat → Int32 → Int32 → Int32 → Int32 → Int32 → Int32 → jM → jO Unit} (hk28 : ∀ (w0 : Nat) (w1 : Nat) (w2 : Int32) (w3 : Int32) (w4 : Int32) (w5 : Int32) (w6 : Int32) (w7 : Int32) (M : jM) (b : Unit × jM), k28 w0 w1 w2 w3 w4 w5 w6 w7 M = some b → V G m_X5_partReplies d 28 [(0, .ref w0), (1, .ref w1), (2, .int w2), (3, .int w3), (4, .int w4), (5, .int w5), (6, .int w6), (7, .int w7)] [] M (jQb cU b)) {v0 : Nat} {v1 : Nat} {v2 : Int32} {v3 : Int32} {v4 : Int32} {v5 : Int32} {v6 : Int32} {v7 : Int32} {M : jM} {b : Unit × jM} (h : j_X5_partReplies_125 rec_ k28 v0 v1 v2 v3 v4 v5 v6 v7 M = some b) : V G m_X5_partReplies d 125 [(0, .ref v0), (1, .ref v1), (2, .int v2), (3, .int v3), (4, .int v4), (5, .int v5), (6, .int v6), (7, .int v7)] [] M (jQb cU b) := by
  unfold j_X5_partReplies_125 at h
  refine v_iincC (ls2 := [(7, .int (v7 + (nI 1))), (0, .ref v0), (1, .ref v1), (2, .int v2), (3, .int v3), (4, .int v4), (5, .int v5), (6, .int v6)]) dX5_partReplies_125 ic_1 7 rfl (by decide) rfl ?_
  refine v_goto (tgt := 28) dX5_partReplies_128 (by decide) ?_
  exact V.pick [1, 2, 3, 4, 5, 6, 7, 0] rfl (hk28 _ _ _ _ _ _ _ _ _ _ h)
def j_X5_partReplies_100 (rec_ : Nat → Nat → Int32 → jM → jO Unit) (k28 : Nat → Nat → Int32 → Int32 → Int32 → Int32 → Int32 → Int32 → jM → jO Unit) (v0 : Nat) (v1 : Nat) (v2 : Int32) (v3 : Int32) (v4 : Int32) (v5 : Int32) (v6 : Int32) (v7 : Int32) (v8 : Int32) (M : jM) : jO Unit :=
  jb2 (jiv 4 M v1 (f_X4_standsEarlier v1 (v4 + (nI 1)) v8 M)) fun x2 M1 =>
  if x2 = 0 then
    j_X5_partReplies_125 rec_ k28 v0 v1 v2 v3 v4 (v5 + (nI 1)) v6 v7 M1
  else
    jb2 (jiv 4 M1 v1 (f_X4_cutTo v1 v8 M1)) fun _ M3 =>
    j_X5_partReplies_125 rec_ k28 v0 v1 v2 v3 v4 v5 v6 v7 M3
theorem t_X5_partReplies_100 {G : jG} {d : Nat} {D_ : Nat} {rec_ : Nat → Nat → Int32 → jM → jO Unit} (hrec_ : ∀ d2, D_ ≤ d2 → ∀ (u0 : Nat) (u1 : Nat) (u2 : Int32) (M : jM) b2, rec_ u0 u1 u2 M = some b2 → V G m_X5_partAlike d2 0 [(0, .ref u0), (1, .ref u1), (2, .int u2)] [] M (jQb cU b2)) (hD_ : 5 ≤ D_) (hd_ : D_ + 1 ≤ d) {k28 : Nat → Nat → Int32 → Int32 → Int32 → Int32 → Int32 → Int32 → jM → jO Unit} (hk28 : ∀ (w0 : Nat) (w1 : Nat) (w2 : Int32) (w3 : Int32) (w4 : Int32) (w5 : Int32) (w6 : Int32) (w7 : Int32) (M : jM) (b : Unit × jM), k28 w0 w1 w2 w3 w4 w5 w6 w7 M = some b → V G m_X5_partReplies d 28 [(0, .ref w0), (1, .ref w1), (2, .int w2), (3, .int w3), (4, .int w4), (5, .int w5), (6, .int w6), (7, .int w7)] [] M (jQb cU b)) {v0 : Nat} {v1 : Nat} {v2 : Int32} {v3 : Int32} {v4 : Int32} {v5 : Int32} {v6 : Int32} {v7 : Int32} {v8 : Int32} {M : jM} {b : Unit × jM} (h : j_X5_partReplies_100 rec_ k28 v0 v1 v2 v3 v4 v5 v6 v7 v8 M = some b) : V G m_X5_partReplies d 100 [(0, .ref v0), (1, .ref v1), (2, .int v2), (3, .int v3), (4, .int v4), (5, .int v5), (6, .int v6), (7, .int v7), (8, .int v8)] [] M (jQb cU b) := by
  unfold j_X5_partReplies_100 at h
  refine v_aload_n dX5_partReplies_100 rfl 1 rfl ?_
  refine v_iload dX5_partReplies_101 4 rfl ?_
  refine v_iconst dX5_partReplies_103 ic_1 ?_
  refine v_iadd dX5_partReplies_104 ?_
  refine v_iload dX5_partReplies_105 8 rfl ?_
  refine x_inv (cv := cI) (As := [.int (v4 + (nI 1)), .int v8]) (rest := []) (ls2 := [(0, .ref v1), (1, .int (v4 + (nI 1))), (2, .int v8)]) (ci := 4) (by omega) dX5_partReplies_107 ke_X4_standsEarlier kv_X5_67 rfl rfl (by decide) (Nat.le_of_ble_eq_true rfl) rfl rfl rfl rfl h (fun _ hq => s_X4_standsEarlier (by omega) hq) (fun x2 M1 h => ?_)
  refine x_if_eq (tgt := 122) dX5_partReplies_110 (by decide) h (fun h => ?_) (fun h => ?_)
  · refine v_iincC (ls2 := [(5, .int (v5 + (nI 1))), (0, .ref v0), (1, .ref v1), (2, .int v2), (3, .int v3), (4, .int v4), (6, .int v6), (7, .int v7), (8, .int v8)]) dX5_partReplies_122 ic_1 5 rfl (by decide) rfl ?_
    exact V.pick [1, 2, 3, 4, 5, 0, 6, 7] rfl (t_X5_partReplies_125 hrec_ hD_ hd_ hk28 h)
  · refine v_aload_n dX5_partReplies_113 rfl 1 rfl ?_
    refine v_iload dX5_partReplies_114 8 rfl ?_
    refine x_inv (cv := cU) (As := [.int v8]) (rest := []) (ls2 := [(0, .ref v1), (1, .int v8)]) (ci := 4) (by omega) dX5_partReplies_116 ke_X4_cutTo kv_X5_71 rfl rfl (by decide) (Nat.le_of_ble_eq_true rfl) rfl rfl rfl rfl h (fun _ hq => s_X4_cutTo (by omega) hq) (fun _ M3 h => ?_)
    refine v_goto (tgt := 125) dX5_partReplies_119 (by decide) ?_
    exact V.pick [0, 1, 2, 3, 4, 5, 6, 7] rfl (t_X5_partReplies_125 hrec_ hD_ hd_ hk28 h)
def j_X5_partReplies_91 (rec_ : Nat → Nat → Int32 → jM → jO Unit) (k28 : Nat → Nat → Int32 → Int32 → Int32 → Int32 → Int32 → Int32 → jM → jO Unit) (v0 : Nat) (v1 : Nat) (v2 : Int32) (v3 : Int32) (v4 : Int32) (v5 : Int32) (v6 : Int32) (v7 : Int32) (v8 : Int32) (v10 : Int32) (M : jM) : jO Unit :=
  if v10 = 0 then
    j_X5_partReplies_100 rec_ k28 v0 v1 v2 v3 v4 v5 v6 v7 v8 M
  else
    jb2 (jiv 3 M v0 (f_X3_shorten v0 M)) fun _ M1 =>
    j_X5_partReplies_100 rec_ k28 v0 v1 v2 v3 v4 v5 v6 v7 v8 M1
theorem t_X5_partReplies_91 {G : jG} {d : Nat} {D_ : Nat} {rec_ : Nat → Nat → Int32 → jM → jO Unit} (hrec_ : ∀ d2, D_ ≤ d2 → ∀ (u0 : Nat) (u1 : Nat) (u2 : Int32) (M : jM) b2, rec_ u0 u1 u2 M = some b2 → V G m_X5_partAlike d2 0 [(0, .ref u0), (1, .ref u1), (2, .int u2)] [] M (jQb cU b2)) (hD_ : 5 ≤ D_) (hd_ : D_ + 1 ≤ d) {k28 : Nat → Nat → Int32 → Int32 → Int32 → Int32 → Int32 → Int32 → jM → jO Unit} (hk28 : ∀ (w0 : Nat) (w1 : Nat) (w2 : Int32) (w3 : Int32) (w4 : Int32) (w5 : Int32) (w6 : Int32) (w7 : Int32) (M : jM) (b : Unit × jM), k28 w0 w1 w2 w3 w4 w5 w6 w7 M = some b → V G m_X5_partReplies d 28 [(0, .ref w0), (1, .ref w1), (2, .int w2), (3, .int w3), (4, .int w4), (5, .int w5), (6, .int w6), (7, .int w7)] [] M (jQb cU b)) {v0 : Nat} {v1 : Nat} {v2 : Int32} {v3 : Int32} {v4 : Int32} {v5 : Int32} {v6 : Int32} {v7 : Int32} {v8 : Int32} {v10 : Int32} {M : jM} {b : Unit × jM} (h : j_X5_partReplies_91 rec_ k28 v0 v1 v2 v3 v4 v5 v6 v7 v8 v10 M = some b) : V G m_X5_partReplies d 91 [(0, .ref v0), (1, .ref v1), (2, .int v2), (3, .int v3), (4, .int v4), (5, .int v5), (6, .int v6), (7, .int v7), (8, .int v8), (10, .int v10)] [] M (jQb cU b) := by
  unfold j_X5_partReplies_91 at h
  refine v_iload dX5_partReplies_91 9 rfl ?_
  refine x_if_eq (tgt := 100) dX5_partReplies_93 (by decide) h (fun h => ?_) (fun h => ?_)
  · exact V.pick [0, 1, 2, 3, 4, 5, 6, 7, 8] rfl (t_X5_partReplies_100 hrec_ hD_ hd_ hk28 h)
  · refine v_aload_n dX5_partReplies_96 rfl 0 rfl ?_
    refine x_inv (cv := cU) (As := []) (rest := []) (ls2 := [(0, .ref v0)]) (ci := 3) (by omega) dX5_partReplies_97 ke_X3_shorten kv_X5_64 rfl rfl (by decide) (Nat.le_of_ble_eq_true rfl) rfl rfl rfl rfl h (fun _ hq => s_X3_shorten (by omega) hq) (fun _ M1 h => ?_)
    exact V.pick [0, 1, 2, 3, 4, 5, 6, 7, 8] rfl (t_X5_partReplies_100 hrec_ hD_ hd_ hk28 h)
def j_X5_partReplies_80 (rec_ : Nat → Nat → Int32 → jM → jO Unit) (k28 : Nat → Nat → Int32 → Int32 → Int32 → Int32 → Int32 → Int32 → jM → jO Unit) (v0 : Nat) (v1 : Nat) (v2 : Int32) (v3 : Int32) (v4 : Int32) (v5 : Int32) (v6 : Int32) (v7 : Int32) (v8 : Int32) (v10 : Int32) (M : jM) : jO Unit :=
  if v10 = 0 then
    j_X5_partReplies_91 rec_ k28 v0 v1 v2 v3 v4 v5 v6 v7 v8 v10 M
  else
    jb2 (f_X5_partByAtom v0 v1 v2 M) fun _ M1 =>
    j_X5_partReplies_91 rec_ k28 v0 v1 v2 v3 v4 v5 v6 v7 v8 v10 M1
theorem t_X5_partReplies_80 {G : jG} {d : Nat} {D_ : Nat} {rec_ : Nat → Nat → Int32 → jM → jO Unit} (hrec_ : ∀ d2, D_ ≤ d2 → ∀ (u0 : Nat) (u1 : Nat) (u2 : Int32) (M : jM) b2, rec_ u0 u1 u2 M = some b2 → V G m_X5_partAlike d2 0 [(0, .ref u0), (1, .ref u1), (2, .int u2)] [] M (jQb cU b2)) (hD_ : 5 ≤ D_) (hd_ : D_ + 1 ≤ d) {k28 : Nat → Nat → Int32 → Int32 → Int32 → Int32 → Int32 → Int32 → jM → jO Unit} (hk28 : ∀ (w0 : Nat) (w1 : Nat) (w2 : Int32) (w3 : Int32) (w4 : Int32) (w5 : Int32) (w6 : Int32) (w7 : Int32) (M : jM) (b : Unit × jM), k28 w0 w1 w2 w3 w4 w5 w6 w7 M = some b → V G m_X5_partReplies d 28 [(0, .ref w0), (1, .ref w1), (2, .int w2), (3, .int w3), (4, .int w4), (5, .int w5), (6, .int w6), (7, .int w7)] [] M (jQb cU b)) {v0 : Nat} {v1 : Nat} {v2 : Int32} {v3 : Int32} {v4 : Int32} {v5 : Int32} {v6 : Int32} {v7 : Int32} {v8 : Int32} {v10 : Int32} {M : jM} {b : Unit × jM} (h : j_X5_partReplies_80 rec_ k28 v0 v1 v2 v3 v4 v5 v6 v7 v8 v10 M = some b) : V G m_X5_partReplies d 80 [(0, .ref v0), (1, .ref v1), (2, .int v2), (3, .int v3), (4, .int v4), (5, .int v5), (6, .int v6), (7, .int v7), (8, .int v8), (10, .int v10)] [] M (jQb cU b) := by
  unfold j_X5_partReplies_80 at h
  refine v_iload dX5_partReplies_80 9 rfl ?_
  refine x_if_eq (tgt := 91) dX5_partReplies_82 (by decide) h (fun h => ?_) (fun h => ?_)
  · exact t_X5_partReplies_91 hrec_ hD_ hd_ hk28 h
  · refine v_aload_n dX5_partReplies_85 rfl 0 rfl ?_
    refine v_aload_n dX5_partReplies_86 rfl 1 rfl ?_
    refine v_iload_n dX5_partReplies_87 rfl 2 rfl ?_
    refine x_invs (cv := cU) (As := [.ref v0, .ref v1, .int v2]) (rest := []) (ls2 := [(0, .ref v0), (1, .ref v1), (2, .int v2)]) (by omega) dX5_partReplies_88 ke_X5_partByAtom ks_X5_61 (Nat.le_of_ble_eq_true rfl) rfl rfl rfl rfl h (fun _ hq => s_X5_partByAtom (by omega) hq) (fun _ M1 h => ?_)
    exact t_X5_partReplies_91 hrec_ hD_ hd_ hk28 h
def b_X5_partReplies_28 (rec_ : Nat → Nat → Int32 → jM → jO Unit)  (k28 : Nat → Nat → Int32 → Int32 → Int32 → Int32 → Int32 → Int32 → jM → jO Unit) (v0 : Nat) (v1 : Nat) (v2 : Int32) (v3 : Int32) (v4 : Int32) (v5 : Int32) (v6 : Int32) (v7 : Int32) (M : jM) : jO Unit :=
  if v6 ≤ v7 then
    if v5 = (nI 1) then
      jb2 (jiv 4 M v1 (f_X4_remove v1 v4 M)) fun _ M1 =>
      rt () M1
    else
      jb2 (jiv 4 M v1 (f_X4_close v1 v4 M)) fun _ M2 =>
      rt () M2
  else
    jb2 (jiv 4 M v1 (f_X4_count v1 M)) fun x4 M3 =>
    jb2 (jiv 3 M3 v0 (f_X3_staysAlike v0 v2 v3 v7 M3)) fun x6 M5 =>
    jb2 (jiv 3 M5 v0 (f_X3_lengthen v0 v2 v3 v7 M5)) fun x8 M7 =>
    if x8 = 0 then
      j_X5_partReplies_80 rec_ k28 v0 v1 v2 v3 v4 v5 v6 v7 x4 x8 M7
    else
      if x6 = 0 then
        j_X5_partReplies_80 rec_ k28 v0 v1 v2 v3 v4 v5 v6 v7 x4 x8 M7
      else
        jb2 (rec_ v0 v1 v2 M7) fun _ M9 =>
        j_X5_partReplies_91 rec_ k28 v0 v1 v2 v3 v4 v5 v6 v7 x4 x8 M9
def l_X5_partReplies_28 (rec_ : Nat → Nat → Int32 → jM → jO Unit)  : Nat → Nat → Nat → Int32 → Int32 → Int32 → Int32 → Int32 → Int32 → jM → jO Unit
  | 0 => fun _ _ _ _ _ _ _ _ _ => none
  | n + 1 => b_X5_partReplies_28 rec_ (l_X5_partReplies_28 rec_ n)
theorem tb_X5_partReplies_28 {G : jG} {d : Nat} {D_ : Nat} {rec_ : Nat → Nat → Int32 → jM → jO Unit} (hrec_ : ∀ d2, D_ ≤ d2 → ∀ (u0 : Nat) (u1 : Nat) (u2 : Int32) (M : jM) b2, rec_ u0 u1 u2 M = some b2 → V G m_X5_partAlike d2 0 [(0, .ref u0), (1, .ref u1), (2, .int u2)] [] M (jQb cU b2)) (hD_ : 5 ≤ D_) (hd_ : D_ + 1 ≤ d)  {k28 : Nat → Nat → Int32 → Int32 → Int32 → Int32 → Int32 → Int32 → jM → jO Unit} (hk28 : ∀ (w0 : Nat) (w1 : Nat) (w2 : Int32) (w3 : Int32) (w4 : Int32) (w5 : Int32) (w6 : Int32) (w7 : Int32) (M : jM) (b : Unit × jM), k28 w0 w1 w2 w3 w4 w5 w6 w7 M = some b → V G m_X5_partReplies d 28 [(0, .ref w0), (1, .ref w1), (2, .int w2), (3, .int w3), (4, .int w4), (5, .int w5), (6, .int w6), (7, .int w7)] [] M (jQb cU b)) {v0 : Nat} {v1 : Nat} {v2 : Int32} {v3 : Int32} {v4 : Int32} {v5 : Int32} {v6 : Int32} {v7 : Int32} {M : jM} {b : Unit × jM} (h : b_X5_partReplies_28 rec_ k28 v0 v1 v2 v3 v4 v5 v6 v7 M = some b) : V G m_X5_partReplies d 28 [(0, .ref v0), (1, .ref v1), (2, .int v2), (3, .int v3), (4, .int v4), (5, .int v5), (6, .int v6), (7, .int v7)] [] M (jQb cU b) := by
  unfold b_X5_partReplies_28 at h
  refine v_iload dX5_partReplies_28 7 rfl ?_
  refine v_iload dX5_partReplies_30 6 rfl ?_
  refine x_ic_ge (tgt := 131) dX5_partReplies_32 (by decide) h (fun h => ?_) (fun h => ?_)
  · refine v_iload dX5_partReplies_131 5 rfl ?_
    refine v_iconst dX5_partReplies_133 ic_1 ?_
    refine x_ic_ne (tgt := 146) dX5_partReplies_134 (by decide) h (fun h => ?_) (fun h => ?_)
    · refine v_aload_n dX5_partReplies_137 rfl 1 rfl ?_
      refine v_iload dX5_partReplies_138 4 rfl ?_
      refine x_inv (cv := cU) (As := [.int v4]) (rest := []) (ls2 := [(0, .ref v1), (1, .int v4)]) (ci := 4) (by omega) dX5_partReplies_140 ke_X4_remove kv_X5_74 rfl rfl (by decide) (Nat.le_of_ble_eq_true rfl) rfl rfl rfl rfl h (fun _ hq => s_X4_remove (by omega) hq) (fun _ M1 h => ?_)
      refine v_goto (tgt := 152) dX5_partReplies_143 (by decide) ?_
      exact x_vret dX5_partReplies_152 rfl h
    · refine v_aload_n dX5_partReplies_146 rfl 1 rfl ?_
      refine v_iload dX5_partReplies_147 4 rfl ?_
      refine x_inv (cv := cU) (As := [.int v4]) (rest := []) (ls2 := [(0, .ref v1), (1, .int v4)]) (ci := 4) (by omega) dX5_partReplies_149 ke_X4_close kv_X5_37 rfl rfl (by decide) (Nat.le_of_ble_eq_true rfl) rfl rfl rfl rfl h (fun _ hq => s_X4_close (by omega) hq) (fun _ M2 h => ?_)
      exact x_vret dX5_partReplies_152 rfl h
  · refine v_aload_n dX5_partReplies_35 rfl 1 rfl ?_
    refine x_inv (cv := cI) (As := []) (rest := []) (ls2 := [(0, .ref v1)]) (ci := 4) (by omega) dX5_partReplies_36 ke_X4_count kv_X5_19 rfl rfl (by decide) (Nat.le_of_ble_eq_true rfl) rfl rfl rfl rfl h (fun _ hq => s_X4_count (by omega) hq) (fun x4 M3 h => ?_)
    refine v_istore (ls2 := [(8, .int x4), (0, .ref v0), (1, .ref v1), (2, .int v2), (3, .int v3), (4, .int v4), (5, .int v5), (6, .int v6), (7, .int v7)]) dX5_partReplies_39 (by decide) rfl ?_
    refine v_aload_n dX5_partReplies_41 rfl 1 rfl ?_
    refine v_iload_n dX5_partReplies_42 rfl 3 rfl ?_
    refine v_iload_n dX5_partReplies_43 rfl 4 rfl ?_
    refine v_iload dX5_partReplies_44 8 rfl ?_
    refine x_inv (cv := cI) (As := [.int v2, .int v3, .int v7]) (rest := []) (ls2 := [(0, .ref v0), (1, .int v2), (2, .int v3), (3, .int v7)]) (ci := 3) (by omega) dX5_partReplies_46 ke_X3_staysAlike kv_X5_50 rfl rfl (by decide) (Nat.le_of_ble_eq_true rfl) rfl rfl rfl rfl h (fun _ hq => s_X3_staysAlike (by omega) hq) (fun x6 M5 h => ?_)
    refine v_istore (ls2 := [(9, .int x6), (8, .int x4), (0, .ref v0), (1, .ref v1), (2, .int v2), (3, .int v3), (4, .int v4), (5, .int v5), (6, .int v6), (7, .int v7)]) dX5_partReplies_49 (by decide) rfl ?_
    refine v_aload_n dX5_partReplies_51 rfl 2 rfl ?_
    refine v_iload_n dX5_partReplies_52 rfl 4 rfl ?_
    refine v_iload_n dX5_partReplies_53 rfl 5 rfl ?_
    refine v_iload dX5_partReplies_54 9 rfl ?_
    refine x_inv (cv := cI) (As := [.int v2, .int v3, .int v7]) (rest := []) (ls2 := [(0, .ref v0), (1, .int v2), (2, .int v3), (3, .int v7)]) (ci := 3) (by omega) dX5_partReplies_56 ke_X3_lengthen kv_X5_54 rfl rfl (by decide) (Nat.le_of_ble_eq_true rfl) rfl rfl rfl rfl h (fun _ hq => s_X3_lengthen (by omega) hq) (fun x8 M7 h => ?_)
    refine v_istore (ls2 := [(10, .int x8), (9, .int x6), (8, .int x4), (0, .ref v0), (1, .ref v1), (2, .int v2), (3, .int v3), (4, .int v4), (5, .int v5), (6, .int v6), (7, .int v7)]) dX5_partReplies_59 (by decide) rfl ?_
    refine v_iload dX5_partReplies_61 0 rfl ?_
    refine x_if_eq (tgt := 80) dX5_partReplies_63 (by decide) h (fun h => ?_) (fun h => ?_)
    · exact V.pick [3, 4, 5, 6, 7, 8, 9, 10, 2, 0] rfl (t_X5_partReplies_80 hrec_ hD_ hd_ hk28 h)
    · refine v_iload dX5_partReplies_66 1 rfl ?_
      refine x_if_eq (tgt := 80) dX5_partReplies_68 (by decide) h (fun h => ?_) (fun h => ?_)
      · exact V.pick [3, 4, 5, 6, 7, 8, 9, 10, 2, 0] rfl (t_X5_partReplies_80 hrec_ hD_ hd_ hk28 h)
      · refine v_aload_n dX5_partReplies_71 rfl 3 rfl ?_
        refine v_aload_n dX5_partReplies_72 rfl 4 rfl ?_
        refine v_iload_n dX5_partReplies_73 rfl 5 rfl ?_
        refine x_invs (cv := cU) (As := [.ref v0, .ref v1, .int v2]) (rest := []) (ls2 := [(0, .ref v0), (1, .ref v1), (2, .int v2)]) (by omega) dX5_partReplies_74 ke_X5_partAlike ks_X5_57 (Nat.le_of_ble_eq_true rfl) rfl rfl rfl rfl h (fun _ hq => hrec_ _ (by omega) _ _ _ _ _ hq) (fun _ M9 h => ?_)
        refine v_goto (tgt := 91) dX5_partReplies_77 (by decide) ?_
        exact V.pick [3, 4, 5, 6, 7, 8, 9, 10, 2, 0] rfl (t_X5_partReplies_91 hrec_ hD_ hd_ hk28 h)
theorem t_X5_partReplies_28 {G : jG} {d : Nat} {D_ : Nat} {rec_ : Nat → Nat → Int32 → jM → jO Unit} (hrec_ : ∀ d2, D_ ≤ d2 → ∀ (u0 : Nat) (u1 : Nat) (u2 : Int32) (M : jM) b2, rec_ u0 u1 u2 M = some b2 → V G m_X5_partAlike d2 0 [(0, .ref u0), (1, .ref u1), (2, .int u2)] [] M (jQb cU b2)) (hD_ : 5 ≤ D_) (hd_ : D_ + 1 ≤ d)  : ∀ (n : Nat) (v0 : Nat) (v1 : Nat) (v2 : Int32) (v3 : Int32) (v4 : Int32) (v5 : Int32) (v6 : Int32) (v7 : Int32) (M : jM) (b : Unit × jM), l_X5_partReplies_28 rec_ n v0 v1 v2 v3 v4 v5 v6 v7 M = some b → V G m_X5_partReplies d 28 [(0, .ref v0), (1, .ref v1), (2, .int v2), (3, .int v3), (4, .int v4), (5, .int v5), (6, .int v6), (7, .int v7)] [] M (jQb cU b) := by
  intro n
  induction n with
  | zero => intro v0 v1 v2 v3 v4 v5 v6 v7 M b h; exact nomatch (show (none : jO Unit) = some b from h)
  | succ n ih => intro v0 v1 v2 v3 v4 v5 v6 v7 M b h; exact tb_X5_partReplies_28 hrec_ hD_ hd_  ih h
def f_X5_partReplies (rec_ : Nat → Nat → Int32 → jM → jO Unit) (v0 : Nat) (v1 : Nat) (v2 : Int32) (v3 : Int32) (M : jM) : jO Unit :=
  jb2 (jiv 4 M v1 (f_X4_add v1 (nI 38) (nI 0) (nI 0) M)) fun x2 M1 =>
  jb2 (jiv 3 M1 v0 (f_X3_worldOn v0 ((nI 1) - v2) M1)) fun r4 M3 =>
  jb2 (jiv 8 M3 r4 (f_X9_size r4 M3)) fun x6 M5 =>
  l_X5_partReplies_28 rec_ jF0 v0 v1 v2 v3 x2 (nI 0) x6 (nI 0) M5
theorem s_X5_partReplies {G : jG} {d : Nat} {D_ : Nat} {rec_ : Nat → Nat → Int32 → jM → jO Unit} (hrec_ : ∀ d2, D_ ≤ d2 → ∀ (u0 : Nat) (u1 : Nat) (u2 : Int32) (M : jM) b2, rec_ u0 u1 u2 M = some b2 → V G m_X5_partAlike d2 0 [(0, .ref u0), (1, .ref u1), (2, .int u2)] [] M (jQb cU b2)) (hD_ : 5 ≤ D_) (hd_ : D_ + 1 ≤ d) {v0 : Nat} {v1 : Nat} {v2 : Int32} {v3 : Int32} {M : jM} {b : Unit × jM} (h : f_X5_partReplies rec_ v0 v1 v2 v3 M = some b) : V G m_X5_partReplies d 0 [(0, .ref v0), (1, .ref v1), (2, .int v2), (3, .int v3)] [] M (jQb cU b) := by
  unfold f_X5_partReplies at h
  refine v_aload_n dX5_partReplies_0 rfl 1 rfl ?_
  refine v_bipush dX5_partReplies_1 bp_38 ?_
  refine v_iconst dX5_partReplies_3 ic_0 ?_
  refine v_iconst dX5_partReplies_4 ic_0 ?_
  refine x_inv (cv := cI) (As := [.int (nI 38), .int (nI 0), .int (nI 0)]) (rest := []) (ls2 := [(0, .ref v1), (1, .int (nI 38)), (2, .int (nI 0)), (3, .int (nI 0))]) (ci := 4) (by omega) dX5_partReplies_5 ke_X4_add kv_X5_24 rfl rfl (by decide) (Nat.le_of_ble_eq_true rfl) rfl rfl rfl rfl h (fun _ hq => s_X4_add (by omega) hq) (fun x2 M1 h => ?_)
  refine v_istore (ls2 := [(4, .int x2), (0, .ref v0), (1, .ref v1), (2, .int v2), (3, .int v3)]) dX5_partReplies_8 (by decide) rfl ?_
  refine v_iconst dX5_partReplies_10 ic_0 ?_
  refine v_istore (ls2 := [(5, .int (nI 0)), (4, .int x2), (0, .ref v0), (1, .ref v1), (2, .int v2), (3, .int v3)]) dX5_partReplies_11 (by decide) rfl ?_
  refine v_aload_n dX5_partReplies_13 rfl 2 rfl ?_
  refine v_iconst dX5_partReplies_14 ic_1 ?_
  refine v_iload_n dX5_partReplies_15 rfl 4 rfl ?_
  refine v_isub dX5_partReplies_16 ?_
  refine x_inv (cv := cR) (As := [.int ((nI 1) - v2)]) (rest := []) (ls2 := [(0, .ref v0), (1, .int ((nI 1) - v2))]) (ci := 3) (by omega) dX5_partReplies_17 ke_X3_worldOn kv_X5_41 rfl rfl (by decide) (Nat.le_of_ble_eq_true rfl) rfl rfl rfl rfl h (fun _ hq => s_X3_worldOn (by omega) hq) (fun r4 M3 h => ?_)
  refine x_inv (cv := cI) (As := []) (rest := []) (ls2 := [(0, .ref r4)]) (ci := 8) (by omega) dX5_partReplies_20 ke_X9_size kv_X5_45 rfl rfl (by decide) (Nat.le_of_ble_eq_true rfl) rfl rfl rfl rfl h (fun _ hq => s_X9_size (by omega) hq) (fun x6 M5 h => ?_)
  refine v_istore (ls2 := [(6, .int x6), (5, .int (nI 0)), (4, .int x2), (0, .ref v0), (1, .ref v1), (2, .int v2), (3, .int v3)]) dX5_partReplies_23 (by decide) rfl ?_
  refine v_iconst dX5_partReplies_25 ic_0 ?_
  refine v_istore (ls2 := [(7, .int (nI 0)), (6, .int x6), (5, .int (nI 0)), (4, .int x2), (0, .ref v0), (1, .ref v1), (2, .int v2), (3, .int v3)]) dX5_partReplies_26 (by decide) rfl ?_
  exact V.pick [4, 5, 6, 7, 3, 2, 1, 0] rfl (t_X5_partReplies_28 hrec_ hD_ hd_ _ _ _ _ _ _ _ _ _ _ _ h)
def j_X5_partAlike_112 (rec_ : Nat → Nat → Int32 → jM → jO Unit)  (v1 : Nat) (v7 : Int32) (v8 : Int32) (s0 : Nat) (s1 : Nat) (s2 : Int32) (s3 : Int32) (M : jM) : jO Unit :=
  jb2 (f_X5_partReplies rec_ s0 s1 s2 s3 M) fun _ M1 =>
  jb2 (jiv 4 M1 v1 (f_X4_close v1 v8 M1)) fun _ M2 =>
  jb2 (jiv 4 M2 v1 (f_X4_close v1 v7 M2)) fun _ M3 =>
  rt () M3
theorem t_X5_partAlike_112 {G : jG} {d : Nat} {D_ : Nat} {rec_ : Nat → Nat → Int32 → jM → jO Unit} (hrec_ : ∀ d2, D_ ≤ d2 → ∀ (u0 : Nat) (u1 : Nat) (u2 : Int32) (M : jM) b2, rec_ u0 u1 u2 M = some b2 → V G m_X5_partAlike d2 0 [(0, .ref u0), (1, .ref u1), (2, .int u2)] [] M (jQb cU b2)) (hD_ : 126 ≤ D_) (hd_ : D_ + 2 ≤ d)  {v1 : Nat} {v7 : Int32} {v8 : Int32} {s0 : Nat} {s1 : Nat} {s2 : Int32} {s3 : Int32} {M : jM} {b : Unit × jM} (h : j_X5_partAlike_112 rec_ v1 v7 v8 s0 s1 s2 s3 M = some b) : V G m_X5_partAlike d 112 [(1, .ref v1), (7, .int v7), (8, .int v8)] [.int s3, .int s2, .ref s1, .ref s0] M (jQb cU b) := by
  unfold j_X5_partAlike_112 at h
  refine x_invs (cv := cU) (As := [.ref s0, .ref s1, .int s2, .int s3]) (rest := []) (ls2 := [(0, .ref s0), (1, .ref s1), (2, .int s2), (3, .int s3)]) (by omega) dX5_partAlike_112 ke_X5_partReplies ks_X5_31 (Nat.le_of_ble_eq_true rfl) rfl rfl rfl rfl h (fun _ hq => s_X5_partReplies hrec_ (by omega) (by omega) hq) (fun _ M1 h => ?_)
  refine v_aload_n dX5_partAlike_115 rfl 0 rfl ?_
  refine v_iload dX5_partAlike_116 2 rfl ?_
  refine x_inv (cv := cU) (As := [.int v8]) (rest := []) (ls2 := [(0, .ref v1), (1, .int v8)]) (ci := 4) (by omega) dX5_partAlike_118 ke_X4_close kv_X5_37 rfl rfl (by decide) (Nat.le_of_ble_eq_true rfl) rfl rfl rfl rfl h (fun _ hq => s_X4_close (by omega) hq) (fun _ M2 h => ?_)
  refine v_aload_n dX5_partAlike_121 rfl 0 rfl ?_
  refine v_iload dX5_partAlike_122 1 rfl ?_
  refine x_inv (cv := cU) (As := [.int v7]) (rest := []) (ls2 := [(0, .ref v1), (1, .int v7)]) (ci := 4) (by omega) dX5_partAlike_124 ke_X4_close kv_X5_37 rfl rfl (by decide) (Nat.le_of_ble_eq_true rfl) rfl rfl rfl rfl h (fun _ hq => s_X4_close (by omega) hq) (fun _ M3 h => ?_)
  exact x_vret dX5_partAlike_127 rfl h
def j_X5_partAlike_78 (rec_ : Nat → Nat → Int32 → jM → jO Unit)  (v0 : Nat) (v1 : Nat) (v4 : Int32) (v5 : Int32) (v6 : Int32) (v7 : Int32) (M : jM) : jO Unit :=
  jb2 (jiv 3 M v0 (f_X3_length v0 M)) fun x2 M1 =>
  jb2 (jiv 4 M1 v1 (f_X4_add v1 (nI 63) (x2 + (nI 1)) (nI 0) M1)) fun x4 M3 =>
  if v5 = 0 then
    j_X5_partAlike_112 rec_ v1 v7 x4 v0 v1 v6 (v4 - (nI 10)) M3
  else
    j_X5_partAlike_112 rec_ v1 v7 x4 v0 v1 v6 v4 M3
theorem t_X5_partAlike_78 {G : jG} {d : Nat} {D_ : Nat} {rec_ : Nat → Nat → Int32 → jM → jO Unit} (hrec_ : ∀ d2, D_ ≤ d2 → ∀ (u0 : Nat) (u1 : Nat) (u2 : Int32) (M : jM) b2, rec_ u0 u1 u2 M = some b2 → V G m_X5_partAlike d2 0 [(0, .ref u0), (1, .ref u1), (2, .int u2)] [] M (jQb cU b2)) (hD_ : 126 ≤ D_) (hd_ : D_ + 2 ≤ d)  {v0 : Nat} {v1 : Nat} {v4 : Int32} {v5 : Int32} {v6 : Int32} {v7 : Int32} {M : jM} {b : Unit × jM} (h : j_X5_partAlike_78 rec_ v0 v1 v4 v5 v6 v7 M = some b) : V G m_X5_partAlike d 78 [(0, .ref v0), (1, .ref v1), (4, .int v4), (5, .int v5), (6, .int v6), (7, .int v7)] [] M (jQb cU b) := by
  unfold j_X5_partAlike_78 at h
  refine v_aload_n dX5_partAlike_78 rfl 1 rfl ?_
  refine v_bipush dX5_partAlike_79 bp_63 ?_
  refine v_aload_n dX5_partAlike_81 rfl 0 rfl ?_
  refine x_inv (cv := cI) (As := []) (rest := [.int (nI 63), .ref v1]) (ls2 := [(0, .ref v0)]) (ci := 3) (by omega) dX5_partAlike_82 ke_X3_length kv_X5_28 rfl rfl (by decide) (Nat.le_of_ble_eq_true rfl) rfl rfl rfl rfl h (fun _ hq => s_X3_length (by omega) hq) (fun x2 M1 h => ?_)
  refine v_iconst dX5_partAlike_85 ic_1 ?_
  refine v_iadd dX5_partAlike_86 ?_
  refine v_iconst dX5_partAlike_87 ic_0 ?_
  refine x_inv (cv := cI) (As := [.int (nI 63), .int (x2 + (nI 1)), .int (nI 0)]) (rest := []) (ls2 := [(0, .ref v1), (1, .int (nI 63)), (2, .int (x2 + (nI 1))), (3, .int (nI 0))]) (ci := 4) (by omega) dX5_partAlike_88 ke_X4_add kv_X5_24 rfl rfl (by decide) (Nat.le_of_ble_eq_true rfl) rfl rfl rfl rfl h (fun _ hq => s_X4_add (by omega) hq) (fun x4 M3 h => ?_)
  refine v_istore (ls2 := [(8, .int x4), (0, .ref v0), (1, .ref v1), (4, .int v4), (5, .int v5), (6, .int v6), (7, .int v7)]) dX5_partAlike_91 (by decide) rfl ?_
  refine v_aload_n dX5_partAlike_93 rfl 1 rfl ?_
  refine v_aload_n dX5_partAlike_94 rfl 2 rfl ?_
  refine v_iload dX5_partAlike_95 5 rfl ?_
  refine v_iload dX5_partAlike_97 4 rfl ?_
  refine x_if_eq (tgt := 107) dX5_partAlike_99 (by decide) h (fun h => ?_) (fun h => ?_)
  · refine v_iload dX5_partAlike_107 3 rfl ?_
    refine v_bipush dX5_partAlike_109 bp_10 ?_
    refine v_isub dX5_partAlike_111 ?_
    exact V.pick [2, 6, 0] rfl (t_X5_partAlike_112 hrec_ hD_ hd_ h)
  · refine v_iload dX5_partAlike_102 3 rfl ?_
    refine v_goto (tgt := 112) dX5_partAlike_104 (by decide) ?_
    exact V.pick [2, 6, 0] rfl (t_X5_partAlike_112 hrec_ hD_ hd_ h)
def j_X5_partAlike_56 (rec_ : Nat → Nat → Int32 → jM → jO Unit)  (v0 : Nat) (v1 : Nat) (v4 : Int32) (v5 : Int32) (s0 : Int32) (M : jM) : jO Unit :=
  jb2 (jiv 4 M v1 (f_X4_count v1 M)) fun x2 M1 =>
  if v5 = 0 then
    jb2 (jiv 4 M1 v1 (f_X4_add v1 (nI 45) (nI 0) (nI 0) M1)) fun x4 M3 =>
    j_X5_partAlike_78 rec_ v0 v1 v4 v5 s0 x2 M3
  else
    j_X5_partAlike_78 rec_ v0 v1 v4 v5 s0 x2 M1
theorem t_X5_partAlike_56 {G : jG} {d : Nat} {D_ : Nat} {rec_ : Nat → Nat → Int32 → jM → jO Unit} (hrec_ : ∀ d2, D_ ≤ d2 → ∀ (u0 : Nat) (u1 : Nat) (u2 : Int32) (M : jM) b2, rec_ u0 u1 u2 M = some b2 → V G m_X5_partAlike d2 0 [(0, .ref u0), (1, .ref u1), (2, .int u2)] [] M (jQb cU b2)) (hD_ : 126 ≤ D_) (hd_ : D_ + 2 ≤ d)  {v0 : Nat} {v1 : Nat} {v4 : Int32} {v5 : Int32} {s0 : Int32} {M : jM} {b : Unit × jM} (h : j_X5_partAlike_56 rec_ v0 v1 v4 v5 s0 M = some b) : V G m_X5_partAlike d 56 [(0, .ref v0), (1, .ref v1), (4, .int v4), (5, .int v5)] [.int s0] M (jQb cU b) := by
  unfold j_X5_partAlike_56 at h
  refine v_istore (ls2 := [(6, .int s0), (0, .ref v0), (1, .ref v1), (4, .int v4), (5, .int v5)]) dX5_partAlike_56 (by decide) rfl ?_
  refine v_aload_n dX5_partAlike_58 rfl 2 rfl ?_
  refine x_inv (cv := cI) (As := []) (rest := []) (ls2 := [(0, .ref v1)]) (ci := 4) (by omega) dX5_partAlike_59 ke_X4_count kv_X5_19 rfl rfl (by decide) (Nat.le_of_ble_eq_true rfl) rfl rfl rfl rfl h (fun _ hq => s_X4_count (by omega) hq) (fun x2 M1 h => ?_)
  refine v_istore (ls2 := [(7, .int x2), (6, .int s0), (0, .ref v0), (1, .ref v1), (4, .int v4), (5, .int v5)]) dX5_partAlike_62 (by decide) rfl ?_
  refine v_iload dX5_partAlike_64 5 rfl ?_
  refine x_if_ne (tgt := 78) dX5_partAlike_66 (by decide) h (fun h => ?_) (fun h => ?_)
  · refine v_aload_n dX5_partAlike_69 rfl 3 rfl ?_
    refine v_bipush dX5_partAlike_70 bp_45 ?_
    refine v_iconst dX5_partAlike_72 ic_0 ?_
    refine v_iconst dX5_partAlike_73 ic_0 ?_
    refine x_inv (cv := cI) (As := [.int (nI 45), .int (nI 0), .int (nI 0)]) (rest := []) (ls2 := [(0, .ref v1), (1, .int (nI 45)), (2, .int (nI 0)), (3, .int (nI 0))]) (ci := 4) (by omega) dX5_partAlike_74 ke_X4_add kv_X5_24 rfl rfl (by decide) (Nat.le_of_ble_eq_true rfl) rfl rfl rfl rfl h (fun _ hq => s_X4_add (by omega) hq) (fun x4 M3 h => ?_)
    refine v_pop dX5_partAlike_77 rfl ?_
    exact V.pick [2, 3, 4, 5, 1, 0] rfl (t_X5_partAlike_78 hrec_ hD_ hd_ h)
  · exact V.pick [2, 3, 4, 5, 1, 0] rfl (t_X5_partAlike_78 hrec_ hD_ hd_ h)
def j_X5_partAlike_42 (rec_ : Nat → Nat → Int32 → jM → jO Unit)  (v0 : Nat) (v1 : Nat) (v2 : Int32) (v4 : Int32) (s0 : Int32) (M : jM) : jO Unit :=
  if s0 = 0 then
    j_X5_partAlike_56 rec_ v0 v1 v4 s0 ((nI 1) - v2) M
  else
    j_X5_partAlike_56 rec_ v0 v1 v4 s0 v2 M
theorem t_X5_partAlike_42 {G : jG} {d : Nat} {D_ : Nat} {rec_ : Nat → Nat → Int32 → jM → jO Unit} (hrec_ : ∀ d2, D_ ≤ d2 → ∀ (u0 : Nat) (u1 : Nat) (u2 : Int32) (M : jM) b2, rec_ u0 u1 u2 M = some b2 → V G m_X5_partAlike d2 0 [(0, .ref u0), (1, .ref u1), (2, .int u2)] [] M (jQb cU b2)) (hD_ : 126 ≤ D_) (hd_ : D_ + 2 ≤ d)  {v0 : Nat} {v1 : Nat} {v2 : Int32} {v4 : Int32} {s0 : Int32} {M : jM} {b : Unit × jM} (h : j_X5_partAlike_42 rec_ v0 v1 v2 v4 s0 M = some b) : V G m_X5_partAlike d 42 [(0, .ref v0), (1, .ref v1), (2, .int v2), (4, .int v4)] [.int s0] M (jQb cU b) := by
  unfold j_X5_partAlike_42 at h
  refine v_istore (ls2 := [(5, .int s0), (0, .ref v0), (1, .ref v1), (2, .int v2), (4, .int v4)]) dX5_partAlike_42 (by decide) rfl ?_
  refine v_iload dX5_partAlike_44 0 rfl ?_
  refine x_if_eq (tgt := 53) dX5_partAlike_46 (by decide) h (fun h => ?_) (fun h => ?_)
  · refine v_iconst dX5_partAlike_53 ic_1 ?_
    refine v_iload_n dX5_partAlike_54 rfl 3 rfl ?_
    refine v_isub dX5_partAlike_55 ?_
    exact V.pick [1, 2, 4, 0] rfl (t_X5_partAlike_56 hrec_ hD_ hd_ h)
  · refine v_iload_n dX5_partAlike_49 rfl 3 rfl ?_
    refine v_goto (tgt := 56) dX5_partAlike_50 (by decide) ?_
    exact V.pick [1, 2, 4, 0] rfl (t_X5_partAlike_56 hrec_ hD_ hd_ h)
def j_X5_partAlike_22 (rec_ : Nat → Nat → Int32 → jM → jO Unit)  (v0 : Nat) (v1 : Nat) (v2 : Int32) (s0 : Int32) (M : jM) : jO Unit :=
  if 0 ≤ s0 then
    if (nI 10) ≤ s0 then
      j_X5_partAlike_42 rec_ v0 v1 v2 s0 (nI 0) M
    else
      j_X5_partAlike_42 rec_ v0 v1 v2 s0 (nI 1) M
  else
    rt () M
theorem t_X5_partAlike_22 {G : jG} {d : Nat} {D_ : Nat} {rec_ : Nat → Nat → Int32 → jM → jO Unit} (hrec_ : ∀ d2, D_ ≤ d2 → ∀ (u0 : Nat) (u1 : Nat) (u2 : Int32) (M : jM) b2, rec_ u0 u1 u2 M = some b2 → V G m_X5_partAlike d2 0 [(0, .ref u0), (1, .ref u1), (2, .int u2)] [] M (jQb cU b2)) (hD_ : 126 ≤ D_) (hd_ : D_ + 2 ≤ d)  {v0 : Nat} {v1 : Nat} {v2 : Int32} {s0 : Int32} {M : jM} {b : Unit × jM} (h : j_X5_partAlike_22 rec_ v0 v1 v2 s0 M = some b) : V G m_X5_partAlike d 22 [(0, .ref v0), (1, .ref v1), (2, .int v2)] [.int s0] M (jQb cU b) := by
  unfold j_X5_partAlike_22 at h
  refine v_istore (ls2 := [(4, .int s0), (0, .ref v0), (1, .ref v1), (2, .int v2)]) dX5_partAlike_22 (by decide) rfl ?_
  refine v_iload dX5_partAlike_24 0 rfl ?_
  refine x_if_ge (tgt := 30) dX5_partAlike_26 (by decide) h (fun h => ?_) (fun h => ?_)
  · refine v_iload dX5_partAlike_30 0 rfl ?_
    refine v_bipush dX5_partAlike_32 bp_10 ?_
    refine x_ic_ge (tgt := 41) dX5_partAlike_34 (by decide) h (fun h => ?_) (fun h => ?_)
    · refine v_iconst dX5_partAlike_41 ic_0 ?_
      exact V.pick [1, 2, 3, 0] rfl (t_X5_partAlike_42 hrec_ hD_ hd_ h)
    · refine v_iconst dX5_partAlike_37 ic_1 ?_
      refine v_goto (tgt := 42) dX5_partAlike_38 (by decide) ?_
      exact V.pick [1, 2, 3, 0] rfl (t_X5_partAlike_42 hrec_ hD_ hd_ h)
  · exact x_vret dX5_partAlike_29 rfl h
def g_X5_partAlike (rec_ : Nat → Nat → Int32 → jM → jO Unit) (v0 : Nat) (v1 : Nat) (v2 : Int32) (M : jM) : jO Unit :=
  jb2 (jiv 3 M v0 (f_X3_leastRounds v0 M)) fun x2 M1 =>
  if x2 = (-9 : Int32) then
    j_X5_partAlike_22 rec_ v0 v1 v2 (-9 : Int32) M1
  else
    jb2 (jiv 3 M1 v0 (f_X3_firstPick v0 v2 x2 M1)) fun x4 M3 =>
    j_X5_partAlike_22 rec_ v0 v1 v2 x4 M3
theorem sg_X5_partAlike {G : jG} {d : Nat} {D_ : Nat} {rec_ : Nat → Nat → Int32 → jM → jO Unit} (hrec_ : ∀ d2, D_ ≤ d2 → ∀ (u0 : Nat) (u1 : Nat) (u2 : Int32) (M : jM) b2, rec_ u0 u1 u2 M = some b2 → V G m_X5_partAlike d2 0 [(0, .ref u0), (1, .ref u1), (2, .int u2)] [] M (jQb cU b2)) (hD_ : 126 ≤ D_) (hd_ : D_ + 2 ≤ d) {v0 : Nat} {v1 : Nat} {v2 : Int32} {M : jM} {b : Unit × jM} (h : g_X5_partAlike rec_ v0 v1 v2 M = some b) : V G m_X5_partAlike d 0 [(0, .ref v0), (1, .ref v1), (2, .int v2)] [] M (jQb cU b) := by
  unfold g_X5_partAlike at h
  refine v_aload_n dX5_partAlike_0 rfl 0 rfl ?_
  refine x_inv (cv := cI) (As := []) (rest := []) (ls2 := [(0, .ref v0)]) (ci := 3) (by omega) dX5_partAlike_1 ke_X3_leastRounds kv_X5_9 rfl rfl (by decide) (Nat.le_of_ble_eq_true rfl) rfl rfl rfl rfl h (fun _ hq => s_X3_leastRounds (by omega) hq) (fun x2 M1 h => ?_)
  refine v_istore_n (ls2 := [(3, .int x2), (0, .ref v0), (1, .ref v1), (2, .int v2)]) dX5_partAlike_4 rfl (by decide) rfl ?_
  refine v_iload_n dX5_partAlike_5 rfl 0 rfl ?_
  refine v_bipush dX5_partAlike_6 bp_m9 ?_
  refine x_ic_ne (tgt := 16) dX5_partAlike_8 (by decide) h (fun h => ?_) (fun h => ?_)
  · refine v_bipush dX5_partAlike_11 bp_m9 ?_
    refine v_goto (tgt := 22) dX5_partAlike_13 (by decide) ?_
    exact V.pick [1, 2, 3] rfl (t_X5_partAlike_22 hrec_ hD_ hd_ h)
  · refine v_aload_n dX5_partAlike_16 rfl 1 rfl ?_
    refine v_iload_n dX5_partAlike_17 rfl 3 rfl ?_
    refine v_iload_n dX5_partAlike_18 rfl 0 rfl ?_
    refine x_inv (cv := cI) (As := [.int v2, .int x2]) (rest := []) (ls2 := [(0, .ref v0), (1, .int v2), (2, .int x2)]) (ci := 3) (by omega) dX5_partAlike_19 ke_X3_firstPick kv_X5_15 rfl rfl (by decide) (Nat.le_of_ble_eq_true rfl) rfl rfl rfl rfl h (fun _ hq => s_X3_firstPick (by omega) hq) (fun x4 M3 h => ?_)
    exact V.pick [1, 2, 3] rfl (t_X5_partAlike_22 hrec_ hD_ hd_ h)
def f_X5_partAlike : Nat → Nat → Nat → Int32 → jM → jO Unit
  | 0 => fun _ _ _ _ => none
  | n + 1 => g_X5_partAlike (f_X5_partAlike n)
theorem s_X5_partAlike {G : jG} : ∀ (n d : Nat), 126 + 2 * n ≤ d → ∀ (v0 : Nat) (v1 : Nat) (v2 : Int32) (M : jM) (b : Unit × jM), f_X5_partAlike n v0 v1 v2 M = some b → V G m_X5_partAlike d 0 [(0, .ref v0), (1, .ref v1), (2, .int v2)] [] M (jQb cU b) := by
  intro n
  induction n with
  | zero => intro d hd v0 v1 v2 M b h; exact nomatch (show (none : jO Unit) = some b from h)
  | succ n ih => intro d hd v0 v1 v2 M b h; exact sg_X5_partAlike (D_ := 126 + 2 * n) (fun d2 hd2 => ih d2 hd2) (by omega) (by omega) h
def f_X11_part (v0 : Nat) (v1 : Int32) (v2 : Int32) (M : jM) : jO Int32 :=
  jb2 (jiv 10 M v0 (f_X11_worldOf v0 v1 M)) fun o2 M1 =>
  jb2 (jiv 10 M1 v0 (f_X11_worldOf v0 v2 M1)) fun o4 M3 =>
  jnl o2 (
    rt (-1 : Int32) M3
    ) fun a5 =>
    jnl o4 (
      rt (-1 : Int32) M3
      ) fun a6 =>
      (gR 10 M3 v0 2).bind fun r7 =>
      jb2 (jiv 3 M3 r7 (f_X3_begin r7 a5 a6 M3)) fun _ M8 =>
      (gR 10 M8 v0 2).bind fun r9 =>
      jb2 (jiv 3 M8 r9 (f_X3_keeperWins jR0 r9 (nI 3) M8)) fun x11 M10 =>
      if x11 = 0 then
        (gI 10 M10 v0 9).bind fun x12 =>
        if x12 < (nI 20) then
          (gR 10 M10 v0 5).bind fun r13 =>
          jb2 (jiv 4 M10 r13 (f_X4_clear r13 M10)) fun _ M14 =>
          (gR 10 M14 v0 2).bind fun r15 =>
          (gR 10 M14 v0 5).bind fun r16 =>
          jb2 (f_X5_partAlike jR0 r15 r16 (nI 0) M14) fun _ M17 =>
          jb2 (jiv 10 M17 v0 (f_X11_keepSentence v0 M17)) fun x19 M18 =>
          rt x19 M18
        else
          rt (-4 : Int32) M10
      else
        rt (-9 : Int32) M10
theorem s_X11_part {G : jG} {d : Nat} (hd_ : 207 ≤ d) {v0 : Nat} {v1 : Int32} {v2 : Int32} {M : jM} {b : Int32 × jM} (h : f_X11_part  v0 v1 v2 M = some b) : V G m_X11_part d 0 [(0, .ref v0), (1, .int v1), (2, .int v2)] [] M (jQb cI b) := by
  unfold f_X11_part at h
  refine v_aload_n dX11_part_0 rfl 0 rfl ?_
  refine v_iload_n dX11_part_1 rfl 1 rfl ?_
  refine x_inv (cv := cN) (As := [.int v1]) (rest := []) (ls2 := [(0, .ref v0), (1, .int v1)]) (ci := 10) (by omega) dX11_part_2 ke_X11_worldOf kv_X11_94 rfl rfl (by decide) (Nat.le_of_ble_eq_true rfl) rfl rfl rfl rfl h (fun _ hq => s_X11_worldOf (by omega) hq) (fun o2 M1 h => ?_)
  refine v_astore_nQ (ls2 := [(3, va_rf o2), (0, .ref v0), (1, .int v1), (2, .int v2)]) dX11_part_5 rfl (by decide) rfl ?_
  refine v_aload_n dX11_part_6 rfl 1 rfl ?_
  refine v_iload_n dX11_part_7 rfl 3 rfl ?_
  refine x_inv (cv := cN) (As := [.int v2]) (rest := []) (ls2 := [(0, .ref v0), (1, .int v2)]) (ci := 10) (by omega) dX11_part_8 ke_X11_worldOf kv_X11_94 rfl rfl (by decide) (Nat.le_of_ble_eq_true rfl) rfl rfl rfl rfl h (fun _ hq => s_X11_worldOf (by omega) hq) (fun o4 M3 h => ?_)
  refine v_astoreQ (ls2 := [(4, va_rf o4), (3, va_rf o2), (0, .ref v0), (1, .int v1), (2, .int v2)]) dX11_part_11 (by decide) (by simp [jst, jcatQ]) ?_
  refine v_aload_nQ dX11_part_13 rfl 1 rfl ?_
  cases o2 with
  | none =>
    replace h := x_nN h
    refine v_ifnullN (tgt := 22) dX11_part_14 (by decide) ?_
    refine v_iconst dX11_part_22 ic_m1 ?_
    exact x_iret dX11_part_23 rfl h
  | some a5 =>
    replace h := x_nS h
    refine v_ifnull dX11_part_14 ?_
    refine v_aloadQ dX11_part_17 0 rfl ?_
    cases o4 with
    | none =>
      replace h := x_nN h
      refine v_ifnonnullN dX11_part_19 ?_
      refine v_iconst dX11_part_22 ic_m1 ?_
      exact x_iret dX11_part_23 rfl h
    | some a6 =>
      replace h := x_nS h
      refine v_ifnonnull (tgt := 24) dX11_part_19 (by decide) ?_
      refine v_aload_n dX11_part_24 rfl 2 rfl ?_
      refine x_gR dX11_part_25 kf_X11_23 rfl h (fun r7 h => ?_)
      refine v_aload_n dX11_part_28 rfl 1 rfl ?_
      refine v_aload dX11_part_29 0 rfl ?_
      refine x_inv (cv := cU) (As := [.ref a5, .ref a6]) (rest := []) (ls2 := [(0, .ref r7), (1, .ref a5), (2, .ref a6)]) (ci := 3) (by omega) dX11_part_31 ke_X3_begin kv_X11_137 rfl rfl (by decide) (Nat.le_of_ble_eq_true rfl) rfl rfl rfl rfl h (fun _ hq => s_X3_begin (by omega) hq) (fun _ M8 h => ?_)
      refine v_aload_n dX11_part_34 rfl 2 rfl ?_
      refine x_gR dX11_part_35 kf_X11_23 rfl h (fun r9 h => ?_)
      refine v_iconst dX11_part_38 ic_3 ?_
      refine x_invN (cv := cI) (As := [.int (nI 3)]) (rest := []) (ls2 := [(0, .ref r9), (1, .int (nI 3))]) (ci := 3) (by omega) dX11_part_39 ke_X3_keeperWins kv_X11_141 rfl rfl (by decide) (Nat.le_of_ble_eq_true rfl) rfl rfl rfl rfl h (fun _ hq => s_X3_keeperWins _ _ (by have := jR0_eq; omega) _ _ _ _ hq) (fun x11 M10 h => ?_)
      refine x_if_eq (tgt := 48) dX11_part_42 (by decide) h (fun h => ?_) (fun h => ?_)
      · refine v_aload_n dX11_part_48 rfl 2 rfl ?_
        refine x_gI dX11_part_49 kf_X11_68 rfl h (fun x12 h => ?_)
        refine v_bipush dX11_part_52 bp_20 ?_
        refine x_ic_lt (tgt := 60) dX11_part_54 (by decide) h (fun h => ?_) (fun h => ?_)
        · refine v_aload_n dX11_part_60 rfl 2 rfl ?_
          refine x_gR dX11_part_61 kf_X11_44 rfl h (fun r13 h => ?_)
          refine x_inv (cv := cU) (As := []) (rest := []) (ls2 := [(0, .ref r13)]) (ci := 4) (by omega) dX11_part_64 ke_X4_clear kv_X11_175 rfl rfl (by decide) (Nat.le_of_ble_eq_true rfl) rfl rfl rfl rfl h (fun _ hq => s_X4_clear (by omega) hq) (fun _ M14 h => ?_)
          refine v_aload_n dX11_part_67 rfl 2 rfl ?_
          refine x_gR dX11_part_68 kf_X11_23 rfl h (fun r15 h => ?_)
          refine v_aload_n dX11_part_71 rfl 2 rfl ?_
          refine x_gR dX11_part_72 kf_X11_44 rfl h (fun r16 h => ?_)
          refine v_iconst dX11_part_75 ic_0 ?_
          refine x_invsN (cv := cU) (As := [.ref r15, .ref r16, .int (nI 0)]) (rest := []) (ls2 := [(0, .ref r15), (1, .ref r16), (2, .int (nI 0))]) (by omega) dX11_part_76 ke_X5_partAlike ks_X11_213 (Nat.le_of_ble_eq_true rfl) rfl rfl rfl rfl h (fun _ hq => s_X5_partAlike _ _ (by have := jR0_eq; omega) _ _ _ _ _ hq) (fun _ M17 h => ?_)
          refine v_aload_n dX11_part_79 rfl 2 rfl ?_
          refine x_inv (cv := cI) (As := []) (rest := []) (ls2 := [(0, .ref v0)]) (ci := 10) (by omega) dX11_part_80 ke_X11_keepSentence kv_X11_185 rfl rfl (by decide) (Nat.le_of_ble_eq_true rfl) rfl rfl rfl rfl h (fun _ hq => s_X11_keepSentence (by omega) hq) (fun x19 M18 h => ?_)
          exact x_iret dX11_part_83 rfl h
        · refine v_bipush dX11_part_57 bp_m4 ?_
          exact x_iret dX11_part_59 rfl h
      · refine v_bipush dX11_part_45 bp_m9 ?_
        exact x_iret dX11_part_47 rfl h
def j_X6_seekerPicks_20  (v0 : Nat) (v1 : Int32) (v2 : Int32) (M : jM) : jO Int32 :=
  (gR 5 M v0 0).bind fun r1 =>
  jb2 (jiv 3 M r1 (f_X3_worldOn r1 v1 M)) fun r3 M2 =>
  jb2 (jiv 8 M2 r3 (f_X9_has r3 v2 M2)) fun x5 M4 =>
  if x5 = 0 then
    rt (-2 : Int32) M4
  else
    (pI 5 M4 v0 3 v1).bind fun M6 =>
    (pI 5 M6 v0 4 v2).bind fun M7 =>
    (pI 5 M7 v0 1 (nI 2)).bind fun M8 =>
    rt (nI 1) M8
theorem t_X6_seekerPicks_20 {G : jG} {d : Nat} (hd_ : 1 ≤ d)  {v0 : Nat} {v1 : Int32} {v2 : Int32} {M : jM} {b : Int32 × jM} (h : j_X6_seekerPicks_20  v0 v1 v2 M = some b) : V G m_X6_seekerPicks d 20 [(0, .ref v0), (1, .int v1), (2, .int v2)] [] M (jQb cI b) := by
  unfold j_X6_seekerPicks_20 at h
  refine v_aload_n dX6_seekerPicks_20 rfl 0 rfl ?_
  refine x_gR dX6_seekerPicks_21 kf_X6_12 rfl h (fun r1 h => ?_)
  refine v_iload_n dX6_seekerPicks_24 rfl 1 rfl ?_
  refine x_inv (cv := cR) (As := [.int v1]) (rest := []) (ls2 := [(0, .ref r1), (1, .int v1)]) (ci := 3) (by omega) dX6_seekerPicks_25 ke_X3_worldOn kv_X6_35 rfl rfl (by decide) (Nat.le_of_ble_eq_true rfl) rfl rfl rfl rfl h (fun _ hq => s_X3_worldOn (by omega) hq) (fun r3 M2 h => ?_)
  refine v_iload_n dX6_seekerPicks_28 rfl 2 rfl ?_
  refine x_inv (cv := cI) (As := [.int v2]) (rest := []) (ls2 := [(0, .ref r3), (1, .int v2)]) (ci := 8) (by omega) dX6_seekerPicks_29 ke_X9_has kv_X6_39 rfl rfl (by decide) (Nat.le_of_ble_eq_true rfl) rfl rfl rfl rfl h (fun _ hq => s_X9_has (by omega) hq) (fun x5 M4 h => ?_)
  refine x_if_ne (tgt := 38) dX6_seekerPicks_32 (by decide) h (fun h => ?_) (fun h => ?_)
  · refine v_bipush dX6_seekerPicks_35 bp_m2 ?_
    exact x_iret dX6_seekerPicks_37 rfl h
  · refine v_aload_n dX6_seekerPicks_38 rfl 0 rfl ?_
    refine v_iload_n dX6_seekerPicks_39 rfl 1 rfl ?_
    refine x_pI dX6_seekerPicks_40 kf_X6_25 rfl (fun q => Bool.noConfusion q) h (fun M6 h => ?_)
    refine v_aload_n dX6_seekerPicks_43 rfl 0 rfl ?_
    refine v_iload_n dX6_seekerPicks_44 rfl 2 rfl ?_
    refine x_pI dX6_seekerPicks_45 kf_X6_28 rfl (fun q => Bool.noConfusion q) h (fun M7 h => ?_)
    refine v_aload_n dX6_seekerPicks_48 rfl 0 rfl ?_
    refine v_iconst dX6_seekerPicks_49 ic_2 ?_
    refine x_pI dX6_seekerPicks_50 kf_X6_18 rfl (fun q => Bool.noConfusion q) h (fun M8 h => ?_)
    refine v_iconst dX6_seekerPicks_53 ic_1 ?_
    exact x_iret dX6_seekerPicks_54 rfl h
def f_X6_seekerPicks (v0 : Nat) (v1 : Int32) (v2 : Int32) (M : jM) : jO Int32 :=
  (gI 5 M v0 1).bind fun x1 =>
  if x1 = (nI 1) then
    if v1 = 0 then
      j_X6_seekerPicks_20 v0 v1 v2 M
    else
      if v1 = (nI 1) then
        j_X6_seekerPicks_20 v0 v1 v2 M
      else
        rt (-2 : Int32) M
  else
    rt (-3 : Int32) M
theorem s_X6_seekerPicks {G : jG} {d : Nat} (hd_ : 1 ≤ d) {v0 : Nat} {v1 : Int32} {v2 : Int32} {M : jM} {b : Int32 × jM} (h : f_X6_seekerPicks  v0 v1 v2 M = some b) : V G m_X6_seekerPicks d 0 [(0, .ref v0), (1, .int v1), (2, .int v2)] [] M (jQb cI b) := by
  unfold f_X6_seekerPicks at h
  refine v_aload_n dX6_seekerPicks_0 rfl 0 rfl ?_
  refine x_gI dX6_seekerPicks_1 kf_X6_18 rfl h (fun x1 h => ?_)
  refine v_iconst dX6_seekerPicks_4 ic_1 ?_
  refine x_ic_eq (tgt := 11) dX6_seekerPicks_5 (by decide) h (fun h => ?_) (fun h => ?_)
  · refine v_iload_n dX6_seekerPicks_11 rfl 1 rfl ?_
    refine x_if_eq (tgt := 20) dX6_seekerPicks_12 (by decide) h (fun h => ?_) (fun h => ?_)
    · exact t_X6_seekerPicks_20 hd_ h
    · refine v_iload_n dX6_seekerPicks_15 rfl 1 rfl ?_
      refine v_iconst dX6_seekerPicks_16 ic_1 ?_
      refine x_ic_ne (tgt := 35) dX6_seekerPicks_17 (by decide) h (fun h => ?_) (fun h => ?_)
      · exact t_X6_seekerPicks_20 hd_ h
      · refine v_bipush dX6_seekerPicks_35 bp_m2 ?_
        exact x_iret dX6_seekerPicks_37 rfl h
  · refine v_bipush dX6_seekerPicks_8 bp_m3 ?_
    exact x_iret dX6_seekerPicks_10 rfl h
def f_X11_pick (v0 : Nat) (v1 : Int32) (v2 : Int32) (M : jM) : jO Int32 :=
  (gR 10 M v0 3).bind fun r1 =>
  jb2 (jiv 5 M r1 (f_X6_seekerPicks r1 v1 v2 M)) fun x3 M2 =>
  rt x3 M2
theorem s_X11_pick {G : jG} {d : Nat} (hd_ : 2 ≤ d) {v0 : Nat} {v1 : Int32} {v2 : Int32} {M : jM} {b : Int32 × jM} (h : f_X11_pick  v0 v1 v2 M = some b) : V G m_X11_pick d 0 [(0, .ref v0), (1, .int v1), (2, .int v2)] [] M (jQb cI b) := by
  unfold f_X11_pick at h
  refine v_aload_n dX11_pick_0 rfl 0 rfl ?_
  refine x_gR dX11_pick_1 kf_X11_30 rfl h (fun r1 h => ?_)
  refine v_iload_n dX11_pick_4 rfl 1 rfl ?_
  refine v_iload_n dX11_pick_5 rfl 2 rfl ?_
  refine x_inv (cv := cI) (As := [.int v1, .int v2]) (rest := []) (ls2 := [(0, .ref r1), (1, .int v1), (2, .int v2)]) (ci := 5) (by omega) dX11_pick_6 ke_X6_seekerPicks kv_X11_150 rfl rfl (by decide) (Nat.le_of_ble_eq_true rfl) rfl rfl rfl rfl h (fun _ hq => s_X6_seekerPicks (by omega) hq) (fun x3 M2 h => ?_)
  exact x_iret dX11_pick_9 rfl h
def j_X6_begin_24  (s0 : Nat) (s1 : Int32) (M : jM) : jO Unit :=
  (pI 5 M s0 1 s1).bind fun M1 =>
  rt () M1
theorem t_X6_begin_24 {G : jG} {d : Nat} (hd_ : 4 ≤ d)  {s0 : Nat} {s1 : Int32} {M : jM} {b : Unit × jM} (h : j_X6_begin_24  s0 s1 M = some b) : V G m_X6_begin d 24 [] [.int s1, .ref s0] M (jQb cU b) := by
  unfold j_X6_begin_24 at h
  refine x_pI dX6_begin_24 kf_X6_18 rfl (fun q => Bool.noConfusion q) h (fun M1 h => ?_)
  exact x_vret dX6_begin_27 rfl h
def f_X6_begin (v0 : Nat) (v1 : Nat) (v2 : Nat) (v3 : Int32) (M : jM) : jO Unit :=
  (gR 5 M v0 0).bind fun r1 =>
  jb2 (jiv 3 M r1 (f_X3_begin r1 v1 v2 M)) fun _ M2 =>
  (pI 5 M2 v0 2 v3).bind fun M3 =>
  if v3 = 0 then
    j_X6_begin_24 v0 (nI 3) M3
  else
    j_X6_begin_24 v0 (nI 1) M3
theorem s_X6_begin {G : jG} {d : Nat} (hd_ : 4 ≤ d) {v0 : Nat} {v1 : Nat} {v2 : Nat} {v3 : Int32} {M : jM} {b : Unit × jM} (h : f_X6_begin  v0 v1 v2 v3 M = some b) : V G m_X6_begin d 0 [(0, .ref v0), (1, .ref v1), (2, .ref v2), (3, .int v3)] [] M (jQb cU b) := by
  unfold f_X6_begin at h
  refine v_aload_n dX6_begin_0 rfl 0 rfl ?_
  refine x_gR dX6_begin_1 kf_X6_12 rfl h (fun r1 h => ?_)
  refine v_aload_n dX6_begin_4 rfl 1 rfl ?_
  refine v_aload_n dX6_begin_5 rfl 2 rfl ?_
  refine x_inv (cv := cU) (As := [.ref v1, .ref v2]) (rest := []) (ls2 := [(0, .ref r1), (1, .ref v1), (2, .ref v2)]) (ci := 3) (by omega) dX6_begin_6 ke_X3_begin kv_X6_31 rfl rfl (by decide) (Nat.le_of_ble_eq_true rfl) rfl rfl rfl rfl h (fun _ hq => s_X3_begin (by omega) hq) (fun _ M2 h => ?_)
  refine v_aload_n dX6_begin_9 rfl 0 rfl ?_
  refine v_iload_n dX6_begin_10 rfl 3 rfl ?_
  refine x_pI dX6_begin_11 kf_X6_22 rfl (fun q => Bool.noConfusion q) h (fun M3 h => ?_)
  refine v_aload_n dX6_begin_14 rfl 0 rfl ?_
  refine v_iload_n dX6_begin_15 rfl 3 rfl ?_
  refine x_if_ne (tgt := 23) dX6_begin_16 (by decide) h (fun h => ?_) (fun h => ?_)
  · refine v_iconst dX6_begin_19 ic_3 ?_
    refine v_goto (tgt := 24) dX6_begin_20 (by decide) ?_
    exact V.pick [] rfl (t_X6_begin_24 hd_ h)
  · refine v_iconst dX6_begin_23 ic_1 ?_
    exact V.pick [] rfl (t_X6_begin_24 hd_ h)
def f_X11_play (v0 : Nat) (v1 : Int32) (v2 : Int32) (v3 : Int32) (M : jM) : jO Int32 :=
  jb2 (jiv 10 M v0 (f_X11_worldOf v0 v1 M)) fun o2 M1 =>
  jb2 (jiv 10 M1 v0 (f_X11_worldOf v0 v2 M1)) fun o4 M3 =>
  jnl o2 (
    rt (-1 : Int32) M3
    ) fun a5 =>
    jnl o4 (
      rt (-1 : Int32) M3
      ) fun a6 =>
      if v3 < 0 then
        rt (-2 : Int32) M3
      else
        if v3 ≤ (nI 3) then
          (gR 10 M3 v0 3).bind fun r7 =>
          jb2 (jiv 5 M3 r7 (f_X6_begin r7 a5 a6 v3 M3)) fun _ M8 =>
          rt (nI 1) M8
        else
          rt (-2 : Int32) M3
theorem s_X11_play {G : jG} {d : Nat} (hd_ : 5 ≤ d) {v0 : Nat} {v1 : Int32} {v2 : Int32} {v3 : Int32} {M : jM} {b : Int32 × jM} (h : f_X11_play  v0 v1 v2 v3 M = some b) : V G m_X11_play d 0 [(0, .ref v0), (1, .int v1), (2, .int v2), (3, .int v3)] [] M (jQb cI b) := by
  unfold f_X11_play at h
  refine v_aload_n dX11_play_0 rfl 0 rfl ?_
  refine v_iload_n dX11_play_1 rfl 1 rfl ?_
  refine x_inv (cv := cN) (As := [.int v1]) (rest := []) (ls2 := [(0, .ref v0), (1, .int v1)]) (ci := 10) (by omega) dX11_play_2 ke_X11_worldOf kv_X11_94 rfl rfl (by decide) (Nat.le_of_ble_eq_true rfl) rfl rfl rfl rfl h (fun _ hq => s_X11_worldOf (by omega) hq) (fun o2 M1 h => ?_)
  refine v_astoreQ (ls2 := [(4, va_rf o2), (0, .ref v0), (1, .int v1), (2, .int v2), (3, .int v3)]) dX11_play_5 (by decide) rfl ?_
  refine v_aload_n dX11_play_7 rfl 1 rfl ?_
  refine v_iload_n dX11_play_8 rfl 3 rfl ?_
  refine x_inv (cv := cN) (As := [.int v2]) (rest := []) (ls2 := [(0, .ref v0), (1, .int v2)]) (ci := 10) (by omega) dX11_play_9 ke_X11_worldOf kv_X11_94 rfl rfl (by decide) (Nat.le_of_ble_eq_true rfl) rfl rfl rfl rfl h (fun _ hq => s_X11_worldOf (by omega) hq) (fun o4 M3 h => ?_)
  refine v_astoreQ (ls2 := [(5, va_rf o4), (4, va_rf o2), (0, .ref v0), (1, .int v1), (2, .int v2), (3, .int v3)]) dX11_play_12 (by decide) (by simp [jst, jcatQ]) ?_
  refine v_aloadQ dX11_play_14 1 rfl ?_
  cases o2 with
  | none =>
    replace h := x_nN h
    refine v_ifnullN (tgt := 24) dX11_play_16 (by decide) ?_
    refine v_iconst dX11_play_24 ic_m1 ?_
    exact x_iret dX11_play_25 rfl h
  | some a5 =>
    replace h := x_nS h
    refine v_ifnull dX11_play_16 ?_
    refine v_aloadQ dX11_play_19 0 rfl ?_
    cases o4 with
    | none =>
      replace h := x_nN h
      refine v_ifnonnullN dX11_play_21 ?_
      refine v_iconst dX11_play_24 ic_m1 ?_
      exact x_iret dX11_play_25 rfl h
    | some a6 =>
      replace h := x_nS h
      refine v_ifnonnull (tgt := 26) dX11_play_21 (by decide) ?_
      refine v_iload_n dX11_play_26 rfl 5 rfl ?_
      refine x_if_lt (tgt := 35) dX11_play_27 (by decide) h (fun h => ?_) (fun h => ?_)
      · refine v_bipush dX11_play_35 bp_m2 ?_
        exact x_iret dX11_play_37 rfl h
      · refine v_iload_n dX11_play_30 rfl 5 rfl ?_
        refine v_iconst dX11_play_31 ic_3 ?_
        refine x_ic_le (tgt := 38) dX11_play_32 (by decide) h (fun h => ?_) (fun h => ?_)
        · refine v_aload_n dX11_play_38 rfl 2 rfl ?_
          refine x_gR dX11_play_39 kf_X11_30 rfl h (fun r7 h => ?_)
          refine v_aload dX11_play_42 1 rfl ?_
          refine v_aload dX11_play_44 0 rfl ?_
          refine v_iload_n dX11_play_46 rfl 5 rfl ?_
          refine x_inv (cv := cU) (As := [.ref a5, .ref a6, .int v3]) (rest := []) (ls2 := [(0, .ref r7), (1, .ref a5), (2, .ref a6), (3, .int v3)]) (ci := 5) (by omega) dX11_play_47 ke_X6_begin kv_X11_147 rfl rfl (by decide) (Nat.le_of_ble_eq_true rfl) rfl rfl rfl rfl h (fun _ hq => s_X6_begin (by omega) hq) (fun _ M8 h => ?_)
          refine v_iconst dX11_play_50 ic_1 ?_
          exact x_iret dX11_play_51 rfl h
        · refine v_bipush dX11_play_35 bp_m2 ?_
          exact x_iret dX11_play_37 rfl h
def f_X11_rank (v0 : Nat) (v1 : Int32) (v2 : Int32) (M : jM) : jO Int32 :=
  jb2 (jiv 10 M v0 (f_X11_worldOf v0 v1 M)) fun o2 M1 =>
  jb2 (jiv 10 M1 v0 (f_X11_worldOf v0 v2 M1)) fun o4 M3 =>
  jnl o2 (
    rt (-1 : Int32) M3
    ) fun a5 =>
    jnl o4 (
      rt (-1 : Int32) M3
      ) fun a6 =>
      (gR 10 M3 v0 2).bind fun r7 =>
      jb2 (jiv 3 M3 r7 (f_X3_begin r7 a5 a6 M3)) fun _ M8 =>
      (gR 10 M8 v0 2).bind fun r9 =>
      jb2 (jiv 3 M8 r9 (f_X3_leastRounds r9 M8)) fun x11 M10 =>
      rt x11 M10
theorem s_X11_rank {G : jG} {d : Nat} (hd_ : 124 ≤ d) {v0 : Nat} {v1 : Int32} {v2 : Int32} {M : jM} {b : Int32 × jM} (h : f_X11_rank  v0 v1 v2 M = some b) : V G m_X11_rank d 0 [(0, .ref v0), (1, .int v1), (2, .int v2)] [] M (jQb cI b) := by
  unfold f_X11_rank at h
  refine v_aload_n dX11_rank_0 rfl 0 rfl ?_
  refine v_iload_n dX11_rank_1 rfl 1 rfl ?_
  refine x_inv (cv := cN) (As := [.int v1]) (rest := []) (ls2 := [(0, .ref v0), (1, .int v1)]) (ci := 10) (by omega) dX11_rank_2 ke_X11_worldOf kv_X11_94 rfl rfl (by decide) (Nat.le_of_ble_eq_true rfl) rfl rfl rfl rfl h (fun _ hq => s_X11_worldOf (by omega) hq) (fun o2 M1 h => ?_)
  refine v_astore_nQ (ls2 := [(3, va_rf o2), (0, .ref v0), (1, .int v1), (2, .int v2)]) dX11_rank_5 rfl (by decide) rfl ?_
  refine v_aload_n dX11_rank_6 rfl 1 rfl ?_
  refine v_iload_n dX11_rank_7 rfl 3 rfl ?_
  refine x_inv (cv := cN) (As := [.int v2]) (rest := []) (ls2 := [(0, .ref v0), (1, .int v2)]) (ci := 10) (by omega) dX11_rank_8 ke_X11_worldOf kv_X11_94 rfl rfl (by decide) (Nat.le_of_ble_eq_true rfl) rfl rfl rfl rfl h (fun _ hq => s_X11_worldOf (by omega) hq) (fun o4 M3 h => ?_)
  refine v_astoreQ (ls2 := [(4, va_rf o4), (3, va_rf o2), (0, .ref v0), (1, .int v1), (2, .int v2)]) dX11_rank_11 (by decide) (by simp [jst, jcatQ]) ?_
  refine v_aload_nQ dX11_rank_13 rfl 1 rfl ?_
  cases o2 with
  | none =>
    replace h := x_nN h
    refine v_ifnullN (tgt := 22) dX11_rank_14 (by decide) ?_
    refine v_iconst dX11_rank_22 ic_m1 ?_
    exact x_iret dX11_rank_23 rfl h
  | some a5 =>
    replace h := x_nS h
    refine v_ifnull dX11_rank_14 ?_
    refine v_aloadQ dX11_rank_17 0 rfl ?_
    cases o4 with
    | none =>
      replace h := x_nN h
      refine v_ifnonnullN dX11_rank_19 ?_
      refine v_iconst dX11_rank_22 ic_m1 ?_
      exact x_iret dX11_rank_23 rfl h
    | some a6 =>
      replace h := x_nS h
      refine v_ifnonnull (tgt := 24) dX11_rank_19 (by decide) ?_
      refine v_aload_n dX11_rank_24 rfl 2 rfl ?_
      refine x_gR dX11_rank_25 kf_X11_23 rfl h (fun r7 h => ?_)
      refine v_aload_n dX11_rank_28 rfl 1 rfl ?_
      refine v_aload dX11_rank_29 0 rfl ?_
      refine x_inv (cv := cU) (As := [.ref a5, .ref a6]) (rest := []) (ls2 := [(0, .ref r7), (1, .ref a5), (2, .ref a6)]) (ci := 3) (by omega) dX11_rank_31 ke_X3_begin kv_X11_137 rfl rfl (by decide) (Nat.le_of_ble_eq_true rfl) rfl rfl rfl rfl h (fun _ hq => s_X3_begin (by omega) hq) (fun _ M8 h => ?_)
      refine v_aload_n dX11_rank_34 rfl 2 rfl ?_
      refine x_gR dX11_rank_35 kf_X11_23 rfl h (fun r9 h => ?_)
      refine x_inv (cv := cI) (As := []) (rest := []) (ls2 := [(0, .ref r9)]) (ci := 3) (by omega) dX11_rank_38 ke_X3_leastRounds kv_X11_144 rfl rfl (by decide) (Nat.le_of_ble_eq_true rfl) rfl rfl rfl rfl h (fun _ hq => s_X3_leastRounds (by omega) hq) (fun x11 M10 h => ?_)
      exact x_iret dX11_rank_41 rfl h
def f_X8_cutTo (v0 : Nat) (v1 : Int32) (M : jM) : jO Unit :=
  (gI 7 M v0 1).bind fun x1 =>
  (pI 7 M v0 1 (jmx (nI 0) (jmn v1 x1))).bind fun M2 =>
  rt () M2
theorem s_X8_cutTo {G : jG} {d : Nat} (hd_ : 1 ≤ d) {v0 : Nat} {v1 : Int32} {M : jM} {b : Unit × jM} (h : f_X8_cutTo  v0 v1 M = some b) : V G m_X8_cutTo d 0 [(0, .ref v0), (1, .int v1)] [] M (jQb cU b) := by
  unfold f_X8_cutTo at h
  refine v_aload_n dX8_cutTo_0 rfl 0 rfl ?_
  refine v_iconst dX8_cutTo_1 ic_0 ?_
  refine v_iload_n dX8_cutTo_2 rfl 1 rfl ?_
  refine v_aload_n dX8_cutTo_3 rfl 0 rfl ?_
  refine x_gI dX8_cutTo_4 kf_X8_15 rfl h (fun x1 h => ?_)
  refine v_mmin (by omega) dX8_cutTo_7 kh_X8_29 rfl ?_
  refine v_mmax (by omega) dX8_cutTo_10 kh_X8_35 rfl ?_
  refine x_pI dX8_cutTo_13 kf_X8_15 rfl (fun q => Bool.noConfusion q) h (fun M2 h => ?_)
  exact x_vret dX8_cutTo_16 rfl h
def f_X8_fail (v0 : Nat) (M : jM) : jO Unit :=
  (gI 7 M v0 3).bind fun x1 =>
  if 0 ≤ x1 then
    rt () M
  else
    (gI 7 M v0 2).bind fun x2 =>
    (pI 7 M v0 3 x2).bind fun M3 =>
    rt () M3
theorem s_X8_fail {G : jG} {d : Nat} (hd_ : 0 ≤ d) {v0 : Nat} {M : jM} {b : Unit × jM} (h : f_X8_fail  v0 M = some b) : V G m_X8_fail d 0 [(0, .ref v0)] [] M (jQb cU b) := by
  unfold f_X8_fail at h
  refine v_aload_n dX8_fail_0 rfl 0 rfl ?_
  refine x_gI dX8_fail_1 kf_X8_22 rfl h (fun x1 h => ?_)
  refine x_if_ge (tgt := 15) dX8_fail_4 (by decide) h (fun h => ?_) (fun h => ?_)
  · exact x_vret dX8_fail_15 rfl h
  · refine v_aload_n dX8_fail_7 rfl 0 rfl ?_
    refine v_aload_n dX8_fail_8 rfl 0 rfl ?_
    refine x_gI dX8_fail_9 kf_X8_19 rfl h (fun x2 h => ?_)
    refine x_pI dX8_fail_12 kf_X8_22 rfl (fun q => Bool.noConfusion q) h (fun M3 h => ?_)
    exact x_vret dX8_fail_15 rfl h
def j_X8_peek_58 (k0 : Nat → jM → jO Int32) (v0 : Nat) (M : jM) : jO Int32 :=
  (gI 7 M v0 2).bind fun x1 =>
  (pI 7 M v0 2 (x1 + (nI 1))).bind fun M2 =>
  k0 v0 M2
theorem t_X8_peek_58 {G : jG} {d : Nat} (hd_ : 0 ≤ d) {k0 : Nat → jM → jO Int32} (hk0 : ∀ (w0 : Nat) (M : jM) (b : Int32 × jM), k0 w0 M = some b → V G m_X8_peek d 0 [(0, .ref w0)] [] M (jQb cI b)) {v0 : Nat} {M : jM} {b : Int32 × jM} (h : j_X8_peek_58 k0 v0 M = some b) : V G m_X8_peek d 58 [(0, .ref v0)] [] M (jQb cI b) := by
  unfold j_X8_peek_58 at h
  refine v_aload_n dX8_peek_58 rfl 0 rfl ?_
  refine v_dup dX8_peek_59 rfl ?_
  refine x_gI dX8_peek_60 kf_X8_19 rfl h (fun x1 h => ?_)
  refine v_iconst dX8_peek_63 ic_1 ?_
  refine v_iadd dX8_peek_64 ?_
  refine x_pI dX8_peek_65 kf_X8_19 rfl (fun q => Bool.noConfusion q) h (fun M2 h => ?_)
  refine v_goto (tgt := 0) dX8_peek_68 (by decide) ?_
  exact hk0 _ _ _ h
def b_X8_peek_0  (k0 : Nat → jM → jO Int32) (v0 : Nat) (M : jM) : jO Int32 :=
  (gI 7 M v0 2).bind fun x1 =>
  if x1 < 0 then
    rt (-1 : Int32) M
  else
    (gI 7 M v0 2).bind fun x2 =>
    (gI 7 M v0 1).bind fun x3 =>
    if x3 ≤ x2 then
      rt (-1 : Int32) M
    else
      (gI 7 M v0 2).bind fun x4 =>
      (gR 7 M v0 0).bind fun r5 =>
      (ln M r5).bind fun x6 =>
      if x6 ≤ x4 then
        rt (-1 : Int32) M
      else
        (gR 7 M v0 0).bind fun r7 =>
        (gI 7 M v0 2).bind fun x8 =>
        (ldB M r7 x8).bind fun x9 =>
        (jv (x9 &&& (nI 255))).bind fun y10 =>
        if y10 = (nI 32) then
          j_X8_peek_58 k0 v0 M
        else
          if y10 = (nI 10) then
            j_X8_peek_58 k0 v0 M
          else
            rt y10 M
def l_X8_peek_0  : Nat → Nat → jM → jO Int32
  | 0 => fun _ _ => none
  | n + 1 => b_X8_peek_0  (l_X8_peek_0  n)
theorem tb_X8_peek_0 {G : jG} {d : Nat} (hd_ : 0 ≤ d)  {k0 : Nat → jM → jO Int32} (hk0 : ∀ (w0 : Nat) (M : jM) (b : Int32 × jM), k0 w0 M = some b → V G m_X8_peek d 0 [(0, .ref w0)] [] M (jQb cI b)) {v0 : Nat} {M : jM} {b : Int32 × jM} (h : b_X8_peek_0  k0 v0 M = some b) : V G m_X8_peek d 0 [(0, .ref v0)] [] M (jQb cI b) := by
  unfold b_X8_peek_0 at h
  refine v_aload_n dX8_peek_0 rfl 0 rfl ?_
  refine x_gI dX8_peek_1 kf_X8_19 rfl h (fun x1 h => ?_)
  refine x_if_lt (tgt := 71) dX8_peek_4 (by decide) h (fun h => ?_) (fun h => ?_)
  · refine v_iconst dX8_peek_71 ic_m1 ?_
    exact x_iret dX8_peek_72 rfl h
  · refine v_aload_n dX8_peek_7 rfl 0 rfl ?_
    refine x_gI dX8_peek_8 kf_X8_19 rfl h (fun x2 h => ?_)
    refine v_aload_n dX8_peek_11 rfl 0 rfl ?_
    refine x_gI dX8_peek_12 kf_X8_15 rfl h (fun x3 h => ?_)
    refine x_ic_ge (tgt := 71) dX8_peek_15 (by decide) h (fun h => ?_) (fun h => ?_)
    · refine v_iconst dX8_peek_71 ic_m1 ?_
      exact x_iret dX8_peek_72 rfl h
    · refine v_aload_n dX8_peek_18 rfl 0 rfl ?_
      refine x_gI dX8_peek_19 kf_X8_19 rfl h (fun x4 h => ?_)
      refine v_aload_n dX8_peek_22 rfl 0 rfl ?_
      refine x_gR dX8_peek_23 kf_X8_9 rfl h (fun r5 h => ?_)
      refine x_ln dX8_peek_26 h (fun x6 h => ?_)
      refine x_ic_ge (tgt := 71) dX8_peek_27 (by decide) h (fun h => ?_) (fun h => ?_)
      · refine v_iconst dX8_peek_71 ic_m1 ?_
        exact x_iret dX8_peek_72 rfl h
      · refine v_aload_n dX8_peek_30 rfl 0 rfl ?_
        refine x_gR dX8_peek_31 kf_X8_9 rfl h (fun r7 h => ?_)
        refine v_aload_n dX8_peek_34 rfl 0 rfl ?_
        refine x_gI dX8_peek_35 kf_X8_19 rfl h (fun x8 h => ?_)
        refine x_ldB dX8_peek_38 h (fun x9 h => ?_)
        refine v_sipush dX8_peek_39 sp_255 ?_
        refine v_iand dX8_peek_42 ?_
        refine x_jvI h (fun y10 h => ?_)
        refine v_istore_n (ls2 := [(1, .int y10), (0, .ref v0)]) dX8_peek_43 rfl (by decide) rfl ?_
        refine v_iload_n dX8_peek_44 rfl 0 rfl ?_
        refine v_bipush dX8_peek_45 bp_32 ?_
        refine x_ic_eq (tgt := 58) dX8_peek_47 (by decide) h (fun h => ?_) (fun h => ?_)
        · exact V.pick [1] rfl (t_X8_peek_58 hd_ hk0 h)
        · refine v_iload_n dX8_peek_50 rfl 0 rfl ?_
          refine v_bipush dX8_peek_51 bp_10 ?_
          refine x_ic_eq (tgt := 58) dX8_peek_53 (by decide) h (fun h => ?_) (fun h => ?_)
          · exact V.pick [1] rfl (t_X8_peek_58 hd_ hk0 h)
          · refine v_iload_n dX8_peek_56 rfl 0 rfl ?_
            exact x_iret dX8_peek_57 rfl h
theorem t_X8_peek_0 {G : jG} {d : Nat} (hd_ : 0 ≤ d)  : ∀ (n : Nat) (v0 : Nat) (M : jM) (b : Int32 × jM), l_X8_peek_0  n v0 M = some b → V G m_X8_peek d 0 [(0, .ref v0)] [] M (jQb cI b) := by
  intro n
  induction n with
  | zero => intro v0 M b h; exact nomatch (show (none : jO Int32) = some b from h)
  | succ n ih => intro v0 M b h; exact tb_X8_peek_0 hd_  ih h
def f_X8_peek (v0 : Nat) (M : jM) : jO Int32 :=
  l_X8_peek_0 jF0 v0 M
theorem s_X8_peek {G : jG} {d : Nat} (hd_ : 0 ≤ d) {v0 : Nat} {M : jM} {b : Int32 × jM} (h : f_X8_peek  v0 M = some b) : V G m_X8_peek d 0 [(0, .ref v0)] [] M (jQb cI b) := by
  unfold f_X8_peek at h
  exact t_X8_peek_0 hd_ _ _ _ _ h
def f_X8_expect (v0 : Nat) (v1 : Int32) (M : jM) : jO Unit :=
  jb2 (jiv 7 M v0 (f_X8_peek v0 M)) fun x2 M1 =>
  if x2 = v1 then
    if v1 = (-1 : Int32) then
      rt () M1
    else
      (gI 7 M1 v0 2).bind fun x3 =>
      (pI 7 M1 v0 2 (x3 + (nI 1))).bind fun M4 =>
      rt () M4
  else
    jb2 (jiv 7 M1 v0 (f_X8_fail v0 M1)) fun _ M5 =>
    rt () M5
theorem s_X8_expect {G : jG} {d : Nat} (hd_ : 1 ≤ d) {v0 : Nat} {v1 : Int32} {M : jM} {b : Unit × jM} (h : f_X8_expect  v0 v1 M = some b) : V G m_X8_expect d 0 [(0, .ref v0), (1, .int v1)] [] M (jQb cU b) := by
  unfold f_X8_expect at h
  refine v_aload_n dX8_expect_0 rfl 0 rfl ?_
  refine x_inv (cv := cI) (As := []) (rest := []) (ls2 := [(0, .ref v0)]) (ci := 7) (by omega) dX8_expect_1 ke_X8_peek kv_X8_61 rfl rfl (by decide) (Nat.le_of_ble_eq_true rfl) rfl rfl rfl rfl h (fun _ hq => s_X8_peek (by omega) hq) (fun x2 M1 h => ?_)
  refine v_iload_n dX8_expect_4 rfl 1 rfl ?_
  refine x_ic_eq (tgt := 15) dX8_expect_5 (by decide) h (fun h => ?_) (fun h => ?_)
  · refine v_iload_n dX8_expect_15 rfl 1 rfl ?_
    refine v_iconst dX8_expect_16 ic_m1 ?_
    refine x_ic_eq (tgt := 30) dX8_expect_17 (by decide) h (fun h => ?_) (fun h => ?_)
    · exact x_vret dX8_expect_30 rfl h
    · refine v_aload_n dX8_expect_20 rfl 0 rfl ?_
      refine v_dup dX8_expect_21 rfl ?_
      refine x_gI dX8_expect_22 kf_X8_19 rfl h (fun x3 h => ?_)
      refine v_iconst dX8_expect_25 ic_1 ?_
      refine v_iadd dX8_expect_26 ?_
      refine x_pI dX8_expect_27 kf_X8_19 rfl (fun q => Bool.noConfusion q) h (fun M4 h => ?_)
      exact x_vret dX8_expect_30 rfl h
  · refine v_aload_n dX8_expect_8 rfl 0 rfl ?_
    refine x_inv (cv := cU) (As := []) (rest := []) (ls2 := [(0, .ref v0)]) (ci := 7) (by omega) dX8_expect_9 ke_X8_fail kv_X8_82 rfl rfl (by decide) (Nat.le_of_ble_eq_true rfl) rfl rfl rfl rfl h (fun _ hq => s_X8_fail (by omega) hq) (fun _ M5 h => ?_)
    refine v_goto (tgt := 30) dX8_expect_12 (by decide) ?_
    exact x_vret dX8_expect_30 rfl h
def j_X8_parseOwner_30  (v0 : Nat) (M : jM) : jO Int32 :=
  jb2 (jiv 7 M v0 (f_X8_fail v0 M)) fun _ M1 =>
  rt (nI 0) M1
theorem t_X8_parseOwner_30 {G : jG} {d : Nat} (hd_ : 1 ≤ d)  {v0 : Nat} {M : jM} {b : Int32 × jM} (h : j_X8_parseOwner_30  v0 M = some b) : V G m_X8_parseOwner d 30 [(0, .ref v0)] [] M (jQb cI b) := by
  unfold j_X8_parseOwner_30 at h
  refine v_aload_n dX8_parseOwner_30 rfl 0 rfl ?_
  refine x_inv (cv := cU) (As := []) (rest := []) (ls2 := [(0, .ref v0)]) (ci := 7) (by omega) dX8_parseOwner_31 ke_X8_fail kv_X8_82 rfl rfl (by decide) (Nat.le_of_ble_eq_true rfl) rfl rfl rfl rfl h (fun _ hq => s_X8_fail (by omega) hq) (fun _ M1 h => ?_)
  refine v_iconst dX8_parseOwner_34 ic_0 ?_
  exact x_iret dX8_parseOwner_35 rfl h
def f_X8_parseOwner (v0 : Nat) (M : jM) : jO Int32 :=
  jb2 (jiv 7 M v0 (f_X8_peek v0 M)) fun x2 M1 =>
  (jv (x2 - (nI 97))).bind fun y3 =>
  if y3 < 0 then
    j_X8_parseOwner_30 v0 M1
  else
    (gR 7 M1 v0 4).bind fun r4 =>
    (ln M1 r4).bind fun x5 =>
    if x5 ≤ y3 then
      j_X8_parseOwner_30 v0 M1
    else
      (gR 7 M1 v0 4).bind fun r6 =>
      (ldI M1 r6 y3).bind fun x7 =>
      if x7 = 0 then
        j_X8_parseOwner_30 v0 M1
      else
        (gI 7 M1 v0 2).bind fun x8 =>
        (pI 7 M1 v0 2 (x8 + (nI 1))).bind fun M9 =>
        (gR 7 M9 v0 4).bind fun r10 =>
        (ldI M9 r10 y3).bind fun x11 =>
        rt x11 M9
theorem s_X8_parseOwner {G : jG} {d : Nat} (hd_ : 1 ≤ d) {v0 : Nat} {M : jM} {b : Int32 × jM} (h : f_X8_parseOwner  v0 M = some b) : V G m_X8_parseOwner d 0 [(0, .ref v0)] [] M (jQb cI b) := by
  unfold f_X8_parseOwner at h
  refine v_aload_n dX8_parseOwner_0 rfl 0 rfl ?_
  refine x_inv (cv := cI) (As := []) (rest := []) (ls2 := [(0, .ref v0)]) (ci := 7) (by omega) dX8_parseOwner_1 ke_X8_peek kv_X8_61 rfl rfl (by decide) (Nat.le_of_ble_eq_true rfl) rfl rfl rfl rfl h (fun _ hq => s_X8_peek (by omega) hq) (fun x2 M1 h => ?_)
  refine v_bipush dX8_parseOwner_4 bp_97 ?_
  refine v_isub dX8_parseOwner_6 ?_
  refine x_jvI h (fun y3 h => ?_)
  refine v_istore_n (ls2 := [(1, .int y3), (0, .ref v0)]) dX8_parseOwner_7 rfl (by decide) rfl ?_
  refine v_iload_n dX8_parseOwner_8 rfl 0 rfl ?_
  refine x_if_lt (tgt := 30) dX8_parseOwner_9 (by decide) h (fun h => ?_) (fun h => ?_)
  · exact V.pick [1] rfl (t_X8_parseOwner_30 hd_ h)
  · refine v_iload_n dX8_parseOwner_12 rfl 0 rfl ?_
    refine v_aload_n dX8_parseOwner_13 rfl 1 rfl ?_
    refine x_gR dX8_parseOwner_14 kf_X8_25 rfl h (fun r4 h => ?_)
    refine x_ln dX8_parseOwner_17 h (fun x5 h => ?_)
    refine x_ic_ge (tgt := 30) dX8_parseOwner_18 (by decide) h (fun h => ?_) (fun h => ?_)
    · exact V.pick [1] rfl (t_X8_parseOwner_30 hd_ h)
    · refine v_aload_n dX8_parseOwner_21 rfl 1 rfl ?_
      refine x_gR dX8_parseOwner_22 kf_X8_25 rfl h (fun r6 h => ?_)
      refine v_iload_n dX8_parseOwner_25 rfl 0 rfl ?_
      refine x_ldI dX8_parseOwner_26 h (fun x7 h => ?_)
      refine x_if_ne (tgt := 36) dX8_parseOwner_27 (by decide) h (fun h => ?_) (fun h => ?_)
      · exact V.pick [1] rfl (t_X8_parseOwner_30 hd_ h)
      · refine v_aload_n dX8_parseOwner_36 rfl 1 rfl ?_
        refine v_dup dX8_parseOwner_37 rfl ?_
        refine x_gI dX8_parseOwner_38 kf_X8_19 rfl h (fun x8 h => ?_)
        refine v_iconst dX8_parseOwner_41 ic_1 ?_
        refine v_iadd dX8_parseOwner_42 ?_
        refine x_pI dX8_parseOwner_43 kf_X8_19 rfl (fun q => Bool.noConfusion q) h (fun M9 h => ?_)
        refine v_aload_n dX8_parseOwner_46 rfl 1 rfl ?_
        refine x_gR dX8_parseOwner_47 kf_X8_25 rfl h (fun r10 h => ?_)
        refine v_iload_n dX8_parseOwner_50 rfl 0 rfl ?_
        refine x_ldI dX8_parseOwner_51 h (fun x11 h => ?_)
        exact x_iret dX8_parseOwner_52 rfl h
def j_X8_parseAtom_104  (v1 : Nat) (v2 : Int32) (v5 : Int32) (s0 : Int32) (M : jM) : jO Unit :=
  jb2 (jiv 4 M v1 (f_X4_add v1 v2 v5 s0 M)) fun x2 M1 =>
  rt () M1
theorem t_X8_parseAtom_104 {G : jG} {d : Nat} (hd_ : 2 ≤ d)  {v1 : Nat} {v2 : Int32} {v5 : Int32} {s0 : Int32} {M : jM} {b : Unit × jM} (h : j_X8_parseAtom_104  v1 v2 v5 s0 M = some b) : V G m_X8_parseAtom d 104 [(1, .ref v1), (2, .int v2), (5, .int v5)] [.int s0] M (jQb cU b) := by
  unfold j_X8_parseAtom_104 at h
  refine v_istore (ls2 := [(6, .int s0), (1, .ref v1), (2, .int v2), (5, .int v5)]) dX8_parseAtom_104 (by decide) rfl ?_
  refine v_aload_n dX8_parseAtom_106 rfl 1 rfl ?_
  refine v_iload_n dX8_parseAtom_107 rfl 2 rfl ?_
  refine v_iload dX8_parseAtom_108 3 rfl ?_
  refine v_iload dX8_parseAtom_110 0 rfl ?_
  refine x_inv (cv := cI) (As := [.int v2, .int v5, .int s0]) (rest := []) (ls2 := [(0, .ref v1), (1, .int v2), (2, .int v5), (3, .int s0)]) (ci := 4) (by omega) dX8_parseAtom_112 ke_X4_add kv_X8_89 rfl rfl (by decide) (Nat.le_of_ble_eq_true rfl) rfl rfl rfl rfl h (fun _ hq => s_X4_add (by omega) hq) (fun x2 M1 h => ?_)
  refine v_pop dX8_parseAtom_115 rfl ?_
  exact x_vret dX8_parseAtom_116 rfl h
def j_X8_parseAtom_90  (v0 : Nat) (v1 : Nat) (v2 : Int32) (v3 : Int32) (s0 : Int32) (M : jM) : jO Unit :=
  if v3 = 0 then
    j_X8_parseAtom_104 v1 v2 s0 (nI 0) M
  else
    jb2 (jiv 7 M v0 (f_X8_parseOwner v0 M)) fun x2 M1 =>
    j_X8_parseAtom_104 v1 v2 s0 x2 M1
theorem t_X8_parseAtom_90 {G : jG} {d : Nat} (hd_ : 2 ≤ d)  {v0 : Nat} {v1 : Nat} {v2 : Int32} {v3 : Int32} {s0 : Int32} {M : jM} {b : Unit × jM} (h : j_X8_parseAtom_90  v0 v1 v2 v3 s0 M = some b) : V G m_X8_parseAtom d 90 [(0, .ref v0), (1, .ref v1), (2, .int v2), (3, .int v3)] [.int s0] M (jQb cU b) := by
  unfold j_X8_parseAtom_90 at h
  refine v_istore (ls2 := [(5, .int s0), (0, .ref v0), (1, .ref v1), (2, .int v2), (3, .int v3)]) dX8_parseAtom_90 (by decide) rfl ?_
  refine v_iload_n dX8_parseAtom_92 rfl 4 rfl ?_
  refine x_if_eq (tgt := 103) dX8_parseAtom_93 (by decide) h (fun h => ?_) (fun h => ?_)
  · refine v_iconst dX8_parseAtom_103 ic_0 ?_
    exact V.pick [2, 3, 0] rfl (t_X8_parseAtom_104 hd_ h)
  · refine v_aload_n dX8_parseAtom_96 rfl 1 rfl ?_
    refine x_inv (cv := cI) (As := []) (rest := []) (ls2 := [(0, .ref v0)]) (ci := 7) (by omega) dX8_parseAtom_97 ke_X8_parseOwner kv_X8_93 rfl rfl (by decide) (Nat.le_of_ble_eq_true rfl) rfl rfl rfl rfl h (fun _ hq => s_X8_parseOwner (by omega) hq) (fun x2 M1 h => ?_)
    refine v_goto (tgt := 104) dX8_parseAtom_100 (by decide) ?_
    exact V.pick [2, 3, 0] rfl (t_X8_parseAtom_104 hd_ h)
def j_X8_parseAtom_82  (v0 : Nat) (v1 : Nat) (v2 : Int32) (v3 : Int32) (M : jM) : jO Unit :=
  jb2 (jiv 7 M v0 (f_X8_parseOwner v0 M)) fun x2 M1 =>
  j_X8_parseAtom_90 v0 v1 v2 v3 x2 M1
theorem t_X8_parseAtom_82 {G : jG} {d : Nat} (hd_ : 2 ≤ d)  {v0 : Nat} {v1 : Nat} {v2 : Int32} {v3 : Int32} {M : jM} {b : Unit × jM} (h : j_X8_parseAtom_82  v0 v1 v2 v3 M = some b) : V G m_X8_parseAtom d 82 [(0, .ref v0), (1, .ref v1), (2, .int v2), (3, .int v3)] [] M (jQb cU b) := by
  unfold j_X8_parseAtom_82 at h
  refine v_aload_n dX8_parseAtom_82 rfl 0 rfl ?_
  refine x_inv (cv := cI) (As := []) (rest := []) (ls2 := [(0, .ref v0)]) (ci := 7) (by omega) dX8_parseAtom_83 ke_X8_parseOwner kv_X8_93 rfl rfl (by decide) (Nat.le_of_ble_eq_true rfl) rfl rfl rfl rfl h (fun _ hq => s_X8_parseOwner (by omega) hq) (fun x2 M1 h => ?_)
  refine v_goto (tgt := 90) dX8_parseAtom_86 (by decide) ?_
  exact t_X8_parseAtom_90 hd_ h
def j_X8_parseAtom_63  (v0 : Nat) (v1 : Nat) (v2 : Int32) (v3 : Int32) (v4 : Int32) (M : jM) : jO Unit :=
  (gI 7 M v0 2).bind fun x1 =>
  (pI 7 M v0 2 (x1 + (nI 1))).bind fun M2 =>
  if v3 = 0 then
    if v4 = 0 then
      j_X8_parseAtom_90 v0 v1 v2 v3 (nI 0) M2
    else
      j_X8_parseAtom_82 v0 v1 v2 v3 M2
  else
    j_X8_parseAtom_82 v0 v1 v2 v3 M2
theorem t_X8_parseAtom_63 {G : jG} {d : Nat} (hd_ : 2 ≤ d)  {v0 : Nat} {v1 : Nat} {v2 : Int32} {v3 : Int32} {v4 : Int32} {M : jM} {b : Unit × jM} (h : j_X8_parseAtom_63  v0 v1 v2 v3 v4 M = some b) : V G m_X8_parseAtom d 63 [(0, .ref v0), (1, .ref v1), (2, .int v2), (3, .int v3), (4, .int v4)] [] M (jQb cU b) := by
  unfold j_X8_parseAtom_63 at h
  refine v_aload_n dX8_parseAtom_63 rfl 0 rfl ?_
  refine v_dup dX8_parseAtom_64 rfl ?_
  refine x_gI dX8_parseAtom_65 kf_X8_19 rfl h (fun x1 h => ?_)
  refine v_iconst dX8_parseAtom_68 ic_1 ?_
  refine v_iadd dX8_parseAtom_69 ?_
  refine x_pI dX8_parseAtom_70 kf_X8_19 rfl (fun q => Bool.noConfusion q) h (fun M2 h => ?_)
  refine v_iload_n dX8_parseAtom_73 rfl 3 rfl ?_
  refine x_if_ne (tgt := 82) dX8_parseAtom_74 (by decide) h (fun h => ?_) (fun h => ?_)
  · refine v_iload dX8_parseAtom_77 4 rfl ?_
    refine x_if_eq (tgt := 89) dX8_parseAtom_79 (by decide) h (fun h => ?_) (fun h => ?_)
    · refine v_iconst dX8_parseAtom_89 ic_0 ?_
      exact V.pick [0, 1, 2, 3] rfl (t_X8_parseAtom_90 hd_ h)
    · exact V.pick [0, 1, 2, 3] rfl (t_X8_parseAtom_82 hd_ h)
  · exact V.pick [0, 1, 2, 3] rfl (t_X8_parseAtom_82 hd_ h)
def j_X8_parseAtom_35  (v0 : Nat) (v1 : Nat) (v2 : Int32) (v3 : Int32) (s0 : Int32) (M : jM) : jO Unit :=
  if v3 = 0 then
    if s0 = 0 then
      if v2 = (nI 84) then
        j_X8_parseAtom_63 v0 v1 v2 v3 s0 M
      else
        if v2 = (nI 70) then
          j_X8_parseAtom_63 v0 v1 v2 v3 s0 M
        else
          jb2 (jiv 7 M v0 (f_X8_fail v0 M)) fun _ M1 =>
          rt () M1
    else
      j_X8_parseAtom_63 v0 v1 v2 v3 s0 M
  else
    j_X8_parseAtom_63 v0 v1 v2 v3 s0 M
theorem t_X8_parseAtom_35 {G : jG} {d : Nat} (hd_ : 2 ≤ d)  {v0 : Nat} {v1 : Nat} {v2 : Int32} {v3 : Int32} {s0 : Int32} {M : jM} {b : Unit × jM} (h : j_X8_parseAtom_35  v0 v1 v2 v3 s0 M = some b) : V G m_X8_parseAtom d 35 [(0, .ref v0), (1, .ref v1), (2, .int v2), (3, .int v3)] [.int s0] M (jQb cU b) := by
  unfold j_X8_parseAtom_35 at h
  refine v_istore (ls2 := [(4, .int s0), (0, .ref v0), (1, .ref v1), (2, .int v2), (3, .int v3)]) dX8_parseAtom_35 (by decide) rfl ?_
  refine v_iload_n dX8_parseAtom_37 rfl 4 rfl ?_
  refine x_if_ne (tgt := 63) dX8_parseAtom_38 (by decide) h (fun h => ?_) (fun h => ?_)
  · refine v_iload dX8_parseAtom_41 0 rfl ?_
    refine x_if_ne (tgt := 63) dX8_parseAtom_43 (by decide) h (fun h => ?_) (fun h => ?_)
    · refine v_iload_n dX8_parseAtom_46 rfl 3 rfl ?_
      refine v_bipush dX8_parseAtom_47 bp_84 ?_
      refine x_ic_eq (tgt := 63) dX8_parseAtom_49 (by decide) h (fun h => ?_) (fun h => ?_)
      · exact V.pick [1, 2, 3, 4, 0] rfl (t_X8_parseAtom_63 hd_ h)
      · refine v_iload_n dX8_parseAtom_52 rfl 3 rfl ?_
        refine v_bipush dX8_parseAtom_53 bp_70 ?_
        refine x_ic_eq (tgt := 63) dX8_parseAtom_55 (by decide) h (fun h => ?_) (fun h => ?_)
        · exact V.pick [1, 2, 3, 4, 0] rfl (t_X8_parseAtom_63 hd_ h)
        · refine v_aload_n dX8_parseAtom_58 rfl 1 rfl ?_
          refine x_inv (cv := cU) (As := []) (rest := []) (ls2 := [(0, .ref v0)]) (ci := 7) (by omega) dX8_parseAtom_59 ke_X8_fail kv_X8_82 rfl rfl (by decide) (Nat.le_of_ble_eq_true rfl) rfl rfl rfl rfl h (fun _ hq => s_X8_fail (by omega) hq) (fun _ M1 h => ?_)
          exact x_vret dX8_parseAtom_62 rfl h
    · exact V.pick [1, 2, 3, 4, 0] rfl (t_X8_parseAtom_63 hd_ h)
  · exact V.pick [1, 2, 3, 4, 0] rfl (t_X8_parseAtom_63 hd_ h)
def j_X8_parseAtom_30  (v0 : Nat) (v1 : Nat) (v2 : Int32) (v3 : Int32) (M : jM) : jO Unit :=
  j_X8_parseAtom_35 v0 v1 v2 v3 (nI 1) M
theorem t_X8_parseAtom_30 {G : jG} {d : Nat} (hd_ : 2 ≤ d)  {v0 : Nat} {v1 : Nat} {v2 : Int32} {v3 : Int32} {M : jM} {b : Unit × jM} (h : j_X8_parseAtom_30  v0 v1 v2 v3 M = some b) : V G m_X8_parseAtom d 30 [(0, .ref v0), (1, .ref v1), (2, .int v2), (3, .int v3)] [] M (jQb cU b) := by
  unfold j_X8_parseAtom_30 at h
  refine v_iconst dX8_parseAtom_30 ic_1 ?_
  refine v_goto (tgt := 35) dX8_parseAtom_31 (by decide) ?_
  exact t_X8_parseAtom_35 hd_ h
def j_X8_parseAtom_17  (v0 : Nat) (v1 : Nat) (v2 : Int32) (s0 : Int32) (M : jM) : jO Unit :=
  if v2 = (nI 65) then
    j_X8_parseAtom_30 v0 v1 v2 s0 M
  else
    if v2 = (nI 66) then
      j_X8_parseAtom_30 v0 v1 v2 s0 M
    else
      j_X8_parseAtom_35 v0 v1 v2 s0 (nI 0) M
theorem t_X8_parseAtom_17 {G : jG} {d : Nat} (hd_ : 2 ≤ d)  {v0 : Nat} {v1 : Nat} {v2 : Int32} {s0 : Int32} {M : jM} {b : Unit × jM} (h : j_X8_parseAtom_17  v0 v1 v2 s0 M = some b) : V G m_X8_parseAtom d 17 [(0, .ref v0), (1, .ref v1), (2, .int v2)] [.int s0] M (jQb cU b) := by
  unfold j_X8_parseAtom_17 at h
  refine v_istore_n (ls2 := [(3, .int s0), (0, .ref v0), (1, .ref v1), (2, .int v2)]) dX8_parseAtom_17 rfl (by decide) rfl ?_
  refine v_iload_n dX8_parseAtom_18 rfl 3 rfl ?_
  refine v_bipush dX8_parseAtom_19 bp_65 ?_
  refine x_ic_eq (tgt := 30) dX8_parseAtom_21 (by decide) h (fun h => ?_) (fun h => ?_)
  · exact V.pick [1, 2, 3, 0] rfl (t_X8_parseAtom_30 hd_ h)
  · refine v_iload_n dX8_parseAtom_24 rfl 3 rfl ?_
    refine v_bipush dX8_parseAtom_25 bp_66 ?_
    refine x_ic_ne (tgt := 34) dX8_parseAtom_27 (by decide) h (fun h => ?_) (fun h => ?_)
    · exact V.pick [1, 2, 3, 0] rfl (t_X8_parseAtom_30 hd_ h)
    · refine v_iconst dX8_parseAtom_34 ic_0 ?_
      exact V.pick [1, 2, 3, 0] rfl (t_X8_parseAtom_35 hd_ h)
def j_X8_parseAtom_12  (v0 : Nat) (v1 : Nat) (v2 : Int32) (M : jM) : jO Unit :=
  j_X8_parseAtom_17 v0 v1 v2 (nI 1) M
theorem t_X8_parseAtom_12 {G : jG} {d : Nat} (hd_ : 2 ≤ d)  {v0 : Nat} {v1 : Nat} {v2 : Int32} {M : jM} {b : Unit × jM} (h : j_X8_parseAtom_12  v0 v1 v2 M = some b) : V G m_X8_parseAtom d 12 [(0, .ref v0), (1, .ref v1), (2, .int v2)] [] M (jQb cU b) := by
  unfold j_X8_parseAtom_12 at h
  refine v_iconst dX8_parseAtom_12 ic_1 ?_
  refine v_goto (tgt := 17) dX8_parseAtom_13 (by decide) ?_
  exact t_X8_parseAtom_17 hd_ h
def f_X8_parseAtom (v0 : Nat) (v1 : Nat) (v2 : Int32) (M : jM) : jO Unit :=
  if v2 = (nI 69) then
    j_X8_parseAtom_12 v0 v1 v2 M
  else
    if v2 = (nI 61) then
      j_X8_parseAtom_12 v0 v1 v2 M
    else
      j_X8_parseAtom_17 v0 v1 v2 (nI 0) M
theorem s_X8_parseAtom {G : jG} {d : Nat} (hd_ : 2 ≤ d) {v0 : Nat} {v1 : Nat} {v2 : Int32} {M : jM} {b : Unit × jM} (h : f_X8_parseAtom  v0 v1 v2 M = some b) : V G m_X8_parseAtom d 0 [(0, .ref v0), (1, .ref v1), (2, .int v2)] [] M (jQb cU b) := by
  unfold f_X8_parseAtom at h
  refine v_iload_n dX8_parseAtom_0 rfl 2 rfl ?_
  refine v_bipush dX8_parseAtom_1 bp_69 ?_
  refine x_ic_eq (tgt := 12) dX8_parseAtom_3 (by decide) h (fun h => ?_) (fun h => ?_)
  · exact t_X8_parseAtom_12 hd_ h
  · refine v_iload_n dX8_parseAtom_6 rfl 2 rfl ?_
    refine v_bipush dX8_parseAtom_7 bp_61 ?_
    refine x_ic_ne (tgt := 16) dX8_parseAtom_9 (by decide) h (fun h => ?_) (fun h => ?_)
    · exact t_X8_parseAtom_12 hd_ h
    · refine v_iconst dX8_parseAtom_16 ic_0 ?_
      exact t_X8_parseAtom_17 hd_ h
def f_X4_insert (v0 : Nat) (v1 : Int32) (v2 : Int32) (M : jM) : jO Unit :=
  if v1 < 0 then
    rt () M
  else
    (gI 4 M v0 1).bind fun x1 =>
    if x1 < v1 then
      rt () M
    else
      (gI 4 M v0 1).bind fun x2 =>
      (gR 4 M v0 0).bind fun r3 =>
      (ln M r3).bind fun x4 =>
      if x2 < x4 then
        (gR 4 M v0 0).bind fun r5 =>
        (gR 4 M v0 0).bind fun r6 =>
        (gI 4 M v0 1).bind fun x7 =>
        (cpI 100 M r5 v1 r6 (v1 + (nI 1)) (x7 - v1)).bind fun M8 =>
        (gR 4 M8 v0 0).bind fun r9 =>
        jb2 (f_X4_encode v2 (nI 0) (nI 0) M8) fun x11 M10 =>
        (stI M10 r9 v1 x11).bind fun M12 =>
        (gI 4 M12 v0 1).bind fun x13 =>
        (pI 4 M12 v0 1 (x13 + (nI 1))).bind fun M14 =>
        rt () M14
      else
        rt () M
theorem s_X4_insert {G : jG} {d : Nat} (hd_ : 1 ≤ d) {v0 : Nat} {v1 : Int32} {v2 : Int32} {M : jM} {b : Unit × jM} (h : f_X4_insert  v0 v1 v2 M = some b) : V G m_X4_insert d 0 [(0, .ref v0), (1, .int v1), (2, .int v2)] [] M (jQb cU b) := by
  unfold f_X4_insert at h
  refine v_iload_n dX4_insert_0 rfl 1 rfl ?_
  refine x_if_lt (tgt := 24) dX4_insert_1 (by decide) h (fun h => ?_) (fun h => ?_)
  · exact x_vret dX4_insert_24 rfl h
  · refine v_iload_n dX4_insert_4 rfl 1 rfl ?_
    refine v_aload_n dX4_insert_5 rfl 0 rfl ?_
    refine x_gI dX4_insert_6 kf_X4_15 rfl h (fun x1 h => ?_)
    refine x_ic_gt (tgt := 24) dX4_insert_9 (by decide) h (fun h => ?_) (fun h => ?_)
    · exact x_vret dX4_insert_24 rfl h
    · refine v_aload_n dX4_insert_12 rfl 0 rfl ?_
      refine x_gI dX4_insert_13 kf_X4_15 rfl h (fun x2 h => ?_)
      refine v_aload_n dX4_insert_16 rfl 0 rfl ?_
      refine x_gR dX4_insert_17 kf_X4_9 rfl h (fun r3 h => ?_)
      refine x_ln dX4_insert_20 h (fun x4 h => ?_)
      refine x_ic_lt (tgt := 25) dX4_insert_21 (by decide) h (fun h => ?_) (fun h => ?_)
      · refine v_aload_n dX4_insert_25 rfl 0 rfl ?_
        refine x_gR dX4_insert_26 kf_X4_9 rfl h (fun r5 h => ?_)
        refine v_iload_n dX4_insert_29 rfl 1 rfl ?_
        refine v_aload_n dX4_insert_30 rfl 0 rfl ?_
        refine x_gR dX4_insert_31 kf_X4_9 rfl h (fun r6 h => ?_)
        refine v_iload_n dX4_insert_34 rfl 1 rfl ?_
        refine v_iconst dX4_insert_35 ic_1 ?_
        refine v_iadd dX4_insert_36 ?_
        refine v_aload_n dX4_insert_37 rfl 0 rfl ?_
        refine x_gI dX4_insert_38 kf_X4_15 rfl h (fun x7 h => ?_)
        refine v_iload_n dX4_insert_41 rfl 1 rfl ?_
        refine v_isub dX4_insert_42 ?_
        refine x_cp (by omega) (by decide) dX4_insert_43 kp_X4_30 rfl h (fun M8 h => ?_)
        refine v_aload_n dX4_insert_46 rfl 0 rfl ?_
        refine x_gR dX4_insert_47 kf_X4_9 rfl h (fun r9 h => ?_)
        refine v_iload_n dX4_insert_50 rfl 1 rfl ?_
        refine v_iload_n dX4_insert_51 rfl 2 rfl ?_
        refine v_iconst dX4_insert_52 ic_0 ?_
        refine v_iconst dX4_insert_53 ic_0 ?_
        refine x_invs (cv := cI) (As := [.int v2, .int (nI 0), .int (nI 0)]) (rest := [.int v1, .ref r9]) (ls2 := [(0, .int v2), (1, .int (nI 0)), (2, .int (nI 0))]) (by omega) dX4_insert_54 ke_X4_encode ks_X4_26 (Nat.le_of_ble_eq_true rfl) rfl rfl rfl rfl h (fun _ hq => s_X4_encode (by omega) hq) (fun x11 M10 h => ?_)
        refine x_stI dX4_insert_57 h (fun M12 h => ?_)
        refine v_aload_n dX4_insert_58 rfl 0 rfl ?_
        refine v_dup dX4_insert_59 rfl ?_
        refine x_gI dX4_insert_60 kf_X4_15 rfl h (fun x13 h => ?_)
        refine v_iconst dX4_insert_63 ic_1 ?_
        refine v_iadd dX4_insert_64 ?_
        refine x_pI dX4_insert_65 kf_X4_15 rfl (fun q => Bool.noConfusion q) h (fun M14 h => ?_)
        exact x_vret dX4_insert_68 rfl h
      · exact x_vret dX4_insert_24 rfl h
def j_X8_parseFormula_93 (rec_ : Nat → Nat → Int32 → Int32 → jM → jO Unit)  (v1 : Nat) (v4 : Int32) (M : jM) : jO Unit :=
  jb2 (jiv 4 M v1 (f_X4_close v1 v4 M)) fun _ M1 =>
  rt () M1
theorem t_X8_parseFormula_93 {G : jG} {d : Nat} {D_ : Nat} {rec_ : Nat → Nat → Int32 → Int32 → jM → jO Unit} (hrec_ : ∀ d2, D_ ≤ d2 → ∀ (u0 : Nat) (u1 : Nat) (u2 : Int32) (u3 : Int32) (M : jM) b2, rec_ u0 u1 u2 u3 M = some b2 → V G m_X8_parsePart d2 0 [(0, .ref u0), (1, .ref u1), (2, .int u2), (3, .int u3)] [] M (jQb cU b2)) (hD_ : 2 ≤ D_) (hd_ : D_ + 1 ≤ d)  {v1 : Nat} {v4 : Int32} {M : jM} {b : Unit × jM} (h : j_X8_parseFormula_93 rec_ v1 v4 M = some b) : V G m_X8_parseFormula d 93 [(1, .ref v1), (4, .int v4)] [] M (jQb cU b) := by
  unfold j_X8_parseFormula_93 at h
  refine v_aload_n dX8_parseFormula_93 rfl 0 rfl ?_
  refine v_iload dX8_parseFormula_94 1 rfl ?_
  refine x_inv (cv := cU) (As := [.int v4]) (rest := []) (ls2 := [(0, .ref v1), (1, .int v4)]) (ci := 4) (by omega) dX8_parseFormula_96 ke_X4_close kv_X8_72 rfl rfl (by decide) (Nat.le_of_ble_eq_true rfl) rfl rfl rfl rfl h (fun _ hq => s_X4_close (by omega) hq) (fun _ M1 h => ?_)
  exact x_vret dX8_parseFormula_99 rfl h
def b_X8_parseFormula_46 (rec_ : Nat → Nat → Int32 → Int32 → jM → jO Unit)  (k46 : Nat → Nat → Int32 → Int32 → Int32 → Int32 → Int32 → jM → jO Unit) (v0 : Nat) (v1 : Nat) (v2 : Int32) (v3 : Int32) (v4 : Int32) (v5 : Int32) (v6 : Int32) (M : jM) : jO Unit :=
  if (nI 800) ≤ v6 then
    j_X8_parseFormula_93 rec_ v1 v4 M
  else
    (gI 7 M v0 3).bind fun x1 =>
    if 0 ≤ x1 then
      j_X8_parseFormula_93 rec_ v1 v4 M
    else
      jb2 (jiv 7 M v0 (f_X8_peek v0 M)) fun x3 M2 =>
      if x3 = v5 then
        (gI 7 M2 v0 2).bind fun x4 =>
        (pI 7 M2 v0 2 (x4 + (nI 1))).bind fun M5 =>
        jb2 (jiv 7 M5 v0 (rec_ v0 v1 v2 v3 M5)) fun _ M6 =>
        k46 v0 v1 v2 v3 v4 v5 (v6 + (nI 1)) M6
      else
        j_X8_parseFormula_93 rec_ v1 v4 M2
def l_X8_parseFormula_46 (rec_ : Nat → Nat → Int32 → Int32 → jM → jO Unit)  : Nat → Nat → Nat → Int32 → Int32 → Int32 → Int32 → Int32 → jM → jO Unit
  | 0 => fun _ _ _ _ _ _ _ _ => none
  | n + 1 => b_X8_parseFormula_46 rec_ (l_X8_parseFormula_46 rec_ n)
theorem tb_X8_parseFormula_46 {G : jG} {d : Nat} {D_ : Nat} {rec_ : Nat → Nat → Int32 → Int32 → jM → jO Unit} (hrec_ : ∀ d2, D_ ≤ d2 → ∀ (u0 : Nat) (u1 : Nat) (u2 : Int32) (u3 : Int32) (M : jM) b2, rec_ u0 u1 u2 u3 M = some b2 → V G m_X8_parsePart d2 0 [(0, .ref u0), (1, .ref u1), (2, .int u2), (3, .int u3)] [] M (jQb cU b2)) (hD_ : 2 ≤ D_) (hd_ : D_ + 1 ≤ d)  {k46 : Nat → Nat → Int32 → Int32 → Int32 → Int32 → Int32 → jM → jO Unit} (hk46 : ∀ (w0 : Nat) (w1 : Nat) (w2 : Int32) (w3 : Int32) (w4 : Int32) (w5 : Int32) (w6 : Int32) (M : jM) (b : Unit × jM), k46 w0 w1 w2 w3 w4 w5 w6 M = some b → V G m_X8_parseFormula d 46 [(0, .ref w0), (1, .ref w1), (2, .int w2), (3, .int w3), (4, .int w4), (5, .int w5), (6, .int w6)] [] M (jQb cU b)) {v0 : Nat} {v1 : Nat} {v2 : Int32} {v3 : Int32} {v4 : Int32} {v5 : Int32} {v6 : Int32} {M : jM} {b : Unit × jM} (h : b_X8_parseFormula_46 rec_ k46 v0 v1 v2 v3 v4 v5 v6 M = some b) : V G m_X8_parseFormula d 46 [(0, .ref v0), (1, .ref v1), (2, .int v2), (3, .int v3), (4, .int v4), (5, .int v5), (6, .int v6)] [] M (jQb cU b) := by
  unfold b_X8_parseFormula_46 at h
  refine v_iload dX8_parseFormula_46 6 rfl ?_
  refine v_sipush dX8_parseFormula_48 sp_800 ?_
  refine x_ic_ge (tgt := 93) dX8_parseFormula_51 (by decide) h (fun h => ?_) (fun h => ?_)
  · exact V.pick [1, 4] rfl (t_X8_parseFormula_93 hrec_ hD_ hd_ h)
  · refine v_aload_n dX8_parseFormula_54 rfl 0 rfl ?_
    refine x_gI dX8_parseFormula_55 kf_X8_22 rfl h (fun x1 h => ?_)
    refine x_if_ge (tgt := 93) dX8_parseFormula_58 (by decide) h (fun h => ?_) (fun h => ?_)
    · exact V.pick [1, 4] rfl (t_X8_parseFormula_93 hrec_ hD_ hd_ h)
    · refine v_aload_n dX8_parseFormula_61 rfl 0 rfl ?_
      refine x_inv (cv := cI) (As := []) (rest := []) (ls2 := [(0, .ref v0)]) (ci := 7) (by omega) dX8_parseFormula_62 ke_X8_peek kv_X8_61 rfl rfl (by decide) (Nat.le_of_ble_eq_true rfl) rfl rfl rfl rfl h (fun _ hq => s_X8_peek (by omega) hq) (fun x3 M2 h => ?_)
      refine v_iload dX8_parseFormula_65 5 rfl ?_
      refine x_ic_ne (tgt := 93) dX8_parseFormula_67 (by decide) h (fun h => ?_) (fun h => ?_)
      · refine v_aload_n dX8_parseFormula_70 rfl 0 rfl ?_
        refine v_dup dX8_parseFormula_71 rfl ?_
        refine x_gI dX8_parseFormula_72 kf_X8_19 rfl h (fun x4 h => ?_)
        refine v_iconst dX8_parseFormula_75 ic_1 ?_
        refine v_iadd dX8_parseFormula_76 ?_
        refine x_pI dX8_parseFormula_77 kf_X8_19 rfl (fun q => Bool.noConfusion q) h (fun M5 h => ?_)
        refine v_aload_n dX8_parseFormula_80 rfl 0 rfl ?_
        refine v_aload_n dX8_parseFormula_81 rfl 1 rfl ?_
        refine v_iload_n dX8_parseFormula_82 rfl 2 rfl ?_
        refine v_iload_n dX8_parseFormula_83 rfl 3 rfl ?_
        refine x_inv (cv := cU) (As := [.ref v1, .int v2, .int v3]) (rest := []) (ls2 := [(0, .ref v0), (1, .ref v1), (2, .int v2), (3, .int v3)]) (ci := 7) (by omega) dX8_parseFormula_84 ke_X8_parsePart kv_X8_58 rfl rfl (by decide) (Nat.le_of_ble_eq_true rfl) rfl rfl rfl rfl h (fun _ hq => hrec_ _ (by omega) _ _ _ _ _ _ hq) (fun _ M6 h => ?_)
        refine v_iincC (ls2 := [(6, .int (v6 + (nI 1))), (0, .ref v0), (1, .ref v1), (2, .int v2), (3, .int v3), (4, .int v4), (5, .int v5)]) dX8_parseFormula_87 ic_1 6 rfl (by decide) rfl ?_
        refine v_goto (tgt := 46) dX8_parseFormula_90 (by decide) ?_
        exact V.pick [1, 2, 3, 4, 5, 6, 0] rfl (hk46 _ _ _ _ _ _ _ _ _ h)
      · exact V.pick [1, 4] rfl (t_X8_parseFormula_93 hrec_ hD_ hd_ h)
theorem t_X8_parseFormula_46 {G : jG} {d : Nat} {D_ : Nat} {rec_ : Nat → Nat → Int32 → Int32 → jM → jO Unit} (hrec_ : ∀ d2, D_ ≤ d2 → ∀ (u0 : Nat) (u1 : Nat) (u2 : Int32) (u3 : Int32) (M : jM) b2, rec_ u0 u1 u2 u3 M = some b2 → V G m_X8_parsePart d2 0 [(0, .ref u0), (1, .ref u1), (2, .int u2), (3, .int u3)] [] M (jQb cU b2)) (hD_ : 2 ≤ D_) (hd_ : D_ + 1 ≤ d)  : ∀ (n : Nat) (v0 : Nat) (v1 : Nat) (v2 : Int32) (v3 : Int32) (v4 : Int32) (v5 : Int32) (v6 : Int32) (M : jM) (b : Unit × jM), l_X8_parseFormula_46 rec_ n v0 v1 v2 v3 v4 v5 v6 M = some b → V G m_X8_parseFormula d 46 [(0, .ref v0), (1, .ref v1), (2, .int v2), (3, .int v3), (4, .int v4), (5, .int v5), (6, .int v6)] [] M (jQb cU b) := by
  intro n
  induction n with
  | zero => intro v0 v1 v2 v3 v4 v5 v6 M b h; exact nomatch (show (none : jO Unit) = some b from h)
  | succ n ih => intro v0 v1 v2 v3 v4 v5 v6 M b h; exact tb_X8_parseFormula_46 hrec_ hD_ hd_  ih h
def f_X8_parseFormula (rec_ : Nat → Nat → Int32 → Int32 → jM → jO Unit) (v0 : Nat) (v1 : Nat) (v2 : Int32) (v3 : Int32) (M : jM) : jO Unit :=
  jb2 (jiv 4 M v1 (f_X4_count v1 M)) fun x2 M1 =>
  jb2 (jiv 7 M1 v0 (rec_ v0 v1 v2 v3 M1)) fun _ M3 =>
  jb2 (jiv 7 M3 v0 (f_X8_peek v0 M3)) fun x5 M4 =>
  (gI 7 M4 v0 3).bind fun x6 =>
  if 0 ≤ x6 then
    rt () M4
  else
    jb2 (f_X4_isList x5 M4) fun x8 M7 =>
    if x8 = 0 then
      rt () M7
    else
      jb2 (jiv 4 M7 v1 (f_X4_insert v1 x2 x5 M7)) fun _ M9 =>
      l_X8_parseFormula_46 rec_ jF0 v0 v1 v2 v3 x2 x5 (nI 1) M9
theorem s_X8_parseFormula {G : jG} {d : Nat} {D_ : Nat} {rec_ : Nat → Nat → Int32 → Int32 → jM → jO Unit} (hrec_ : ∀ d2, D_ ≤ d2 → ∀ (u0 : Nat) (u1 : Nat) (u2 : Int32) (u3 : Int32) (M : jM) b2, rec_ u0 u1 u2 u3 M = some b2 → V G m_X8_parsePart d2 0 [(0, .ref u0), (1, .ref u1), (2, .int u2), (3, .int u3)] [] M (jQb cU b2)) (hD_ : 2 ≤ D_) (hd_ : D_ + 1 ≤ d) {v0 : Nat} {v1 : Nat} {v2 : Int32} {v3 : Int32} {M : jM} {b : Unit × jM} (h : f_X8_parseFormula rec_ v0 v1 v2 v3 M = some b) : V G m_X8_parseFormula d 0 [(0, .ref v0), (1, .ref v1), (2, .int v2), (3, .int v3)] [] M (jQb cU b) := by
  unfold f_X8_parseFormula at h
  refine v_aload_n dX8_parseFormula_0 rfl 1 rfl ?_
  refine x_inv (cv := cI) (As := []) (rest := []) (ls2 := [(0, .ref v1)]) (ci := 4) (by omega) dX8_parseFormula_1 ke_X4_count kv_X8_52 rfl rfl (by decide) (Nat.le_of_ble_eq_true rfl) rfl rfl rfl rfl h (fun _ hq => s_X4_count (by omega) hq) (fun x2 M1 h => ?_)
  refine v_istore (ls2 := [(4, .int x2), (0, .ref v0), (1, .ref v1), (2, .int v2), (3, .int v3)]) dX8_parseFormula_4 (by decide) rfl ?_
  refine v_aload_n dX8_parseFormula_6 rfl 1 rfl ?_
  refine v_aload_n dX8_parseFormula_7 rfl 2 rfl ?_
  refine v_iload_n dX8_parseFormula_8 rfl 3 rfl ?_
  refine v_iload_n dX8_parseFormula_9 rfl 4 rfl ?_
  refine x_inv (cv := cU) (As := [.ref v1, .int v2, .int v3]) (rest := []) (ls2 := [(0, .ref v0), (1, .ref v1), (2, .int v2), (3, .int v3)]) (ci := 7) (by omega) dX8_parseFormula_10 ke_X8_parsePart kv_X8_58 rfl rfl (by decide) (Nat.le_of_ble_eq_true rfl) rfl rfl rfl rfl h (fun _ hq => hrec_ _ (by omega) _ _ _ _ _ _ hq) (fun _ M3 h => ?_)
  refine v_aload_n dX8_parseFormula_13 rfl 1 rfl ?_
  refine x_inv (cv := cI) (As := []) (rest := []) (ls2 := [(0, .ref v0)]) (ci := 7) (by omega) dX8_parseFormula_14 ke_X8_peek kv_X8_61 rfl rfl (by decide) (Nat.le_of_ble_eq_true rfl) rfl rfl rfl rfl h (fun _ hq => s_X8_peek (by omega) hq) (fun x5 M4 h => ?_)
  refine v_istore (ls2 := [(5, .int x5), (4, .int x2), (0, .ref v0), (1, .ref v1), (2, .int v2), (3, .int v3)]) dX8_parseFormula_17 (by decide) rfl ?_
  refine v_aload_n dX8_parseFormula_19 rfl 2 rfl ?_
  refine x_gI dX8_parseFormula_20 kf_X8_22 rfl h (fun x6 h => ?_)
  refine x_if_ge (tgt := 34) dX8_parseFormula_23 (by decide) h (fun h => ?_) (fun h => ?_)
  · exact x_vret dX8_parseFormula_34 rfl h
  · refine v_iload dX8_parseFormula_26 0 rfl ?_
    refine x_invs (cv := cI) (As := [.int x5]) (rest := []) (ls2 := [(0, .int x5)]) (by omega) dX8_parseFormula_28 ke_X4_isList ks_X8_64 (Nat.le_of_ble_eq_true rfl) rfl rfl rfl rfl h (fun _ hq => s_X4_isList (by omega) hq) (fun x8 M7 h => ?_)
    refine x_if_ne (tgt := 35) dX8_parseFormula_31 (by decide) h (fun h => ?_) (fun h => ?_)
    · exact x_vret dX8_parseFormula_34 rfl h
    · refine v_aload_n dX8_parseFormula_35 rfl 3 rfl ?_
      refine v_iload dX8_parseFormula_36 1 rfl ?_
      refine v_iload dX8_parseFormula_38 0 rfl ?_
      refine x_inv (cv := cU) (As := [.int x2, .int x5]) (rest := []) (ls2 := [(0, .ref v1), (1, .int x2), (2, .int x5)]) (ci := 4) (by omega) dX8_parseFormula_40 ke_X4_insert kv_X8_68 rfl rfl (by decide) (Nat.le_of_ble_eq_true rfl) rfl rfl rfl rfl h (fun _ hq => s_X4_insert (by omega) hq) (fun _ M9 h => ?_)
      refine v_iconst dX8_parseFormula_43 ic_1 ?_
      refine v_istore (ls2 := [(6, .int (nI 1)), (5, .int x5), (4, .int x2), (0, .ref v0), (1, .ref v1), (2, .int v2), (3, .int v3)]) dX8_parseFormula_44 (by decide) rfl ?_
      exact V.pick [3, 4, 5, 6, 2, 1, 0] rfl (t_X8_parseFormula_46 hrec_ hD_ hd_ _ _ _ _ _ _ _ _ _ _ h)
def j_X8_parseQuantified_24 (rec_ : Nat → Nat → Int32 → Int32 → jM → jO Unit)  (v0 : Nat) (M : jM) : jO Unit :=
  jb2 (jiv 7 M v0 (f_X8_fail v0 M)) fun _ M1 =>
  rt () M1
theorem t_X8_parseQuantified_24 {G : jG} {d : Nat} {D_ : Nat} {rec_ : Nat → Nat → Int32 → Int32 → jM → jO Unit} (hrec_ : ∀ d2, D_ ≤ d2 → ∀ (u0 : Nat) (u1 : Nat) (u2 : Int32) (u3 : Int32) (M : jM) b2, rec_ u0 u1 u2 u3 M = some b2 → V G m_X8_parsePart d2 0 [(0, .ref u0), (1, .ref u1), (2, .int u2), (3, .int u3)] [] M (jQb cU b2)) (hD_ : 2 ≤ D_) (hd_ : D_ + 1 ≤ d)  {v0 : Nat} {M : jM} {b : Unit × jM} (h : j_X8_parseQuantified_24 rec_ v0 M = some b) : V G m_X8_parseQuantified d 24 [(0, .ref v0)] [] M (jQb cU b) := by
  unfold j_X8_parseQuantified_24 at h
  refine v_aload_n dX8_parseQuantified_24 rfl 0 rfl ?_
  refine x_inv (cv := cU) (As := []) (rest := []) (ls2 := [(0, .ref v0)]) (ci := 7) (by omega) dX8_parseQuantified_25 ke_X8_fail kv_X8_82 rfl rfl (by decide) (Nat.le_of_ble_eq_true rfl) rfl rfl rfl rfl h (fun _ hq => s_X8_fail (by omega) hq) (fun _ M1 h => ?_)
  exact x_vret dX8_parseQuantified_28 rfl h
def f_X8_parseQuantified (rec_ : Nat → Nat → Int32 → Int32 → jM → jO Unit) (v0 : Nat) (v1 : Nat) (v2 : Int32) (v3 : Int32) (v4 : Int32) (M : jM) : jO Unit :=
  jb2 (jiv 7 M v0 (f_X8_peek v0 M)) fun x2 M1 =>
  (jv (x2 - (nI 97))).bind fun y3 =>
  if y3 < 0 then
    j_X8_parseQuantified_24 rec_ v0 M1
  else
    (gR 7 M1 v0 4).bind fun r4 =>
    (ln M1 r4).bind fun x5 =>
    if y3 < x5 then
      (gI 7 M1 v0 2).bind fun x6 =>
      (pI 7 M1 v0 2 (x6 + (nI 1))).bind fun M7 =>
      (gR 7 M7 v0 4).bind fun r8 =>
      (ldI M7 r8 y3).bind fun x9 =>
      (gR 7 M7 v0 4).bind fun r10 =>
      (stI M7 r10 y3 v4).bind fun M11 =>
      jb2 (jiv 4 M11 v1 (f_X4_add v1 v2 v4 (nI 0) M11)) fun x13 M12 =>
      jb2 (jiv 7 M12 v0 (rec_ v0 v1 v3 v4 M12)) fun _ M14 =>
      jb2 (jiv 4 M14 v1 (f_X4_close v1 x13 M14)) fun _ M15 =>
      (gR 7 M15 v0 4).bind fun r16 =>
      (stI M15 r16 y3 x9).bind fun M17 =>
      rt () M17
    else
      j_X8_parseQuantified_24 rec_ v0 M1
theorem s_X8_parseQuantified {G : jG} {d : Nat} {D_ : Nat} {rec_ : Nat → Nat → Int32 → Int32 → jM → jO Unit} (hrec_ : ∀ d2, D_ ≤ d2 → ∀ (u0 : Nat) (u1 : Nat) (u2 : Int32) (u3 : Int32) (M : jM) b2, rec_ u0 u1 u2 u3 M = some b2 → V G m_X8_parsePart d2 0 [(0, .ref u0), (1, .ref u1), (2, .int u2), (3, .int u3)] [] M (jQb cU b2)) (hD_ : 2 ≤ D_) (hd_ : D_ + 1 ≤ d) {v0 : Nat} {v1 : Nat} {v2 : Int32} {v3 : Int32} {v4 : Int32} {M : jM} {b : Unit × jM} (h : f_X8_parseQuantified rec_ v0 v1 v2 v3 v4 M = some b) : V G m_X8_parseQuantified d 0 [(0, .ref v0), (1, .ref v1), (2, .int v2), (3, .int v3), (4, .int v4)] [] M (jQb cU b) := by
  unfold f_X8_parseQuantified at h
  refine v_aload_n dX8_parseQuantified_0 rfl 0 rfl ?_
  refine x_inv (cv := cI) (As := []) (rest := []) (ls2 := [(0, .ref v0)]) (ci := 7) (by omega) dX8_parseQuantified_1 ke_X8_peek kv_X8_61 rfl rfl (by decide) (Nat.le_of_ble_eq_true rfl) rfl rfl rfl rfl h (fun _ hq => s_X8_peek (by omega) hq) (fun x2 M1 h => ?_)
  refine v_bipush dX8_parseQuantified_4 bp_97 ?_
  refine v_isub dX8_parseQuantified_6 ?_
  refine x_jvI h (fun y3 h => ?_)
  refine v_istore (ls2 := [(5, .int y3), (0, .ref v0), (1, .ref v1), (2, .int v2), (3, .int v3), (4, .int v4)]) dX8_parseQuantified_7 (by decide) rfl ?_
  refine v_iload dX8_parseQuantified_9 0 rfl ?_
  refine x_if_lt (tgt := 24) dX8_parseQuantified_11 (by decide) h (fun h => ?_) (fun h => ?_)
  · exact V.pick [1] rfl (t_X8_parseQuantified_24 hrec_ hD_ hd_ h)
  · refine v_iload dX8_parseQuantified_14 0 rfl ?_
    refine v_aload_n dX8_parseQuantified_16 rfl 1 rfl ?_
    refine x_gR dX8_parseQuantified_17 kf_X8_25 rfl h (fun r4 h => ?_)
    refine x_ln dX8_parseQuantified_20 h (fun x5 h => ?_)
    refine x_ic_lt (tgt := 29) dX8_parseQuantified_21 (by decide) h (fun h => ?_) (fun h => ?_)
    · refine v_aload_n dX8_parseQuantified_29 rfl 1 rfl ?_
      refine v_dup dX8_parseQuantified_30 rfl ?_
      refine x_gI dX8_parseQuantified_31 kf_X8_19 rfl h (fun x6 h => ?_)
      refine v_iconst dX8_parseQuantified_34 ic_1 ?_
      refine v_iadd dX8_parseQuantified_35 ?_
      refine x_pI dX8_parseQuantified_36 kf_X8_19 rfl (fun q => Bool.noConfusion q) h (fun M7 h => ?_)
      refine v_aload_n dX8_parseQuantified_39 rfl 1 rfl ?_
      refine x_gR dX8_parseQuantified_40 kf_X8_25 rfl h (fun r8 h => ?_)
      refine v_iload dX8_parseQuantified_43 0 rfl ?_
      refine x_ldI dX8_parseQuantified_45 h (fun x9 h => ?_)
      refine v_istore (ls2 := [(6, .int x9), (5, .int y3), (0, .ref v0), (1, .ref v1), (2, .int v2), (3, .int v3), (4, .int v4)]) dX8_parseQuantified_46 (by decide) rfl ?_
      refine v_aload_n dX8_parseQuantified_48 rfl 2 rfl ?_
      refine x_gR dX8_parseQuantified_49 kf_X8_25 rfl h (fun r10 h => ?_)
      refine v_iload dX8_parseQuantified_52 1 rfl ?_
      refine v_iload dX8_parseQuantified_54 6 rfl ?_
      refine x_stI dX8_parseQuantified_56 h (fun M11 h => ?_)
      refine v_aload_n dX8_parseQuantified_57 rfl 3 rfl ?_
      refine v_iload_n dX8_parseQuantified_58 rfl 4 rfl ?_
      refine v_iload dX8_parseQuantified_59 6 rfl ?_
      refine v_iconst dX8_parseQuantified_61 ic_0 ?_
      refine x_inv (cv := cI) (As := [.int v2, .int v4, .int (nI 0)]) (rest := []) (ls2 := [(0, .ref v1), (1, .int v2), (2, .int v4), (3, .int (nI 0))]) (ci := 4) (by omega) dX8_parseQuantified_62 ke_X4_add kv_X8_89 rfl rfl (by decide) (Nat.le_of_ble_eq_true rfl) rfl rfl rfl rfl h (fun _ hq => s_X4_add (by omega) hq) (fun x13 M12 h => ?_)
      refine v_istore (ls2 := [(7, .int x13), (6, .int x9), (5, .int y3), (0, .ref v0), (1, .ref v1), (2, .int v2), (3, .int v3), (4, .int v4)]) dX8_parseQuantified_65 (by decide) rfl ?_
      refine v_aload_n dX8_parseQuantified_67 rfl 3 rfl ?_
      refine v_aload_n dX8_parseQuantified_68 rfl 4 rfl ?_
      refine v_iload_n dX8_parseQuantified_69 rfl 6 rfl ?_
      refine v_iload dX8_parseQuantified_70 7 rfl ?_
      refine x_inv (cv := cU) (As := [.ref v1, .int v3, .int v4]) (rest := []) (ls2 := [(0, .ref v0), (1, .ref v1), (2, .int v3), (3, .int v4)]) (ci := 7) (by omega) dX8_parseQuantified_72 ke_X8_parsePart kv_X8_58 rfl rfl (by decide) (Nat.le_of_ble_eq_true rfl) rfl rfl rfl rfl h (fun _ hq => hrec_ _ (by omega) _ _ _ _ _ _ hq) (fun _ M14 h => ?_)
      refine v_aload_n dX8_parseQuantified_75 rfl 4 rfl ?_
      refine v_iload dX8_parseQuantified_76 0 rfl ?_
      refine x_inv (cv := cU) (As := [.int x13]) (rest := []) (ls2 := [(0, .ref v1), (1, .int x13)]) (ci := 4) (by omega) dX8_parseQuantified_78 ke_X4_close kv_X8_72 rfl rfl (by decide) (Nat.le_of_ble_eq_true rfl) rfl rfl rfl rfl h (fun _ hq => s_X4_close (by omega) hq) (fun _ M15 h => ?_)
      refine v_aload_n dX8_parseQuantified_81 rfl 3 rfl ?_
      refine x_gR dX8_parseQuantified_82 kf_X8_25 rfl h (fun r16 h => ?_)
      refine v_iload dX8_parseQuantified_85 2 rfl ?_
      refine v_iload dX8_parseQuantified_87 1 rfl ?_
      refine x_stI dX8_parseQuantified_89 h (fun M17 h => ?_)
      exact x_vret dX8_parseQuantified_90 rfl h
    · exact V.pick [1] rfl (t_X8_parseQuantified_24 hrec_ hD_ hd_ h)
def j_X8_parsePart_57 (rec_ : Nat → Nat → Int32 → Int32 → jM → jO Unit)  (v0 : Nat) (M : jM) : jO Unit :=
  jb2 (jiv 7 M v0 (f_X8_fail v0 M)) fun _ M1 =>
  rt () M1
theorem t_X8_parsePart_57 {G : jG} {d : Nat} {D_ : Nat} {rec_ : Nat → Nat → Int32 → Int32 → jM → jO Unit} (hrec_ : ∀ d2, D_ ≤ d2 → ∀ (u0 : Nat) (u1 : Nat) (u2 : Int32) (u3 : Int32) (M : jM) b2, rec_ u0 u1 u2 u3 M = some b2 → V G m_X8_parsePart d2 0 [(0, .ref u0), (1, .ref u1), (2, .int u2), (3, .int u3)] [] M (jQb cU b2)) (hD_ : 3 ≤ D_) (hd_ : D_ + 2 ≤ d)  {v0 : Nat} {M : jM} {b : Unit × jM} (h : j_X8_parsePart_57 rec_ v0 M = some b) : V G m_X8_parsePart d 57 [(0, .ref v0)] [] M (jQb cU b) := by
  unfold j_X8_parsePart_57 at h
  refine v_aload_n dX8_parsePart_57 rfl 0 rfl ?_
  refine x_inv (cv := cU) (As := []) (rest := []) (ls2 := [(0, .ref v0)]) (ci := 7) (by omega) dX8_parsePart_58 ke_X8_fail kv_X8_82 rfl rfl (by decide) (Nat.le_of_ble_eq_true rfl) rfl rfl rfl rfl h (fun _ hq => s_X8_fail (by omega) hq) (fun _ M1 h => ?_)
  exact x_vret dX8_parsePart_61 rfl h
def j_X8_parsePart_62 (rec_ : Nat → Nat → Int32 → Int32 → jM → jO Unit)  (v0 : Nat) (v1 : Nat) (v2 : Int32) (v3 : Int32) (v4 : Int32) (v5 : Int32) (M : jM) : jO Unit :=
  (gI 7 M v0 2).bind fun x1 =>
  (pI 7 M v0 2 (x1 + (nI 1))).bind fun M2 =>
  if v5 = 0 then
    if v4 = (nI 45) then
      jb2 (jiv 4 M2 v1 (f_X4_add v1 (nI 45) (nI 0) (nI 0) M2)) fun x4 M3 =>
      jb2 (jiv 7 M3 v0 (rec_ v0 v1 (v2 + (nI 1)) v3 M3)) fun _ M5 =>
      jb2 (jiv 4 M5 v1 (f_X4_close v1 x4 M5)) fun _ M6 =>
      rt () M6
    else
      jb2 (jiv 7 M2 v0 (f_X8_parseFormula rec_ v0 v1 (v2 + (nI 1)) v3 M2)) fun _ M7 =>
      jb2 (jiv 7 M7 v0 (f_X8_expect v0 (nI 41) M7)) fun _ M8 =>
      rt () M8
  else
    jb2 (jiv 7 M2 v0 (f_X8_parseQuantified rec_ v0 v1 v4 (v2 + (nI 1)) (v3 + (nI 1)) M2)) fun _ M9 =>
    rt () M9
theorem t_X8_parsePart_62 {G : jG} {d : Nat} {D_ : Nat} {rec_ : Nat → Nat → Int32 → Int32 → jM → jO Unit} (hrec_ : ∀ d2, D_ ≤ d2 → ∀ (u0 : Nat) (u1 : Nat) (u2 : Int32) (u3 : Int32) (M : jM) b2, rec_ u0 u1 u2 u3 M = some b2 → V G m_X8_parsePart d2 0 [(0, .ref u0), (1, .ref u1), (2, .int u2), (3, .int u3)] [] M (jQb cU b2)) (hD_ : 3 ≤ D_) (hd_ : D_ + 2 ≤ d)  {v0 : Nat} {v1 : Nat} {v2 : Int32} {v3 : Int32} {v4 : Int32} {v5 : Int32} {M : jM} {b : Unit × jM} (h : j_X8_parsePart_62 rec_ v0 v1 v2 v3 v4 v5 M = some b) : V G m_X8_parsePart d 62 [(0, .ref v0), (1, .ref v1), (2, .int v2), (3, .int v3), (4, .int v4), (5, .int v5)] [] M (jQb cU b) := by
  unfold j_X8_parsePart_62 at h
  refine v_aload_n dX8_parsePart_62 rfl 0 rfl ?_
  refine v_dup dX8_parsePart_63 rfl ?_
  refine x_gI dX8_parsePart_64 kf_X8_19 rfl h (fun x1 h => ?_)
  refine v_iconst dX8_parsePart_67 ic_1 ?_
  refine v_iadd dX8_parsePart_68 ?_
  refine x_pI dX8_parsePart_69 kf_X8_19 rfl (fun q => Bool.noConfusion q) h (fun M2 h => ?_)
  refine v_iload dX8_parsePart_72 5 rfl ?_
  refine x_if_eq (tgt := 93) dX8_parsePart_74 (by decide) h (fun h => ?_) (fun h => ?_)
  · refine v_iload dX8_parsePart_93 4 rfl ?_
    refine v_bipush dX8_parsePart_95 bp_45 ?_
    refine x_ic_ne (tgt := 128) dX8_parsePart_97 (by decide) h (fun h => ?_) (fun h => ?_)
    · refine v_aload_n dX8_parsePart_100 rfl 1 rfl ?_
      refine v_bipush dX8_parsePart_101 bp_45 ?_
      refine v_iconst dX8_parsePart_103 ic_0 ?_
      refine v_iconst dX8_parsePart_104 ic_0 ?_
      refine x_inv (cv := cI) (As := [.int (nI 45), .int (nI 0), .int (nI 0)]) (rest := []) (ls2 := [(0, .ref v1), (1, .int (nI 45)), (2, .int (nI 0)), (3, .int (nI 0))]) (ci := 4) (by omega) dX8_parsePart_105 ke_X4_add kv_X8_89 rfl rfl (by decide) (Nat.le_of_ble_eq_true rfl) rfl rfl rfl rfl h (fun _ hq => s_X4_add (by omega) hq) (fun x4 M3 h => ?_)
      refine v_istore (ls2 := [(6, .int x4), (0, .ref v0), (1, .ref v1), (2, .int v2), (3, .int v3), (4, .int v4), (5, .int v5)]) dX8_parsePart_108 (by decide) rfl ?_
      refine v_aload_n dX8_parsePart_110 rfl 1 rfl ?_
      refine v_aload_n dX8_parsePart_111 rfl 2 rfl ?_
      refine v_iload_n dX8_parsePart_112 rfl 3 rfl ?_
      refine v_iconst dX8_parsePart_113 ic_1 ?_
      refine v_iadd dX8_parsePart_114 ?_
      refine v_iload_n dX8_parsePart_115 rfl 4 rfl ?_
      refine x_inv (cv := cU) (As := [.ref v1, .int (v2 + (nI 1)), .int v3]) (rest := []) (ls2 := [(0, .ref v0), (1, .ref v1), (2, .int (v2 + (nI 1))), (3, .int v3)]) (ci := 7) (by omega) dX8_parsePart_116 ke_X8_parsePart kv_X8_58 rfl rfl (by decide) (Nat.le_of_ble_eq_true rfl) rfl rfl rfl rfl h (fun _ hq => hrec_ _ (by omega) _ _ _ _ _ _ hq) (fun _ M5 h => ?_)
      refine v_aload_n dX8_parsePart_119 rfl 2 rfl ?_
      refine v_iload dX8_parsePart_120 0 rfl ?_
      refine x_inv (cv := cU) (As := [.int x4]) (rest := []) (ls2 := [(0, .ref v1), (1, .int x4)]) (ci := 4) (by omega) dX8_parsePart_122 ke_X4_close kv_X8_72 rfl rfl (by decide) (Nat.le_of_ble_eq_true rfl) rfl rfl rfl rfl h (fun _ hq => s_X4_close (by omega) hq) (fun _ M6 h => ?_)
      refine v_goto (tgt := 143) dX8_parsePart_125 (by decide) ?_
      exact x_vret dX8_parsePart_143 rfl h
    · refine v_aload_n dX8_parsePart_128 rfl 0 rfl ?_
      refine v_aload_n dX8_parsePart_129 rfl 1 rfl ?_
      refine v_iload_n dX8_parsePart_130 rfl 2 rfl ?_
      refine v_iconst dX8_parsePart_131 ic_1 ?_
      refine v_iadd dX8_parsePart_132 ?_
      refine v_iload_n dX8_parsePart_133 rfl 3 rfl ?_
      refine x_inv (cv := cU) (As := [.ref v1, .int (v2 + (nI 1)), .int v3]) (rest := []) (ls2 := [(0, .ref v0), (1, .ref v1), (2, .int (v2 + (nI 1))), (3, .int v3)]) (ci := 7) (by omega) dX8_parsePart_134 ke_X8_parseFormula kv_X8_44 rfl rfl (by decide) (Nat.le_of_ble_eq_true rfl) rfl rfl rfl rfl h (fun _ hq => s_X8_parseFormula hrec_ (by omega) (by omega) hq) (fun _ M7 h => ?_)
      refine v_aload_n dX8_parsePart_137 rfl 0 rfl ?_
      refine v_bipush dX8_parsePart_138 bp_41 ?_
      refine x_inv (cv := cU) (As := [.int (nI 41)]) (rest := []) (ls2 := [(0, .ref v0), (1, .int (nI 41))]) (ci := 7) (by omega) dX8_parsePart_140 ke_X8_expect kv_X8_48 rfl rfl (by decide) (Nat.le_of_ble_eq_true rfl) rfl rfl rfl rfl h (fun _ hq => s_X8_expect (by omega) hq) (fun _ M8 h => ?_)
      exact x_vret dX8_parsePart_143 rfl h
  · refine v_aload_n dX8_parsePart_77 rfl 0 rfl ?_
    refine v_aload_n dX8_parsePart_78 rfl 1 rfl ?_
    refine v_iload dX8_parsePart_79 4 rfl ?_
    refine v_iload_n dX8_parsePart_81 rfl 2 rfl ?_
    refine v_iconst dX8_parsePart_82 ic_1 ?_
    refine v_iadd dX8_parsePart_83 ?_
    refine v_iload_n dX8_parsePart_84 rfl 3 rfl ?_
    refine v_iconst dX8_parsePart_85 ic_1 ?_
    refine v_iadd dX8_parsePart_86 ?_
    refine x_inv (cv := cU) (As := [.ref v1, .int v4, .int (v2 + (nI 1)), .int (v3 + (nI 1))]) (rest := []) (ls2 := [(0, .ref v0), (1, .ref v1), (2, .int v4), (3, .int (v2 + (nI 1))), (4, .int (v3 + (nI 1)))]) (ci := 7) (by omega) dX8_parsePart_87 ke_X8_parseQuantified kv_X8_85 rfl rfl (by decide) (Nat.le_of_ble_eq_true rfl) rfl rfl rfl rfl h (fun _ hq => s_X8_parseQuantified hrec_ (by omega) (by omega) hq) (fun _ M9 h => ?_)
    refine v_goto (tgt := 143) dX8_parsePart_90 (by decide) ?_
    exact x_vret dX8_parsePart_143 rfl h
def j_X8_parsePart_40 (rec_ : Nat → Nat → Int32 → Int32 → jM → jO Unit)  (v0 : Nat) (v1 : Nat) (v2 : Int32) (v3 : Int32) (v4 : Int32) (v5 : Int32) (M : jM) : jO Unit :=
  if (nI 12) ≤ v2 then
    j_X8_parsePart_57 rec_ v0 M
  else
    if v5 = 0 then
      j_X8_parsePart_62 rec_ v0 v1 v2 v3 v4 v5 M
    else
      if v3 < (nI 8) then
        j_X8_parsePart_62 rec_ v0 v1 v2 v3 v4 v5 M
      else
        j_X8_parsePart_57 rec_ v0 M
theorem t_X8_parsePart_40 {G : jG} {d : Nat} {D_ : Nat} {rec_ : Nat → Nat → Int32 → Int32 → jM → jO Unit} (hrec_ : ∀ d2, D_ ≤ d2 → ∀ (u0 : Nat) (u1 : Nat) (u2 : Int32) (u3 : Int32) (M : jM) b2, rec_ u0 u1 u2 u3 M = some b2 → V G m_X8_parsePart d2 0 [(0, .ref u0), (1, .ref u1), (2, .int u2), (3, .int u3)] [] M (jQb cU b2)) (hD_ : 3 ≤ D_) (hd_ : D_ + 2 ≤ d)  {v0 : Nat} {v1 : Nat} {v2 : Int32} {v3 : Int32} {v4 : Int32} {v5 : Int32} {M : jM} {b : Unit × jM} (h : j_X8_parsePart_40 rec_ v0 v1 v2 v3 v4 v5 M = some b) : V G m_X8_parsePart d 40 [(0, .ref v0), (1, .ref v1), (2, .int v2), (3, .int v3), (4, .int v4), (5, .int v5)] [] M (jQb cU b) := by
  unfold j_X8_parsePart_40 at h
  refine v_iload_n dX8_parsePart_40 rfl 2 rfl ?_
  refine v_bipush dX8_parsePart_41 bp_12 ?_
  refine x_ic_ge (tgt := 57) dX8_parsePart_43 (by decide) h (fun h => ?_) (fun h => ?_)
  · exact V.pick [0] rfl (t_X8_parsePart_57 hrec_ hD_ hd_ h)
  · refine v_iload dX8_parsePart_46 5 rfl ?_
    refine x_if_eq (tgt := 62) dX8_parsePart_48 (by decide) h (fun h => ?_) (fun h => ?_)
    · exact t_X8_parsePart_62 hrec_ hD_ hd_ h
    · refine v_iload_n dX8_parsePart_51 rfl 3 rfl ?_
      refine v_bipush dX8_parsePart_52 bp_8 ?_
      refine x_ic_lt (tgt := 62) dX8_parsePart_54 (by decide) h (fun h => ?_) (fun h => ?_)
      · exact t_X8_parsePart_62 hrec_ hD_ hd_ h
      · exact V.pick [0] rfl (t_X8_parsePart_57 hrec_ hD_ hd_ h)
def g_X8_parsePart (rec_ : Nat → Nat → Int32 → Int32 → jM → jO Unit) (v0 : Nat) (v1 : Nat) (v2 : Int32) (v3 : Int32) (M : jM) : jO Unit :=
  jb2 (jiv 7 M v0 (f_X8_peek v0 M)) fun x2 M1 =>
  jb2 (f_X4_isQuantifier x2 M1) fun x4 M3 =>
  if x4 = 0 then
    if x2 = (nI 45) then
      j_X8_parsePart_40 rec_ v0 v1 v2 v3 x2 x4 M3
    else
      if x2 = (nI 40) then
        j_X8_parsePart_40 rec_ v0 v1 v2 v3 x2 x4 M3
      else
        jb2 (jiv 7 M3 v0 (f_X8_parseAtom v0 v1 x2 M3)) fun _ M5 =>
        rt () M5
  else
    j_X8_parsePart_40 rec_ v0 v1 v2 v3 x2 x4 M3
theorem sg_X8_parsePart {G : jG} {d : Nat} {D_ : Nat} {rec_ : Nat → Nat → Int32 → Int32 → jM → jO Unit} (hrec_ : ∀ d2, D_ ≤ d2 → ∀ (u0 : Nat) (u1 : Nat) (u2 : Int32) (u3 : Int32) (M : jM) b2, rec_ u0 u1 u2 u3 M = some b2 → V G m_X8_parsePart d2 0 [(0, .ref u0), (1, .ref u1), (2, .int u2), (3, .int u3)] [] M (jQb cU b2)) (hD_ : 3 ≤ D_) (hd_ : D_ + 2 ≤ d) {v0 : Nat} {v1 : Nat} {v2 : Int32} {v3 : Int32} {M : jM} {b : Unit × jM} (h : g_X8_parsePart rec_ v0 v1 v2 v3 M = some b) : V G m_X8_parsePart d 0 [(0, .ref v0), (1, .ref v1), (2, .int v2), (3, .int v3)] [] M (jQb cU b) := by
  unfold g_X8_parsePart at h
  refine v_aload_n dX8_parsePart_0 rfl 0 rfl ?_
  refine x_inv (cv := cI) (As := []) (rest := []) (ls2 := [(0, .ref v0)]) (ci := 7) (by omega) dX8_parsePart_1 ke_X8_peek kv_X8_61 rfl rfl (by decide) (Nat.le_of_ble_eq_true rfl) rfl rfl rfl rfl h (fun _ hq => s_X8_peek (by omega) hq) (fun x2 M1 h => ?_)
  refine v_istore (ls2 := [(4, .int x2), (0, .ref v0), (1, .ref v1), (2, .int v2), (3, .int v3)]) dX8_parsePart_4 (by decide) rfl ?_
  refine v_iload dX8_parsePart_6 0 rfl ?_
  refine x_invs (cv := cI) (As := [.int x2]) (rest := []) (ls2 := [(0, .int x2)]) (by omega) dX8_parsePart_8 ke_X4_isQuantifier ks_X8_75 (Nat.le_of_ble_eq_true rfl) rfl rfl rfl rfl h (fun _ hq => s_X4_isQuantifier (by omega) hq) (fun x4 M3 h => ?_)
  refine v_istore (ls2 := [(5, .int x4), (4, .int x2), (0, .ref v0), (1, .ref v1), (2, .int v2), (3, .int v3)]) dX8_parsePart_11 (by decide) rfl ?_
  refine v_iload dX8_parsePart_13 0 rfl ?_
  refine x_if_ne (tgt := 40) dX8_parsePart_15 (by decide) h (fun h => ?_) (fun h => ?_)
  · refine v_iload dX8_parsePart_18 1 rfl ?_
    refine v_bipush dX8_parsePart_20 bp_45 ?_
    refine x_ic_eq (tgt := 40) dX8_parsePart_22 (by decide) h (fun h => ?_) (fun h => ?_)
    · exact V.pick [2, 3, 4, 5, 1, 0] rfl (t_X8_parsePart_40 hrec_ hD_ hd_ h)
    · refine v_iload dX8_parsePart_25 1 rfl ?_
      refine v_bipush dX8_parsePart_27 bp_40 ?_
      refine x_ic_eq (tgt := 40) dX8_parsePart_29 (by decide) h (fun h => ?_) (fun h => ?_)
      · exact V.pick [2, 3, 4, 5, 1, 0] rfl (t_X8_parsePart_40 hrec_ hD_ hd_ h)
      · refine v_aload_n dX8_parsePart_32 rfl 2 rfl ?_
        refine v_aload_n dX8_parsePart_33 rfl 3 rfl ?_
        refine v_iload dX8_parsePart_34 1 rfl ?_
        refine x_inv (cv := cU) (As := [.ref v1, .int x2]) (rest := []) (ls2 := [(0, .ref v0), (1, .ref v1), (2, .int x2)]) (ci := 7) (by omega) dX8_parsePart_36 ke_X8_parseAtom kv_X8_78 rfl rfl (by decide) (Nat.le_of_ble_eq_true rfl) rfl rfl rfl rfl h (fun _ hq => s_X8_parseAtom (by omega) hq) (fun _ M5 h => ?_)
        exact x_vret dX8_parsePart_39 rfl h
  · exact V.pick [2, 3, 4, 5, 1, 0] rfl (t_X8_parsePart_40 hrec_ hD_ hd_ h)
def f_X8_parsePart : Nat → Nat → Nat → Int32 → Int32 → jM → jO Unit
  | 0 => fun _ _ _ _ _ => none
  | n + 1 => g_X8_parsePart (f_X8_parsePart n)
theorem s_X8_parsePart {G : jG} : ∀ (n d : Nat), 3 + 2 * n ≤ d → ∀ (v0 : Nat) (v1 : Nat) (v2 : Int32) (v3 : Int32) (M : jM) (b : Unit × jM), f_X8_parsePart n v0 v1 v2 v3 M = some b → V G m_X8_parsePart d 0 [(0, .ref v0), (1, .ref v1), (2, .int v2), (3, .int v3)] [] M (jQb cU b) := by
  intro n
  induction n with
  | zero => intro d hd v0 v1 v2 v3 M b h; exact nomatch (show (none : jO Unit) = some b from h)
  | succ n ih => intro d hd v0 v1 v2 v3 M b h; exact sg_X8_parsePart (D_ := 3 + 2 * n) (fun d2 hd2 => ih d2 hd2) (by omega) (by omega) h
def f_X8_parse (v0 : Nat) (v1 : Nat) (M : jM) : jO Int32 :=
  (pI 7 M v0 2 (nI 0)).bind fun M1 =>
  (pI 7 M1 v0 3 (-1 : Int32)).bind fun M2 =>
  (gR 7 M2 v0 4).bind fun r3 =>
  jb2 (f_J7_fill_53178 r3 (nI 0) M2) fun _ M4 =>
  jb2 (jiv 7 M4 v0 (f_X8_parseFormula (f_X8_parsePart jR0) v0 v1 (nI 0) (nI 0) M4)) fun _ M5 =>
  jb2 (jiv 7 M5 v0 (f_X8_expect v0 (-1 : Int32) M5)) fun _ M6 =>
  (gI 7 M6 v0 3).bind fun x7 =>
  rt x7 M6
theorem s_X8_parse {G : jG} {d : Nat} (hd_ : 85 ≤ d) {v0 : Nat} {v1 : Nat} {M : jM} {b : Int32 × jM} (h : f_X8_parse  v0 v1 M = some b) : V G m_X8_parse d 0 [(0, .ref v0), (1, .ref v1)] [] M (jQb cI b) := by
  unfold f_X8_parse at h
  refine v_aload_n dX8_parse_0 rfl 0 rfl ?_
  refine v_iconst dX8_parse_1 ic_0 ?_
  refine x_pI dX8_parse_2 kf_X8_19 rfl (fun q => Bool.noConfusion q) h (fun M1 h => ?_)
  refine v_aload_n dX8_parse_5 rfl 0 rfl ?_
  refine v_iconst dX8_parse_6 ic_m1 ?_
  refine x_pI dX8_parse_7 kf_X8_22 rfl (fun q => Bool.noConfusion q) h (fun M2 h => ?_)
  refine v_aload_n dX8_parse_10 rfl 0 rfl ?_
  refine x_gR dX8_parse_11 kf_X8_25 rfl h (fun r3 h => ?_)
  refine v_iconst dX8_parse_14 ic_0 ?_
  refine x_invs (cv := cU) (As := [.ref r3, .int (nI 0)]) (rest := []) (ls2 := [(0, .ref r3), (1, .int (nI 0))]) (by omega) dX8_parse_15 ke_J7_fill_53178 ks_X8_38 (Nat.le_of_ble_eq_true rfl) rfl rfl rfl rfl h (fun _ hq => s_J7_fill_53178 (by omega) hq) (fun _ M4 h => ?_)
  refine v_aload_n dX8_parse_18 rfl 0 rfl ?_
  refine v_aload_n dX8_parse_19 rfl 1 rfl ?_
  refine v_iconst dX8_parse_20 ic_0 ?_
  refine v_iconst dX8_parse_21 ic_0 ?_
  refine x_inv (cv := cU) (As := [.ref v1, .int (nI 0), .int (nI 0)]) (rest := []) (ls2 := [(0, .ref v0), (1, .ref v1), (2, .int (nI 0)), (3, .int (nI 0))]) (ci := 7) (by omega) dX8_parse_22 ke_X8_parseFormula kv_X8_44 rfl rfl (by decide) (Nat.le_of_ble_eq_true rfl) rfl rfl rfl rfl h (fun _ hq => s_X8_parseFormula (D_ := 83) (fun d2 hd2 => s_X8_parsePart _ _ (by have := jR0_eq; omega)) (by omega) (by omega) hq) (fun _ M5 h => ?_)
  refine v_aload_n dX8_parse_25 rfl 0 rfl ?_
  refine v_iconst dX8_parse_26 ic_m1 ?_
  refine x_inv (cv := cU) (As := [.int (-1 : Int32)]) (rest := []) (ls2 := [(0, .ref v0), (1, .int (-1 : Int32))]) (ci := 7) (by omega) dX8_parse_27 ke_X8_expect kv_X8_48 rfl rfl (by decide) (Nat.le_of_ble_eq_true rfl) rfl rfl rfl rfl h (fun _ hq => s_X8_expect (by omega) hq) (fun _ M6 h => ?_)
  refine v_aload_n dX8_parse_30 rfl 0 rfl ?_
  refine x_gI dX8_parse_31 kf_X8_22 rfl h (fun x7 h => ?_)
  exact x_iret dX8_parse_34 rfl h
def f_X11_read (v0 : Nat) (M : jM) : jO Int32 :=
  (gR 10 M v0 5).bind fun r1 =>
  jb2 (jiv 4 M r1 (f_X4_clear r1 M)) fun _ M2 =>
  (gR 10 M2 v0 4).bind fun r3 =>
  (gR 10 M2 v0 5).bind fun r4 =>
  jb2 (jiv 7 M2 r3 (f_X8_parse r3 r4 M2)) fun x6 M5 =>
  (gR 10 M5 v0 4).bind fun r7 =>
  jb2 (jiv 7 M5 r7 (f_X8_cutTo r7 (nI 0) M5)) fun _ M8 =>
  if x6 < 0 then
    (gR 10 M8 v0 5).bind fun r9 =>
    jb2 (jiv 4 M8 r9 (f_X4_count r9 M8)) fun x11 M10 =>
    if x11 ≤ (nI 600) then
      jb2 (jiv 10 M10 v0 (f_X11_keepSentence v0 M10)) fun x13 M12 =>
      rt x13 M12
    else
      rt (-4 : Int32) M10
  else
    rt ((-20 : Int32) - x6) M8
theorem s_X11_read {G : jG} {d : Nat} (hd_ : 86 ≤ d) {v0 : Nat} {M : jM} {b : Int32 × jM} (h : f_X11_read  v0 M = some b) : V G m_X11_read d 0 [(0, .ref v0)] [] M (jQb cI b) := by
  unfold f_X11_read at h
  refine v_aload_n dX11_read_0 rfl 0 rfl ?_
  refine x_gR dX11_read_1 kf_X11_44 rfl h (fun r1 h => ?_)
  refine x_inv (cv := cU) (As := []) (rest := []) (ls2 := [(0, .ref r1)]) (ci := 4) (by omega) dX11_read_4 ke_X4_clear kv_X11_175 rfl rfl (by decide) (Nat.le_of_ble_eq_true rfl) rfl rfl rfl rfl h (fun _ hq => s_X4_clear (by omega) hq) (fun _ M2 h => ?_)
  refine v_aload_n dX11_read_7 rfl 0 rfl ?_
  refine x_gR dX11_read_8 kf_X11_37 rfl h (fun r3 h => ?_)
  refine v_aload_n dX11_read_11 rfl 0 rfl ?_
  refine x_gR dX11_read_12 kf_X11_44 rfl h (fun r4 h => ?_)
  refine x_inv (cv := cI) (As := [.ref r4]) (rest := []) (ls2 := [(0, .ref r3), (1, .ref r4)]) (ci := 7) (by omega) dX11_read_15 ke_X8_parse kv_X11_178 rfl rfl (by decide) (Nat.le_of_ble_eq_true rfl) rfl rfl rfl rfl h (fun _ hq => s_X8_parse (by omega) hq) (fun x6 M5 h => ?_)
  refine v_istore_n (ls2 := [(1, .int x6), (0, .ref v0)]) dX11_read_18 rfl (by decide) rfl ?_
  refine v_aload_n dX11_read_19 rfl 1 rfl ?_
  refine x_gR dX11_read_20 kf_X11_37 rfl h (fun r7 h => ?_)
  refine v_iconst dX11_read_23 ic_0 ?_
  refine x_inv (cv := cU) (As := [.int (nI 0)]) (rest := []) (ls2 := [(0, .ref r7), (1, .int (nI 0))]) (ci := 7) (by omega) dX11_read_24 ke_X8_cutTo kv_X11_172 rfl rfl (by decide) (Nat.le_of_ble_eq_true rfl) rfl rfl rfl rfl h (fun _ hq => s_X8_cutTo (by omega) hq) (fun _ M8 h => ?_)
  refine v_iload_n dX11_read_27 rfl 0 rfl ?_
  refine x_if_lt (tgt := 36) dX11_read_28 (by decide) h (fun h => ?_) (fun h => ?_)
  · refine v_aload_n dX11_read_36 rfl 1 rfl ?_
    refine x_gR dX11_read_37 kf_X11_44 rfl h (fun r9 h => ?_)
    refine x_inv (cv := cI) (As := []) (rest := []) (ls2 := [(0, .ref r9)]) (ci := 4) (by omega) dX11_read_40 ke_X4_count kv_X11_182 rfl rfl (by decide) (Nat.le_of_ble_eq_true rfl) rfl rfl rfl rfl h (fun _ hq => s_X4_count (by omega) hq) (fun x11 M10 h => ?_)
    refine v_sipush dX11_read_43 sp_600 ?_
    refine x_ic_le (tgt := 52) dX11_read_46 (by decide) h (fun h => ?_) (fun h => ?_)
    · refine v_aload_n dX11_read_52 rfl 1 rfl ?_
      refine x_inv (cv := cI) (As := []) (rest := []) (ls2 := [(0, .ref v0)]) (ci := 10) (by omega) dX11_read_53 ke_X11_keepSentence kv_X11_185 rfl rfl (by decide) (Nat.le_of_ble_eq_true rfl) rfl rfl rfl rfl h (fun _ hq => s_X11_keepSentence (by omega) hq) (fun x13 M12 h => ?_)
      exact x_iret dX11_read_56 rfl h
    · refine v_bipush dX11_read_49 bp_m4 ?_
      exact x_iret dX11_read_51 rfl h
  · refine v_bipush dX11_read_31 bp_m20 ?_
    refine v_iload_n dX11_read_33 rfl 0 rfl ?_
    refine v_isub dX11_read_34 ?_
    exact x_iret dX11_read_35 rfl h
def b_X7_isWrittenLike_17  (k17 : Nat → Nat → Int32 → jM → jO Int32) (v0 : Nat) (v1 : Nat) (v2 : Int32) (M : jM) : jO Int32 :=
  (gR 6 M v0 1).bind fun r1 =>
  (ln M r1).bind fun x2 =>
  if x2 ≤ v2 then
    rZ (nI 1) M
  else
    (gR 6 M v0 1).bind fun r3 =>
    (ldB M r3 v2).bind fun x4 =>
    (gR 6 M v1 1).bind fun r5 =>
    (ldB M r5 v2).bind fun x6 =>
    if x4 = x6 then
      k17 v0 v1 (v2 + (nI 1)) M
    else
      rZ (nI 0) M
def l_X7_isWrittenLike_17  : Nat → Nat → Nat → Int32 → jM → jO Int32
  | 0 => fun _ _ _ _ => none
  | n + 1 => b_X7_isWrittenLike_17  (l_X7_isWrittenLike_17  n)
theorem tb_X7_isWrittenLike_17 {G : jG} {d : Nat} (hd_ : 0 ≤ d)  {k17 : Nat → Nat → Int32 → jM → jO Int32} (hk17 : ∀ (w0 : Nat) (w1 : Nat) (w2 : Int32) (M : jM) (b : Int32 × jM), k17 w0 w1 w2 M = some b → V G m_X7_isWrittenLike d 17 [(0, .ref w0), (1, .ref w1), (2, .int w2)] [] M (jQb cI b)) {v0 : Nat} {v1 : Nat} {v2 : Int32} {M : jM} {b : Int32 × jM} (h : b_X7_isWrittenLike_17  k17 v0 v1 v2 M = some b) : V G m_X7_isWrittenLike d 17 [(0, .ref v0), (1, .ref v1), (2, .int v2)] [] M (jQb cI b) := by
  unfold b_X7_isWrittenLike_17 at h
  refine v_iload_n dX7_isWrittenLike_17 rfl 2 rfl ?_
  refine v_aload_n dX7_isWrittenLike_18 rfl 0 rfl ?_
  refine x_gR dX7_isWrittenLike_19 kf_X7_13 rfl h (fun r1 h => ?_)
  refine x_ln dX7_isWrittenLike_22 h (fun x2 h => ?_)
  refine x_ic_ge (tgt := 49) dX7_isWrittenLike_23 (by decide) h (fun h => ?_) (fun h => ?_)
  · refine v_iconst dX7_isWrittenLike_49 ic_1 ?_
    exact x_zret dX7_isWrittenLike_50 rfl h
  · refine v_aload_n dX7_isWrittenLike_26 rfl 0 rfl ?_
    refine x_gR dX7_isWrittenLike_27 kf_X7_13 rfl h (fun r3 h => ?_)
    refine v_iload_n dX7_isWrittenLike_30 rfl 2 rfl ?_
    refine x_ldB dX7_isWrittenLike_31 h (fun x4 h => ?_)
    refine v_aload_n dX7_isWrittenLike_32 rfl 1 rfl ?_
    refine x_gR dX7_isWrittenLike_33 kf_X7_13 rfl h (fun r5 h => ?_)
    refine v_iload_n dX7_isWrittenLike_36 rfl 2 rfl ?_
    refine x_ldB dX7_isWrittenLike_37 h (fun x6 h => ?_)
    refine x_ic_eq (tgt := 43) dX7_isWrittenLike_38 (by decide) h (fun h => ?_) (fun h => ?_)
    · refine v_iincC (ls2 := [(2, .int (v2 + (nI 1))), (0, .ref v0), (1, .ref v1)]) dX7_isWrittenLike_43 ic_1 2 rfl (by decide) rfl ?_
      refine v_goto (tgt := 17) dX7_isWrittenLike_46 (by decide) ?_
      exact V.pick [1, 2, 0] rfl (hk17 _ _ _ _ _ h)
    · refine v_iconst dX7_isWrittenLike_41 ic_0 ?_
      exact x_zret dX7_isWrittenLike_42 rfl h
theorem t_X7_isWrittenLike_17 {G : jG} {d : Nat} (hd_ : 0 ≤ d)  : ∀ (n : Nat) (v0 : Nat) (v1 : Nat) (v2 : Int32) (M : jM) (b : Int32 × jM), l_X7_isWrittenLike_17  n v0 v1 v2 M = some b → V G m_X7_isWrittenLike d 17 [(0, .ref v0), (1, .ref v1), (2, .int v2)] [] M (jQb cI b) := by
  intro n
  induction n with
  | zero => intro v0 v1 v2 M b h; exact nomatch (show (none : jO Int32) = some b from h)
  | succ n ih => intro v0 v1 v2 M b h; exact tb_X7_isWrittenLike_17 hd_  ih h
def f_X7_isWrittenLike (v0 : Nat) (v1 : Nat) (M : jM) : jO Int32 :=
  (gR 6 M v0 1).bind fun r1 =>
  (ln M r1).bind fun x2 =>
  (gR 6 M v1 1).bind fun r3 =>
  (ln M r3).bind fun x4 =>
  if x2 = x4 then
    l_X7_isWrittenLike_17 jF0 v0 v1 (nI 0) M
  else
    rZ (nI 0) M
theorem s_X7_isWrittenLike {G : jG} {d : Nat} (hd_ : 0 ≤ d) {v0 : Nat} {v1 : Nat} {M : jM} {b : Int32 × jM} (h : f_X7_isWrittenLike  v0 v1 M = some b) : V G m_X7_isWrittenLike d 0 [(0, .ref v0), (1, .ref v1)] [] M (jQb cI b) := by
  unfold f_X7_isWrittenLike at h
  refine v_aload_n dX7_isWrittenLike_0 rfl 0 rfl ?_
  refine x_gR dX7_isWrittenLike_1 kf_X7_13 rfl h (fun r1 h => ?_)
  refine x_ln dX7_isWrittenLike_4 h (fun x2 h => ?_)
  refine v_aload_n dX7_isWrittenLike_5 rfl 1 rfl ?_
  refine x_gR dX7_isWrittenLike_6 kf_X7_13 rfl h (fun r3 h => ?_)
  refine x_ln dX7_isWrittenLike_9 h (fun x4 h => ?_)
  refine x_ic_eq (tgt := 15) dX7_isWrittenLike_10 (by decide) h (fun h => ?_) (fun h => ?_)
  · refine v_iconst dX7_isWrittenLike_15 ic_0 ?_
    refine v_istore_n (ls2 := [(2, .int (nI 0)), (0, .ref v0), (1, .ref v1)]) dX7_isWrittenLike_16 rfl (by decide) rfl ?_
    exact V.pick [1, 2, 0] rfl (t_X7_isWrittenLike_17 hd_ _ _ _ _ _ _ h)
  · refine v_iconst dX7_isWrittenLike_13 ic_0 ?_
    exact x_zret dX7_isWrittenLike_14 rfl h
