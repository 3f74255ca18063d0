def j_X12_keepUnlike_131 (k6 : Nat → Int32 → Int32 → Int32 → Int32 → jM → jO Int32) (k44 : Nat → Int32 → Int32 → Int32 → Int32 → Int32 → Int32 → Int32 → jM → jO Int32) (v0 : Nat) (v2 : Int32) (v3 : Int32) (v4 : Int32) (v5 : Int32) (v6 : Int32) (v8 : Int32) (s0 : Int32) (M : jM) : jO Int32 :=
  k44 v0 v2 v3 v4 v5 v6 s0 (v8 + (nI 1)) M
theorem t_X12_keepUnlike_131 {G : jG} {d : Nat} (hd_ : 1 ≤ d) {k6 : Nat → Int32 → Int32 → Int32 → Int32 → jM → jO Int32} (hk6 : ∀ (w0 : Nat) (w2 : Int32) (w3 : Int32) (w4 : Int32) (w5 : Int32) (M : jM) (b : Int32 × jM), k6 w0 w2 w3 w4 w5 M = some b → V G m_X12_keepUnlike d 6 [(0, .ref w0), (2, .int w2), (3, .int w3), (4, .int w4), (5, .int w5)] [] M (jQb cI b)) {k44 : Nat → Int32 → Int32 → Int32 → Int32 → Int32 → Int32 → Int32 → jM → jO Int32} (hk44 : ∀ (w0 : Nat) (w2 : Int32) (w3 : Int32) (w4 : Int32) (w5 : Int32) (w6 : Int32) (w7 : Int32) (w8 : Int32) (M : jM) (b : Int32 × jM), k44 w0 w2 w3 w4 w5 w6 w7 w8 M = some b → V G m_X12_keepUnlike d 44 [(0, .ref w0), (2, .int w2), (3, .int w3), (4, .int w4), (5, .int w5), (6, .int w6), (7, .int w7), (8, .int w8)] [] M (jQb cI b)) {v0 : Nat} {v2 : Int32} {v3 : Int32} {v4 : Int32} {v5 : Int32} {v6 : Int32} {v8 : Int32} {s0 : Int32} {M : jM} {b : Int32 × jM} (h : j_X12_keepUnlike_131 k6 k44 v0 v2 v3 v4 v5 v6 v8 s0 M = some b) : V G m_X12_keepUnlike d 131 [(0, .ref v0), (2, .int v2), (3, .int v3), (4, .int v4), (5, .int v5), (6, .int v6), (8, .int v8)] [.int s0] M (jQb cI b) := by
  unfold j_X12_keepUnlike_131 at h
  refine v_istore (ls2 := [(7, .int s0), (0, .ref v0), (2, .int v2), (3, .int v3), (4, .int v4), (5, .int v5), (6, .int v6), (8, .int v8)]) dX12_keepUnlike_131 (by decide) rfl ?_
  refine v_iincC (ls2 := [(8, .int (v8 + (nI 1))), (7, .int s0), (0, .ref v0), (2, .int v2), (3, .int v3), (4, .int v4), (5, .int v5), (6, .int v6)]) dX12_keepUnlike_133 ic_1 7 rfl (by decide) rfl ?_
  refine v_goto (tgt := 44) dX12_keepUnlike_136 (by decide) ?_
  exact V.pick [2, 3, 4, 5, 6, 7, 1, 0] rfl (hk44 _ _ _ _ _ _ _ _ _ _ h)
def j_X12_keepUnlike_130 (k6 : Nat → Int32 → Int32 → Int32 → Int32 → jM → jO Int32) (k44 : Nat → Int32 → Int32 → Int32 → Int32 → Int32 → Int32 → Int32 → jM → jO Int32) (v0 : Nat) (v2 : Int32) (v3 : Int32) (v4 : Int32) (v5 : Int32) (v6 : Int32) (v8 : Int32) (M : jM) : jO Int32 :=
  j_X12_keepUnlike_131 k6 k44 v0 v2 v3 v4 v5 v6 v8 (nI 0) M
theorem t_X12_keepUnlike_130 {G : jG} {d : Nat} (hd_ : 1 ≤ d) {k6 : Nat → Int32 → Int32 → Int32 → Int32 → jM → jO Int32} (hk6 : ∀ (w0 : Nat) (w2 : Int32) (w3 : Int32) (w4 : Int32) (w5 : Int32) (M : jM) (b : Int32 × jM), k6 w0 w2 w3 w4 w5 M = some b → V G m_X12_keepUnlike d 6 [(0, .ref w0), (2, .int w2), (3, .int w3), (4, .int w4), (5, .int w5)] [] M (jQb cI b)) {k44 : Nat → Int32 → Int32 → Int32 → Int32 → Int32 → Int32 → Int32 → jM → jO Int32} (hk44 : ∀ (w0 : Nat) (w2 : Int32) (w3 : Int32) (w4 : Int32) (w5 : Int32) (w6 : Int32) (w7 : Int32) (w8 : Int32) (M : jM) (b : Int32 × jM), k44 w0 w2 w3 w4 w5 w6 w7 w8 M = some b → V G m_X12_keepUnlike d 44 [(0, .ref w0), (2, .int w2), (3, .int w3), (4, .int w4), (5, .int w5), (6, .int w6), (7, .int w7), (8, .int w8)] [] M (jQb cI b)) {v0 : Nat} {v2 : Int32} {v3 : Int32} {v4 : Int32} {v5 : Int32} {v6 : Int32} {v8 : Int32} {M : jM} {b : Int32 × jM} (h : j_X12_keepUnlike_130 k6 k44 v0 v2 v3 v4 v5 v6 v8 M = some b) : V G m_X12_keepUnlike d 130 [(0, .ref v0), (2, .int v2), (3, .int v3), (4, .int v4), (5, .int v5), (6, .int v6), (8, .int v8)] [] M (jQb cI b) := by
  unfold j_X12_keepUnlike_130 at h
  refine v_iconst dX12_keepUnlike_130 ic_0 ?_
  exact t_X12_keepUnlike_131 hd_ hk6 hk44 h
def j_X12_keepUnlike_139 (k6 : Nat → Int32 → Int32 → Int32 → Int32 → jM → jO Int32) (v0 : Nat) (v2 : Int32) (v3 : Int32) (v5 : Int32) (v6 : Int32) (v7 : Int32) (M : jM) : jO Int32 :=
  if v7 = 0 then
    k6 v0 v2 v3 v6 (v5 + (nI 1)) M
  else
    (pI 11 M v0 23 v2).bind fun M1 =>
    rt v3 M1
theorem t_X12_keepUnlike_139 {G : jG} {d : Nat} (hd_ : 1 ≤ d) {k6 : Nat → Int32 → Int32 → Int32 → Int32 → jM → jO Int32} (hk6 : ∀ (w0 : Nat) (w2 : Int32) (w3 : Int32) (w4 : Int32) (w5 : Int32) (M : jM) (b : Int32 × jM), k6 w0 w2 w3 w4 w5 M = some b → V G m_X12_keepUnlike d 6 [(0, .ref w0), (2, .int w2), (3, .int w3), (4, .int w4), (5, .int w5)] [] M (jQb cI b)) {v0 : Nat} {v2 : Int32} {v3 : Int32} {v5 : Int32} {v6 : Int32} {v7 : Int32} {M : jM} {b : Int32 × jM} (h : j_X12_keepUnlike_139 k6 v0 v2 v3 v5 v6 v7 M = some b) : V G m_X12_keepUnlike d 139 [(0, .ref v0), (2, .int v2), (3, .int v3), (5, .int v5), (6, .int v6), (7, .int v7)] [] M (jQb cI b) := by
  unfold j_X12_keepUnlike_139 at h
  refine v_iload dX12_keepUnlike_139 5 rfl ?_
  refine x_if_eq (tgt := 151) dX12_keepUnlike_141 (by decide) h (fun h => ?_) (fun h => ?_)
  · refine v_iload dX12_keepUnlike_151 4 rfl ?_
    refine v_istore (ls2 := [(4, .int v6), (0, .ref v0), (2, .int v2), (3, .int v3), (5, .int v5), (6, .int v6), (7, .int v7)]) dX12_keepUnlike_153 (by decide) rfl ?_
    refine v_iincC (ls2 := [(5, .int (v5 + (nI 1))), (4, .int v6), (0, .ref v0), (2, .int v2), (3, .int v3), (6, .int v6), (7, .int v7)]) dX12_keepUnlike_155 ic_1 4 rfl (by decide) rfl ?_
    refine v_goto (tgt := 6) dX12_keepUnlike_158 (by decide) ?_
    exact V.pick [2, 3, 4, 1, 0] rfl (hk6 _ _ _ _ _ _ _ h)
  · refine v_aload_n dX12_keepUnlike_144 rfl 0 rfl ?_
    refine v_iload_n dX12_keepUnlike_145 rfl 1 rfl ?_
    refine x_pI dX12_keepUnlike_146 kf_X12_234 rfl (fun q => Bool.noConfusion q) h (fun M1 h => ?_)
    refine v_iload_n dX12_keepUnlike_149 rfl 2 rfl ?_
    exact x_iret dX12_keepUnlike_150 rfl h
def b_X12_keepUnlike_44 (k6 : Nat → Int32 → Int32 → Int32 → Int32 → jM → jO Int32) (k44 : Nat → Int32 → Int32 → Int32 → Int32 → Int32 → Int32 → Int32 → jM → jO Int32) (v0 : Nat) (v2 : Int32) (v3 : Int32) (v4 : Int32) (v5 : Int32) (v6 : Int32) (v7 : Int32) (v8 : Int32) (M : jM) : jO Int32 :=
  (gI 11 M v0 23).bind fun x1 =>
  if (x1 - v2) ≤ v8 then
    j_X12_keepUnlike_139 k6 v0 v2 v3 v5 v6 v7 M
  else
    if v7 = 0 then
      j_X12_keepUnlike_139 k6 v0 v2 v3 v5 v6 v7 M
    else
      (gR 11 M v0 24).bind fun r2 =>
      (ldB M r2 (v4 + v8)).bind fun x3 =>
      (gR 11 M v0 24).bind fun r4 =>
      (ldB M r4 (v2 + v8)).bind fun x5 =>
      if x3 = x5 then
        (gR 11 M v0 25).bind fun r6 =>
        (ldI M r6 (v4 + v8)).bind fun x7 =>
        (gR 11 M v0 25).bind fun r8 =>
        (ldI M r8 (v2 + v8)).bind fun x9 =>
        if x7 = x9 then
          (gR 11 M v0 26).bind fun r10 =>
          (ldB M r10 (v4 + v8)).bind fun x11 =>
          (gR 11 M v0 26).bind fun r12 =>
          (ldB M r12 (v2 + v8)).bind fun x13 =>
          if x11 = x13 then
            j_X12_keepUnlike_131 k6 k44 v0 v2 v3 v4 v5 v6 v8 (nI 1) M
          else
            j_X12_keepUnlike_130 k6 k44 v0 v2 v3 v4 v5 v6 v8 M
        else
          j_X12_keepUnlike_130 k6 k44 v0 v2 v3 v4 v5 v6 v8 M
      else
        j_X12_keepUnlike_130 k6 k44 v0 v2 v3 v4 v5 v6 v8 M
def l_X12_keepUnlike_44 (k6 : Nat → Int32 → Int32 → Int32 → Int32 → jM → jO Int32) : Nat → Nat → Int32 → Int32 → Int32 → Int32 → Int32 → Int32 → Int32 → jM → jO Int32
  | 0 => fun _ _ _ _ _ _ _ _ _ => none
  | n + 1 => b_X12_keepUnlike_44 k6 (l_X12_keepUnlike_44 k6 n)
theorem tb_X12_keepUnlike_44 {G : jG} {d : Nat} (hd_ : 1 ≤ d) {k6 : Nat → Int32 → Int32 → Int32 → Int32 → jM → jO Int32} (hk6 : ∀ (w0 : Nat) (w2 : Int32) (w3 : Int32) (w4 : Int32) (w5 : Int32) (M : jM) (b : Int32 × jM), k6 w0 w2 w3 w4 w5 M = some b → V G m_X12_keepUnlike d 6 [(0, .ref w0), (2, .int w2), (3, .int w3), (4, .int w4), (5, .int w5)] [] M (jQb cI b)) {k44 : Nat → Int32 → Int32 → Int32 → Int32 → Int32 → Int32 → Int32 → jM → jO Int32} (hk44 : ∀ (w0 : Nat) (w2 : Int32) (w3 : Int32) (w4 : Int32) (w5 : Int32) (w6 : Int32) (w7 : Int32) (w8 : Int32) (M : jM) (b : Int32 × jM), k44 w0 w2 w3 w4 w5 w6 w7 w8 M = some b → V G m_X12_keepUnlike d 44 [(0, .ref w0), (2, .int w2), (3, .int w3), (4, .int w4), (5, .int w5), (6, .int w6), (7, .int w7), (8, .int w8)] [] M (jQb cI b)) {v0 : Nat} {v2 : Int32} {v3 : Int32} {v4 : Int32} {v5 : Int32} {v6 : Int32} {v7 : Int32} {v8 : Int32} {M : jM} {b : Int32 × jM} (h : b_X12_keepUnlike_44 k6 k44 v0 v2 v3 v4 v5 v6 v7 v8 M = some b) : V G m_X12_keepUnlike d 44 [(0, .ref v0), (2, .int v2), (3, .int v3), (4, .int v4), (5, .int v5), (6, .int v6), (7, .int v7), (8, .int v8)] [] M (jQb cI b) := by
  unfold b_X12_keepUnlike_44 at h
  refine v_iload dX12_keepUnlike_44 7 rfl ?_
  refine v_aload_n dX12_keepUnlike_46 rfl 0 rfl ?_
  refine x_gI dX12_keepUnlike_47 kf_X12_234 rfl h (fun x1 h => ?_)
  refine v_iload_n dX12_keepUnlike_50 rfl 1 rfl ?_
  refine v_isub dX12_keepUnlike_51 ?_
  refine x_ic_ge (tgt := 139) dX12_keepUnlike_52 (by decide) h (fun h => ?_) (fun h => ?_)
  · exact V.pick [0, 1, 2, 4, 5, 6] rfl (t_X12_keepUnlike_139 hd_ hk6 h)
  · refine v_iload dX12_keepUnlike_55 6 rfl ?_
    refine x_if_eq (tgt := 139) dX12_keepUnlike_57 (by decide) h (fun h => ?_) (fun h => ?_)
    · exact V.pick [0, 1, 2, 4, 5, 6] rfl (t_X12_keepUnlike_139 hd_ hk6 h)
    · refine v_aload_n dX12_keepUnlike_60 rfl 0 rfl ?_
      refine x_gR dX12_keepUnlike_61 kf_X12_53 rfl h (fun r2 h => ?_)
      refine v_iload dX12_keepUnlike_64 3 rfl ?_
      refine v_iload dX12_keepUnlike_66 7 rfl ?_
      refine v_iadd dX12_keepUnlike_68 ?_
      refine x_ldB dX12_keepUnlike_69 h (fun x3 h => ?_)
      refine v_aload_n dX12_keepUnlike_70 rfl 0 rfl ?_
      refine x_gR dX12_keepUnlike_71 kf_X12_53 rfl h (fun r4 h => ?_)
      refine v_iload_n dX12_keepUnlike_74 rfl 1 rfl ?_
      refine v_iload dX12_keepUnlike_75 7 rfl ?_
      refine v_iadd dX12_keepUnlike_77 ?_
      refine x_ldB dX12_keepUnlike_78 h (fun x5 h => ?_)
      refine x_ic_ne (tgt := 130) dX12_keepUnlike_79 (by decide) h (fun h => ?_) (fun h => ?_)
      · refine v_aload_n dX12_keepUnlike_82 rfl 0 rfl ?_
        refine x_gR dX12_keepUnlike_83 kf_X12_56 rfl h (fun r6 h => ?_)
        refine v_iload dX12_keepUnlike_86 3 rfl ?_
        refine v_iload dX12_keepUnlike_88 7 rfl ?_
        refine v_iadd dX12_keepUnlike_90 ?_
        refine x_ldI dX12_keepUnlike_91 h (fun x7 h => ?_)
        refine v_aload_n dX12_keepUnlike_92 rfl 0 rfl ?_
        refine x_gR dX12_keepUnlike_93 kf_X12_56 rfl h (fun r8 h => ?_)
        refine v_iload_n dX12_keepUnlike_96 rfl 1 rfl ?_
        refine v_iload dX12_keepUnlike_97 7 rfl ?_
        refine v_iadd dX12_keepUnlike_99 ?_
        refine x_ldI dX12_keepUnlike_100 h (fun x9 h => ?_)
        refine x_ic_ne (tgt := 130) dX12_keepUnlike_101 (by decide) h (fun h => ?_) (fun h => ?_)
        · refine v_aload_n dX12_keepUnlike_104 rfl 0 rfl ?_
          refine x_gR dX12_keepUnlike_105 kf_X12_59 rfl h (fun r10 h => ?_)
          refine v_iload dX12_keepUnlike_108 3 rfl ?_
          refine v_iload dX12_keepUnlike_110 7 rfl ?_
          refine v_iadd dX12_keepUnlike_112 ?_
          refine x_ldB dX12_keepUnlike_113 h (fun x11 h => ?_)
          refine v_aload_n dX12_keepUnlike_114 rfl 0 rfl ?_
          refine x_gR dX12_keepUnlike_115 kf_X12_59 rfl h (fun r12 h => ?_)
          refine v_iload_n dX12_keepUnlike_118 rfl 1 rfl ?_
          refine v_iload dX12_keepUnlike_119 7 rfl ?_
          refine v_iadd dX12_keepUnlike_121 ?_
          refine x_ldB dX12_keepUnlike_122 h (fun x13 h => ?_)
          refine x_ic_ne (tgt := 130) dX12_keepUnlike_123 (by decide) h (fun h => ?_) (fun h => ?_)
          · refine v_iconst dX12_keepUnlike_126 ic_1 ?_
            refine v_goto (tgt := 131) dX12_keepUnlike_127 (by decide) ?_
            exact V.pick [0, 1, 2, 3, 4, 5, 7] rfl (t_X12_keepUnlike_131 hd_ hk6 hk44 h)
          · exact V.pick [0, 1, 2, 3, 4, 5, 7] rfl (t_X12_keepUnlike_130 hd_ hk6 hk44 h)
        · exact V.pick [0, 1, 2, 3, 4, 5, 7] rfl (t_X12_keepUnlike_130 hd_ hk6 hk44 h)
      · exact V.pick [0, 1, 2, 3, 4, 5, 7] rfl (t_X12_keepUnlike_130 hd_ hk6 hk44 h)
theorem t_X12_keepUnlike_44 {G : jG} {d : Nat} (hd_ : 1 ≤ d) {k6 : Nat → Int32 → Int32 → Int32 → Int32 → jM → jO Int32} (hk6 : ∀ (w0 : Nat) (w2 : Int32) (w3 : Int32) (w4 : Int32) (w5 : Int32) (M : jM) (b : Int32 × jM), k6 w0 w2 w3 w4 w5 M = some b → V G m_X12_keepUnlike d 6 [(0, .ref w0), (2, .int w2), (3, .int w3), (4, .int w4), (5, .int w5)] [] M (jQb cI b)) : ∀ (n : Nat) (v0 : Nat) (v2 : Int32) (v3 : Int32) (v4 : Int32) (v5 : Int32) (v6 : Int32) (v7 : Int32) (v8 : Int32) (M : jM) (b : Int32 × jM), l_X12_keepUnlike_44 k6 n v0 v2 v3 v4 v5 v6 v7 v8 M = some b → V G m_X12_keepUnlike d 44 [(0, .ref v0), (2, .int v2), (3, .int v3), (4, .int v4), (5, .int v5), (6, .int v6), (7, .int v7), (8, .int v8)] [] M (jQb cI b) := by
  intro n
  induction n with
  | zero => intro v0 v2 v3 v4 v5 v6 v7 v8 M b h; exact nomatch (show (none : jO Int32) = some b from h)
  | succ n ih => intro v0 v2 v3 v4 v5 v6 v7 v8 M b h; exact tb_X12_keepUnlike_44 hd_ hk6 ih h
def j_X12_keepUnlike_39 (k6 : Nat → Int32 → Int32 → Int32 → Int32 → jM → jO Int32) (v0 : Nat) (v2 : Int32) (v3 : Int32) (v4 : Int32) (v5 : Int32) (v6 : Int32) (s0 : Int32) (M : jM) : jO Int32 :=
  l_X12_keepUnlike_44 k6 jF0 v0 v2 v3 v4 v5 v6 s0 (nI 0) M
theorem t_X12_keepUnlike_39 {G : jG} {d : Nat} (hd_ : 1 ≤ d) {k6 : Nat → Int32 → Int32 → Int32 → Int32 → jM → jO Int32} (hk6 : ∀ (w0 : Nat) (w2 : Int32) (w3 : Int32) (w4 : Int32) (w5 : Int32) (M : jM) (b : Int32 × jM), k6 w0 w2 w3 w4 w5 M = some b → V G m_X12_keepUnlike d 6 [(0, .ref w0), (2, .int w2), (3, .int w3), (4, .int w4), (5, .int w5)] [] M (jQb cI b)) {v0 : Nat} {v2 : Int32} {v3 : Int32} {v4 : Int32} {v5 : Int32} {v6 : Int32} {s0 : Int32} {M : jM} {b : Int32 × jM} (h : j_X12_keepUnlike_39 k6 v0 v2 v3 v4 v5 v6 s0 M = some b) : V G m_X12_keepUnlike d 39 [(0, .ref v0), (2, .int v2), (3, .int v3), (4, .int v4), (5, .int v5), (6, .int v6)] [.int s0] M (jQb cI b) := by
  unfold j_X12_keepUnlike_39 at h
  refine v_istore (ls2 := [(7, .int s0), (0, .ref v0), (2, .int v2), (3, .int v3), (4, .int v4), (5, .int v5), (6, .int v6)]) dX12_keepUnlike_39 (by decide) rfl ?_
  refine v_iconst dX12_keepUnlike_41 ic_0 ?_
  refine v_istore (ls2 := [(8, .int (nI 0)), (7, .int s0), (0, .ref v0), (2, .int v2), (3, .int v3), (4, .int v4), (5, .int v5), (6, .int v6)]) dX12_keepUnlike_42 (by decide) rfl ?_
  exact V.pick [2, 3, 4, 5, 6, 7, 1, 0] rfl (t_X12_keepUnlike_44 hd_ hk6 _ _ _ _ _ _ _ _ _ _ _ h)
def b_X12_keepUnlike_6  (k6 : Nat → Int32 → Int32 → Int32 → Int32 → jM → jO Int32) (v0 : Nat) (v2 : Int32) (v3 : Int32) (v4 : Int32) (v5 : Int32) (M : jM) : jO Int32 :=
  if v3 ≤ v5 then
    rt (v3 + (nI 1)) M
  else
    jb2 (jiv 11 M v0 (f_X12_stops v0 v4 M)) fun x2 M1 =>
    (gI 11 M1 v0 23).bind fun x3 =>
    if (x2 - v4) = (x3 - v2) then
      j_X12_keepUnlike_39 k6 v0 v2 v3 v4 v5 x2 (nI 1) M1
    else
      j_X12_keepUnlike_39 k6 v0 v2 v3 v4 v5 x2 (nI 0) M1
def l_X12_keepUnlike_6  : Nat → Nat → Int32 → Int32 → Int32 → Int32 → jM → jO Int32
  | 0 => fun _ _ _ _ _ _ => none
  | n + 1 => b_X12_keepUnlike_6  (l_X12_keepUnlike_6  n)
theorem tb_X12_keepUnlike_6 {G : jG} {d : Nat} (hd_ : 1 ≤ d)  {k6 : Nat → Int32 → Int32 → Int32 → Int32 → jM → jO Int32} (hk6 : ∀ (w0 : Nat) (w2 : Int32) (w3 : Int32) (w4 : Int32) (w5 : Int32) (M : jM) (b : Int32 × jM), k6 w0 w2 w3 w4 w5 M = some b → V G m_X12_keepUnlike d 6 [(0, .ref w0), (2, .int w2), (3, .int w3), (4, .int w4), (5, .int w5)] [] M (jQb cI b)) {v0 : Nat} {v2 : Int32} {v3 : Int32} {v4 : Int32} {v5 : Int32} {M : jM} {b : Int32 × jM} (h : b_X12_keepUnlike_6  k6 v0 v2 v3 v4 v5 M = some b) : V G m_X12_keepUnlike d 6 [(0, .ref v0), (2, .int v2), (3, .int v3), (4, .int v4), (5, .int v5)] [] M (jQb cI b) := by
  unfold b_X12_keepUnlike_6 at h
  refine v_iload dX12_keepUnlike_6 4 rfl ?_
  refine v_iload_n dX12_keepUnlike_8 rfl 2 rfl ?_
  refine x_ic_ge (tgt := 161) dX12_keepUnlike_9 (by decide) h (fun h => ?_) (fun h => ?_)
  · refine v_iload_n dX12_keepUnlike_161 rfl 2 rfl ?_
    refine v_iconst dX12_keepUnlike_162 ic_1 ?_
    refine v_iadd dX12_keepUnlike_163 ?_
    exact x_iret dX12_keepUnlike_164 rfl h
  · refine v_aload_n dX12_keepUnlike_12 rfl 0 rfl ?_
    refine v_iload dX12_keepUnlike_13 3 rfl ?_
    refine x_inv (cv := cI) (As := [.int v4]) (rest := []) (ls2 := [(0, .ref v0), (1, .int v4)]) (ci := 11) (by omega) dX12_keepUnlike_15 ke_X12_stops kv_X12_347 rfl rfl (by decide) (Nat.le_of_ble_eq_true rfl) rfl rfl rfl rfl h (fun _ hq => s_X12_stops (by omega) hq) (fun x2 M1 h => ?_)
    refine v_istore (ls2 := [(6, .int x2), (0, .ref v0), (2, .int v2), (3, .int v3), (4, .int v4), (5, .int v5)]) dX12_keepUnlike_18 (by decide) rfl ?_
    refine v_iload dX12_keepUnlike_20 0 rfl ?_
    refine v_iload dX12_keepUnlike_22 4 rfl ?_
    refine v_isub dX12_keepUnlike_24 ?_
    refine v_aload_n dX12_keepUnlike_25 rfl 1 rfl ?_
    refine x_gI dX12_keepUnlike_26 kf_X12_234 rfl h (fun x3 h => ?_)
    refine v_iload_n dX12_keepUnlike_29 rfl 2 rfl ?_
    refine v_isub dX12_keepUnlike_30 ?_
    refine x_ic_ne (tgt := 38) dX12_keepUnlike_31 (by decide) h (fun h => ?_) (fun h => ?_)
    · refine v_iconst dX12_keepUnlike_34 ic_1 ?_
      refine v_goto (tgt := 39) dX12_keepUnlike_35 (by decide) ?_
      exact V.pick [1, 2, 3, 4, 5, 0] rfl (t_X12_keepUnlike_39 hd_ hk6 h)
    · refine v_iconst dX12_keepUnlike_38 ic_0 ?_
      exact V.pick [1, 2, 3, 4, 5, 0] rfl (t_X12_keepUnlike_39 hd_ hk6 h)
theorem t_X12_keepUnlike_6 {G : jG} {d : Nat} (hd_ : 1 ≤ d)  : ∀ (n : Nat) (v0 : Nat) (v2 : Int32) (v3 : Int32) (v4 : Int32) (v5 : Int32) (M : jM) (b : Int32 × jM), l_X12_keepUnlike_6  n v0 v2 v3 v4 v5 M = some b → V G m_X12_keepUnlike d 6 [(0, .ref v0), (2, .int v2), (3, .int v3), (4, .int v4), (5, .int v5)] [] M (jQb cI b) := by
  intro n
  induction n with
  | zero => intro v0 v2 v3 v4 v5 M b h; exact nomatch (show (none : jO Int32) = some b from h)
  | succ n ih => intro v0 v2 v3 v4 v5 M b h; exact tb_X12_keepUnlike_6 hd_  ih h
def f_X12_keepUnlike (v0 : Nat) (v1 : Int32) (v2 : Int32) (v3 : Int32) (M : jM) : jO Int32 :=
  l_X12_keepUnlike_6 jF0 v0 v2 v3 v1 (nI 0) M
theorem s_X12_keepUnlike {G : jG} {d : Nat} (hd_ : 1 ≤ d) {v0 : Nat} {v1 : Int32} {v2 : Int32} {v3 : Int32} {M : jM} {b : Int32 × jM} (h : f_X12_keepUnlike  v0 v1 v2 v3 M = some b) : V G m_X12_keepUnlike d 0 [(0, .ref v0), (1, .int v1), (2, .int v2), (3, .int v3)] [] M (jQb cI b) := by
  unfold f_X12_keepUnlike at h
  refine v_iload_n dX12_keepUnlike_0 rfl 1 rfl ?_
  refine v_istore (ls2 := [(4, .int v1), (0, .ref v0), (1, .int v1), (2, .int v2), (3, .int v3)]) dX12_keepUnlike_1 (by decide) rfl ?_
  refine v_iconst dX12_keepUnlike_3 ic_0 ?_
  refine v_istore (ls2 := [(5, .int (nI 0)), (4, .int v1), (0, .ref v0), (1, .int v1), (2, .int v2), (3, .int v3)]) dX12_keepUnlike_4 (by decide) rfl ?_
  exact V.pick [2, 4, 5, 1, 0] rfl (t_X12_keepUnlike_6 hd_ _ _ _ _ _ _ _ _ h)
def j_X12_parts_231  (s0 : Nat) (s1 : Int32) (s2 : Int32) (s3 : Int32) (M : jM) : jO Int32 :=
  jb2 (jiv 11 M s0 (f_X12_emit s0 s1 s2 s3 M)) fun _ M1 =>
  rZ (nI 1) M1
theorem t_X12_parts_231 {G : jG} {d : Nat} (hd_ : 1 ≤ d)  {s0 : Nat} {s1 : Int32} {s2 : Int32} {s3 : Int32} {M : jM} {b : Int32 × jM} (h : j_X12_parts_231  s0 s1 s2 s3 M = some b) : V G m_X12_parts d 231 [] [.int s3, .int s2, .int s1, .ref s0] M (jQb cI b) := by
  unfold j_X12_parts_231 at h
  refine x_inv (cv := cU) (As := [.int s1, .int s2, .int s3]) (rest := []) (ls2 := [(0, .ref s0), (1, .int s1), (2, .int s2), (3, .int s3)]) (ci := 11) (by omega) dX12_parts_231 ke_X12_emit kv_X12_262 rfl rfl (by decide) (Nat.le_of_ble_eq_true rfl) rfl rfl rfl rfl h (fun _ hq => s_X12_emit (by omega) hq) (fun _ M1 h => ?_)
  refine v_iconst dX12_parts_234 ic_1 ?_
  exact x_zret dX12_parts_235 rfl h
def j_X12_parts_226  (v3 : Int32) (s0 : Nat) (s1 : Int32) (s2 : Int32) (M : jM) : jO Int32 :=
  j_X12_parts_231 s0 s1 s2 v3 M
theorem t_X12_parts_226 {G : jG} {d : Nat} (hd_ : 1 ≤ d)  {v3 : Int32} {s0 : Nat} {s1 : Int32} {s2 : Int32} {M : jM} {b : Int32 × jM} (h : j_X12_parts_226  v3 s0 s1 s2 M = some b) : V G m_X12_parts d 226 [(3, .int v3)] [.int s2, .int s1, .ref s0] M (jQb cI b) := by
  unfold j_X12_parts_226 at h
  refine v_iload_n dX12_parts_226 rfl 0 rfl ?_
  refine v_goto (tgt := 231) dX12_parts_227 (by decide) ?_
  exact V.pick [] rfl (t_X12_parts_231 hd_ h)
def j_X12_parts_211  (v0 : Nat) (v1 : Int32) (v2 : Int32) (v3 : Int32) (M : jM) : jO Int32 :=
  if v1 = (nI 9) then
    j_X12_parts_226 v3 v0 v1 v2 M
  else
    if v1 = (nI 8) then
      j_X12_parts_226 v3 v0 v1 v2 M
    else
      j_X12_parts_231 v0 v1 v2 (nI 0) M
theorem t_X12_parts_211 {G : jG} {d : Nat} (hd_ : 1 ≤ d)  {v0 : Nat} {v1 : Int32} {v2 : Int32} {v3 : Int32} {M : jM} {b : Int32 × jM} (h : j_X12_parts_211  v0 v1 v2 v3 M = some b) : V G m_X12_parts d 211 [(0, .ref v0), (1, .int v1), (2, .int v2), (3, .int v3)] [] M (jQb cI b) := by
  unfold j_X12_parts_211 at h
  refine v_aload_n dX12_parts_211 rfl 0 rfl ?_
  refine v_iload_n dX12_parts_212 rfl 1 rfl ?_
  refine v_iload_n dX12_parts_213 rfl 2 rfl ?_
  refine v_iload_n dX12_parts_214 rfl 1 rfl ?_
  refine v_bipush dX12_parts_215 bp_9 ?_
  refine x_ic_eq (tgt := 226) dX12_parts_217 (by decide) h (fun h => ?_) (fun h => ?_)
  · exact V.pick [3] rfl (t_X12_parts_226 hd_ h)
  · refine v_iload_n dX12_parts_220 rfl 1 rfl ?_
    refine v_bipush dX12_parts_221 bp_8 ?_
    refine x_ic_ne (tgt := 230) dX12_parts_223 (by decide) h (fun h => ?_) (fun h => ?_)
    · exact V.pick [3] rfl (t_X12_parts_226 hd_ h)
    · refine v_iconst dX12_parts_230 ic_0 ?_
      exact V.pick [] rfl (t_X12_parts_231 hd_ h)
def j_X12_parts_188  (v0 : Nat) (v1 : Int32) (v2 : Int32) (v3 : Int32) (v4 : Int32) (s0 : Int32) (M : jM) : jO Int32 :=
  if v4 = s0 then
    rZ (nI 0) M
  else
    if v4 = 0 then
      jb2 (jiv 11 M v0 (f_X12_emit v0 (nI 1) (nI 0) (nI 0) M)) fun _ M1 =>
      j_X12_parts_211 v0 v1 v2 v3 M1
    else
      j_X12_parts_211 v0 v1 v2 v3 M
theorem t_X12_parts_188 {G : jG} {d : Nat} (hd_ : 1 ≤ d)  {v0 : Nat} {v1 : Int32} {v2 : Int32} {v3 : Int32} {v4 : Int32} {s0 : Int32} {M : jM} {b : Int32 × jM} (h : j_X12_parts_188  v0 v1 v2 v3 v4 s0 M = some b) : V G m_X12_parts d 188 [(0, .ref v0), (1, .int v1), (2, .int v2), (3, .int v3), (4, .int v4)] [.int s0] M (jQb cI b) := by
  unfold j_X12_parts_188 at h
  refine v_istore (ls2 := [(5, .int s0), (0, .ref v0), (1, .int v1), (2, .int v2), (3, .int v3), (4, .int v4)]) dX12_parts_188 (by decide) rfl ?_
  refine v_iload dX12_parts_190 5 rfl ?_
  refine v_iload dX12_parts_192 0 rfl ?_
  refine x_ic_ne (tgt := 199) dX12_parts_194 (by decide) h (fun h => ?_) (fun h => ?_)
  · refine v_iconst dX12_parts_197 ic_0 ?_
    exact x_zret dX12_parts_198 rfl h
  · refine v_iload dX12_parts_199 5 rfl ?_
    refine x_if_ne (tgt := 211) dX12_parts_201 (by decide) h (fun h => ?_) (fun h => ?_)
    · refine v_aload_n dX12_parts_204 rfl 1 rfl ?_
      refine v_iconst dX12_parts_205 ic_1 ?_
      refine v_iconst dX12_parts_206 ic_0 ?_
      refine v_iconst dX12_parts_207 ic_0 ?_
      refine x_inv (cv := cU) (As := [.int (nI 1), .int (nI 0), .int (nI 0)]) (rest := []) (ls2 := [(0, .ref v0), (1, .int (nI 1)), (2, .int (nI 0)), (3, .int (nI 0))]) (ci := 11) (by omega) dX12_parts_208 ke_X12_emit kv_X12_262 rfl rfl (by decide) (Nat.le_of_ble_eq_true rfl) rfl rfl rfl rfl h (fun _ hq => s_X12_emit (by omega) hq) (fun _ M1 h => ?_)
      exact V.pick [1, 2, 3, 4] rfl (t_X12_parts_211 hd_ h)
    · exact V.pick [1, 2, 3, 4] rfl (t_X12_parts_211 hd_ h)
def j_X12_parts_93  (v0 : Nat) (v1 : Int32) (v2 : Int32) (v3 : Int32) (s0 : Int32) (M : jM) : jO Int32 :=
  if v1 = (nI 9) then
    (gR 11 M v0 9).bind fun r1 =>
    (ldI M r1 v2).bind fun x2 =>
    (gR 11 M v0 9).bind fun r3 =>
    (ldI M r3 v3).bind fun x4 =>
    if x2 = x4 then
      j_X12_parts_188 v0 v1 v2 v3 s0 (nI 1) M
    else
      j_X12_parts_188 v0 v1 v2 v3 s0 (nI 0) M
  else
    if v1 = (nI 8) then
      (gI 11 M v0 6).bind fun x5 =>
      (gR 11 M v0 9).bind fun r6 =>
      (ldI M r6 v2).bind fun x7 =>
      (gR 11 M v0 9).bind fun r8 =>
      (ldI M r8 v3).bind fun x9 =>
      jb2 (jiv 11 M v0 (f_X12_isTied v0 x5 x7 x9 M)) fun x11 M10 =>
      j_X12_parts_188 v0 v1 v2 v3 s0 x11 M10
    else
      (gR 11 M v0 1).bind fun r12 =>
      (gI 11 M v0 6).bind fun x13 =>
      (gR 11 M v0 9).bind fun r14 =>
      (ldI M r14 v2).bind fun x15 =>
      (ldI M r12 (((nI 6) * x13) + x15)).bind fun x16 =>
      if ((x16 >>> ((v1 - (nI 6)) &&& 31)) &&& (nI 1)) = (nI 1) then
        j_X12_parts_188 v0 v1 v2 v3 s0 (nI 1) M
      else
        j_X12_parts_188 v0 v1 v2 v3 s0 (nI 0) M
theorem t_X12_parts_93 {G : jG} {d : Nat} (hd_ : 1 ≤ d)  {v0 : Nat} {v1 : Int32} {v2 : Int32} {v3 : Int32} {s0 : Int32} {M : jM} {b : Int32 × jM} (h : j_X12_parts_93  v0 v1 v2 v3 s0 M = some b) : V G m_X12_parts d 93 [(0, .ref v0), (1, .int v1), (2, .int v2), (3, .int v3)] [.int s0] M (jQb cI b) := by
  unfold j_X12_parts_93 at h
  refine v_istore (ls2 := [(4, .int s0), (0, .ref v0), (1, .int v1), (2, .int v2), (3, .int v3)]) dX12_parts_93 (by decide) rfl ?_
  refine v_iload_n dX12_parts_95 rfl 2 rfl ?_
  refine v_bipush dX12_parts_96 bp_9 ?_
  refine x_ic_ne (tgt := 124) dX12_parts_98 (by decide) h (fun h => ?_) (fun h => ?_)
  · refine v_aload_n dX12_parts_101 rfl 1 rfl ?_
    refine x_gR dX12_parts_102 kf_X12_28 rfl h (fun r1 h => ?_)
    refine v_iload_n dX12_parts_105 rfl 3 rfl ?_
    refine x_ldI dX12_parts_106 h (fun x2 h => ?_)
    refine v_aload_n dX12_parts_107 rfl 1 rfl ?_
    refine x_gR dX12_parts_108 kf_X12_28 rfl h (fun r3 h => ?_)
    refine v_iload_n dX12_parts_111 rfl 4 rfl ?_
    refine x_ldI dX12_parts_112 h (fun x4 h => ?_)
    refine x_ic_ne (tgt := 120) dX12_parts_113 (by decide) h (fun h => ?_) (fun h => ?_)
    · refine v_iconst dX12_parts_116 ic_1 ?_
      refine v_goto (tgt := 188) dX12_parts_117 (by decide) ?_
      exact V.pick [1, 2, 3, 4, 0] rfl (t_X12_parts_188 hd_ h)
    · refine v_iconst dX12_parts_120 ic_0 ?_
      refine v_goto (tgt := 188) dX12_parts_121 (by decide) ?_
      exact V.pick [1, 2, 3, 4, 0] rfl (t_X12_parts_188 hd_ h)
  · refine v_iload_n dX12_parts_124 rfl 2 rfl ?_
    refine v_bipush dX12_parts_125 bp_8 ?_
    refine x_ic_ne (tgt := 153) dX12_parts_127 (by decide) h (fun h => ?_) (fun h => ?_)
    · refine v_aload_n dX12_parts_130 rfl 1 rfl ?_
      refine v_aload_n dX12_parts_131 rfl 1 rfl ?_
      refine x_gI dX12_parts_132 kf_X12_166 rfl h (fun x5 h => ?_)
      refine v_aload_n dX12_parts_135 rfl 1 rfl ?_
      refine x_gR dX12_parts_136 kf_X12_28 rfl h (fun r6 h => ?_)
      refine v_iload_n dX12_parts_139 rfl 3 rfl ?_
      refine x_ldI dX12_parts_140 h (fun x7 h => ?_)
      refine v_aload_n dX12_parts_141 rfl 1 rfl ?_
      refine x_gR dX12_parts_142 kf_X12_28 rfl h (fun r8 h => ?_)
      refine v_iload_n dX12_parts_145 rfl 4 rfl ?_
      refine x_ldI dX12_parts_146 h (fun x9 h => ?_)
      refine x_inv (cv := cI) (As := [.int x5, .int x7, .int x9]) (rest := []) (ls2 := [(0, .ref v0), (1, .int x5), (2, .int x7), (3, .int x9)]) (ci := 11) (by omega) dX12_parts_147 ke_X12_isTied kv_X12_152 rfl rfl (by decide) (Nat.le_of_ble_eq_true rfl) rfl rfl rfl rfl h (fun _ hq => s_X12_isTied (by omega) hq) (fun x11 M10 h => ?_)
      refine v_goto (tgt := 188) dX12_parts_150 (by decide) ?_
      exact V.pick [1, 2, 3, 4, 0] rfl (t_X12_parts_188 hd_ h)
    · refine v_aload_n dX12_parts_153 rfl 1 rfl ?_
      refine x_gR dX12_parts_154 kf_X12_13 rfl h (fun r12 h => ?_)
      refine v_bipush dX12_parts_157 bp_6 ?_
      refine v_aload_n dX12_parts_159 rfl 1 rfl ?_
      refine x_gI dX12_parts_160 kf_X12_166 rfl h (fun x13 h => ?_)
      refine v_imul dX12_parts_163 ?_
      refine v_aload_n dX12_parts_164 rfl 1 rfl ?_
      refine x_gR dX12_parts_165 kf_X12_28 rfl h (fun r14 h => ?_)
      refine v_iload_n dX12_parts_168 rfl 3 rfl ?_
      refine x_ldI dX12_parts_169 h (fun x15 h => ?_)
      refine v_iadd dX12_parts_170 ?_
      refine x_ldI dX12_parts_171 h (fun x16 h => ?_)
      refine v_iload_n dX12_parts_172 rfl 2 rfl ?_
      refine v_bipush dX12_parts_173 bp_6 ?_
      refine v_isub dX12_parts_175 ?_
      refine v_ishr dX12_parts_176 ?_
      refine v_iconst dX12_parts_177 ic_1 ?_
      refine v_iand dX12_parts_178 ?_
      refine v_iconst dX12_parts_179 ic_1 ?_
      refine x_ic_ne (tgt := 187) dX12_parts_180 (by decide) h (fun h => ?_) (fun h => ?_)
      · refine v_iconst dX12_parts_183 ic_1 ?_
        refine v_goto (tgt := 188) dX12_parts_184 (by decide) ?_
        exact V.pick [1, 2, 3, 4, 0] rfl (t_X12_parts_188 hd_ h)
      · refine v_iconst dX12_parts_187 ic_0 ?_
        exact V.pick [1, 2, 3, 4, 0] rfl (t_X12_parts_188 hd_ h)
def f_X12_parts (v0 : Nat) (v1 : Int32) (v2 : Int32) (v3 : Int32) (M : jM) : jO Int32 :=
  if v1 = (nI 9) then
    (gR 11 M v0 8).bind fun r1 =>
    (ldI M r1 v2).bind fun x2 =>
    (gR 11 M v0 8).bind fun r3 =>
    (ldI M r3 v3).bind fun x4 =>
    if x2 = x4 then
      j_X12_parts_93 v0 v1 v2 v3 (nI 1) M
    else
      j_X12_parts_93 v0 v1 v2 v3 (nI 0) M
  else
    if v1 = (nI 8) then
      (gI 11 M v0 5).bind fun x5 =>
      (gR 11 M v0 8).bind fun r6 =>
      (ldI M r6 v2).bind fun x7 =>
      (gR 11 M v0 8).bind fun r8 =>
      (ldI M r8 v3).bind fun x9 =>
      jb2 (jiv 11 M v0 (f_X12_isTied v0 x5 x7 x9 M)) fun x11 M10 =>
      j_X12_parts_93 v0 v1 v2 v3 x11 M10
    else
      (gR 11 M v0 1).bind fun r12 =>
      (gI 11 M v0 5).bind fun x13 =>
      (gR 11 M v0 8).bind fun r14 =>
      (ldI M r14 v2).bind fun x15 =>
      (ldI M r12 (((nI 6) * x13) + x15)).bind fun x16 =>
      if ((x16 >>> ((v1 - (nI 6)) &&& 31)) &&& (nI 1)) = (nI 1) then
        j_X12_parts_93 v0 v1 v2 v3 (nI 1) M
      else
        j_X12_parts_93 v0 v1 v2 v3 (nI 0) M
theorem s_X12_parts {G : jG} {d : Nat} (hd_ : 1 ≤ d) {v0 : Nat} {v1 : Int32} {v2 : Int32} {v3 : Int32} {M : jM} {b : Int32 × jM} (h : f_X12_parts  v0 v1 v2 v3 M = some b) : V G m_X12_parts d 0 [(0, .ref v0), (1, .int v1), (2, .int v2), (3, .int v3)] [] M (jQb cI b) := by
  unfold f_X12_parts at h
  refine v_iload_n dX12_parts_0 rfl 1 rfl ?_
  refine v_bipush dX12_parts_1 bp_9 ?_
  refine x_ic_ne (tgt := 29) dX12_parts_3 (by decide) h (fun h => ?_) (fun h => ?_)
  · refine v_aload_n dX12_parts_6 rfl 0 rfl ?_
    refine x_gR dX12_parts_7 kf_X12_25 rfl h (fun r1 h => ?_)
    refine v_iload_n dX12_parts_10 rfl 2 rfl ?_
    refine x_ldI dX12_parts_11 h (fun x2 h => ?_)
    refine v_aload_n dX12_parts_12 rfl 0 rfl ?_
    refine x_gR dX12_parts_13 kf_X12_25 rfl h (fun r3 h => ?_)
    refine v_iload_n dX12_parts_16 rfl 3 rfl ?_
    refine x_ldI dX12_parts_17 h (fun x4 h => ?_)
    refine x_ic_ne (tgt := 25) dX12_parts_18 (by decide) h (fun h => ?_) (fun h => ?_)
    · refine v_iconst dX12_parts_21 ic_1 ?_
      refine v_goto (tgt := 93) dX12_parts_22 (by decide) ?_
      exact t_X12_parts_93 hd_ h
    · refine v_iconst dX12_parts_25 ic_0 ?_
      refine v_goto (tgt := 93) dX12_parts_26 (by decide) ?_
      exact t_X12_parts_93 hd_ h
  · refine v_iload_n dX12_parts_29 rfl 1 rfl ?_
    refine v_bipush dX12_parts_30 bp_8 ?_
    refine x_ic_ne (tgt := 58) dX12_parts_32 (by decide) h (fun h => ?_) (fun h => ?_)
    · refine v_aload_n dX12_parts_35 rfl 0 rfl ?_
      refine v_aload_n dX12_parts_36 rfl 0 rfl ?_
      refine x_gI dX12_parts_37 kf_X12_163 rfl h (fun x5 h => ?_)
      refine v_aload_n dX12_parts_40 rfl 0 rfl ?_
      refine x_gR dX12_parts_41 kf_X12_25 rfl h (fun r6 h => ?_)
      refine v_iload_n dX12_parts_44 rfl 2 rfl ?_
      refine x_ldI dX12_parts_45 h (fun x7 h => ?_)
      refine v_aload_n dX12_parts_46 rfl 0 rfl ?_
      refine x_gR dX12_parts_47 kf_X12_25 rfl h (fun r8 h => ?_)
      refine v_iload_n dX12_parts_50 rfl 3 rfl ?_
      refine x_ldI dX12_parts_51 h (fun x9 h => ?_)
      refine x_inv (cv := cI) (As := [.int x5, .int x7, .int x9]) (rest := []) (ls2 := [(0, .ref v0), (1, .int x5), (2, .int x7), (3, .int x9)]) (ci := 11) (by omega) dX12_parts_52 ke_X12_isTied kv_X12_152 rfl rfl (by decide) (Nat.le_of_ble_eq_true rfl) rfl rfl rfl rfl h (fun _ hq => s_X12_isTied (by omega) hq) (fun x11 M10 h => ?_)
      refine v_goto (tgt := 93) dX12_parts_55 (by decide) ?_
      exact t_X12_parts_93 hd_ h
    · refine v_aload_n dX12_parts_58 rfl 0 rfl ?_
      refine x_gR dX12_parts_59 kf_X12_13 rfl h (fun r12 h => ?_)
      refine v_bipush dX12_parts_62 bp_6 ?_
      refine v_aload_n dX12_parts_64 rfl 0 rfl ?_
      refine x_gI dX12_parts_65 kf_X12_163 rfl h (fun x13 h => ?_)
      refine v_imul dX12_parts_68 ?_
      refine v_aload_n dX12_parts_69 rfl 0 rfl ?_
      refine x_gR dX12_parts_70 kf_X12_25 rfl h (fun r14 h => ?_)
      refine v_iload_n dX12_parts_73 rfl 2 rfl ?_
      refine x_ldI dX12_parts_74 h (fun x15 h => ?_)
      refine v_iadd dX12_parts_75 ?_
      refine x_ldI dX12_parts_76 h (fun x16 h => ?_)
      refine v_iload_n dX12_parts_77 rfl 1 rfl ?_
      refine v_bipush dX12_parts_78 bp_6 ?_
      refine v_isub dX12_parts_80 ?_
      refine v_ishr dX12_parts_81 ?_
      refine v_iconst dX12_parts_82 ic_1 ?_
      refine v_iand dX12_parts_83 ?_
      refine v_iconst dX12_parts_84 ic_1 ?_
      refine x_ic_ne (tgt := 92) dX12_parts_85 (by decide) h (fun h => ?_) (fun h => ?_)
      · refine v_iconst dX12_parts_88 ic_1 ?_
        refine v_goto (tgt := 93) dX12_parts_89 (by decide) ?_
        exact t_X12_parts_93 hd_ h
      · refine v_iconst dX12_parts_92 ic_0 ?_
        exact t_X12_parts_93 hd_ h
def j_X12_partAtom_93 (k2 : Nat → Int32 → jM → jO Unit) (k60 : Nat → Int32 → Int32 → jM → jO Unit) (v0 : Nat) (v1 : Int32) (v2 : Int32) (M : jM) : jO Unit :=
  k60 v0 v1 (v2 + (nI 1)) M
theorem t_X12_partAtom_93 {G : jG} {d : Nat} (hd_ : 2 ≤ d) {k2 : Nat → Int32 → jM → jO Unit} (hk2 : ∀ (w0 : Nat) (w1 : Int32) (M : jM) (b : Unit × jM), k2 w0 w1 M = some b → V G m_X12_partAtom d 2 [(0, .ref w0), (1, .int w1)] [] M (jQb cU b)) {k60 : Nat → Int32 → Int32 → jM → jO Unit} (hk60 : ∀ (w0 : Nat) (w1 : Int32) (w2 : Int32) (M : jM) (b : Unit × jM), k60 w0 w1 w2 M = some b → V G m_X12_partAtom d 60 [(0, .ref w0), (1, .int w1), (2, .int w2)] [] M (jQb cU b)) {v0 : Nat} {v1 : Int32} {v2 : Int32} {M : jM} {b : Unit × jM} (h : j_X12_partAtom_93 k2 k60 v0 v1 v2 M = some b) : V G m_X12_partAtom d 93 [(0, .ref v0), (1, .int v1), (2, .int v2)] [] M (jQb cU b) := by
  unfold j_X12_partAtom_93 at h
  refine v_iincC (ls2 := [(2, .int (v2 + (nI 1))), (0, .ref v0), (1, .int v1)]) dX12_partAtom_93 ic_1 2 rfl (by decide) rfl ?_
  refine v_goto (tgt := 60) dX12_partAtom_96 (by decide) ?_
  exact V.pick [1, 2, 0] rfl (hk60 _ _ _ _ _ h)
def b_X12_partAtom_60 (k2 : Nat → Int32 → jM → jO Unit) (k60 : Nat → Int32 → Int32 → jM → jO Unit) (v0 : Nat) (v1 : Int32) (v2 : Int32) (M : jM) : jO Unit :=
  if v1 < v2 then
    k2 v0 (v1 + (nI 1)) M
  else
    jb2 (jiv 11 M v0 (f_X12_parts v0 (nI 8) v2 v1 M)) fun x2 M1 =>
    if x2 = 0 then
      if v1 ≤ v2 then
        j_X12_partAtom_93 k2 k60 v0 v1 v2 M1
      else
        jb2 (jiv 11 M1 v0 (f_X12_parts v0 (nI 8) v1 v2 M1)) fun x4 M3 =>
        if x4 = 0 then
          j_X12_partAtom_93 k2 k60 v0 v1 v2 M3
        else
          rt () M3
    else
      rt () M1
def l_X12_partAtom_60 (k2 : Nat → Int32 → jM → jO Unit) : Nat → Nat → Int32 → Int32 → jM → jO Unit
  | 0 => fun _ _ _ _ => none
  | n + 1 => b_X12_partAtom_60 k2 (l_X12_partAtom_60 k2 n)
theorem tb_X12_partAtom_60 {G : jG} {d : Nat} (hd_ : 2 ≤ d) {k2 : Nat → Int32 → jM → jO Unit} (hk2 : ∀ (w0 : Nat) (w1 : Int32) (M : jM) (b : Unit × jM), k2 w0 w1 M = some b → V G m_X12_partAtom d 2 [(0, .ref w0), (1, .int w1)] [] M (jQb cU b)) {k60 : Nat → Int32 → Int32 → jM → jO Unit} (hk60 : ∀ (w0 : Nat) (w1 : Int32) (w2 : Int32) (M : jM) (b : Unit × jM), k60 w0 w1 w2 M = some b → V G m_X12_partAtom d 60 [(0, .ref w0), (1, .int w1), (2, .int w2)] [] M (jQb cU b)) {v0 : Nat} {v1 : Int32} {v2 : Int32} {M : jM} {b : Unit × jM} (h : b_X12_partAtom_60 k2 k60 v0 v1 v2 M = some b) : V G m_X12_partAtom d 60 [(0, .ref v0), (1, .int v1), (2, .int v2)] [] M (jQb cU b) := by
  unfold b_X12_partAtom_60 at h
  refine v_iload_n dX12_partAtom_60 rfl 2 rfl ?_
  refine v_iload_n dX12_partAtom_61 rfl 1 rfl ?_
  refine x_ic_gt (tgt := 99) dX12_partAtom_62 (by decide) h (fun h => ?_) (fun h => ?_)
  · refine v_iincC (ls2 := [(1, .int (v1 + (nI 1))), (0, .ref v0), (2, .int v2)]) dX12_partAtom_99 ic_1 1 rfl (by decide) rfl ?_
    refine v_goto (tgt := 2) dX12_partAtom_102 (by decide) ?_
    exact V.pick [1, 0] rfl (hk2 _ _ _ _ h)
  · refine v_aload_n dX12_partAtom_65 rfl 0 rfl ?_
    refine v_bipush dX12_partAtom_66 bp_8 ?_
    refine v_iload_n dX12_partAtom_68 rfl 2 rfl ?_
    refine v_iload_n dX12_partAtom_69 rfl 1 rfl ?_
    refine x_inv (cv := cI) (As := [.int (nI 8), .int v2, .int v1]) (rest := []) (ls2 := [(0, .ref v0), (1, .int (nI 8)), (2, .int v2), (3, .int v1)]) (ci := 11) (by omega) dX12_partAtom_70 ke_X12_parts kv_X12_344 rfl rfl (by decide) (Nat.le_of_ble_eq_true rfl) rfl rfl rfl rfl h (fun _ hq => s_X12_parts (by omega) hq) (fun x2 M1 h => ?_)
    refine x_if_ne (tgt := 92) dX12_partAtom_73 (by decide) h (fun h => ?_) (fun h => ?_)
    · refine v_iload_n dX12_partAtom_76 rfl 2 rfl ?_
      refine v_iload_n dX12_partAtom_77 rfl 1 rfl ?_
      refine x_ic_ge (tgt := 93) dX12_partAtom_78 (by decide) h (fun h => ?_) (fun h => ?_)
      · exact t_X12_partAtom_93 hd_ hk2 hk60 h
      · refine v_aload_n dX12_partAtom_81 rfl 0 rfl ?_
        refine v_bipush dX12_partAtom_82 bp_8 ?_
        refine v_iload_n dX12_partAtom_84 rfl 1 rfl ?_
        refine v_iload_n dX12_partAtom_85 rfl 2 rfl ?_
        refine x_inv (cv := cI) (As := [.int (nI 8), .int v1, .int v2]) (rest := []) (ls2 := [(0, .ref v0), (1, .int (nI 8)), (2, .int v1), (3, .int v2)]) (ci := 11) (by omega) dX12_partAtom_86 ke_X12_parts kv_X12_344 rfl rfl (by decide) (Nat.le_of_ble_eq_true rfl) rfl rfl rfl rfl h (fun _ hq => s_X12_parts (by omega) hq) (fun x4 M3 h => ?_)
        refine x_if_eq (tgt := 93) dX12_partAtom_89 (by decide) h (fun h => ?_) (fun h => ?_)
        · exact t_X12_partAtom_93 hd_ hk2 hk60 h
        · exact x_vret dX12_partAtom_92 rfl h
    · exact x_vret dX12_partAtom_92 rfl h
theorem t_X12_partAtom_60 {G : jG} {d : Nat} (hd_ : 2 ≤ d) {k2 : Nat → Int32 → jM → jO Unit} (hk2 : ∀ (w0 : Nat) (w1 : Int32) (M : jM) (b : Unit × jM), k2 w0 w1 M = some b → V G m_X12_partAtom d 2 [(0, .ref w0), (1, .int w1)] [] M (jQb cU b)) : ∀ (n : Nat) (v0 : Nat) (v1 : Int32) (v2 : Int32) (M : jM) (b : Unit × jM), l_X12_partAtom_60 k2 n v0 v1 v2 M = some b → V G m_X12_partAtom d 60 [(0, .ref v0), (1, .int v1), (2, .int v2)] [] M (jQb cU b) := by
  intro n
  induction n with
  | zero => intro v0 v1 v2 M b h; exact nomatch (show (none : jO Unit) = some b from h)
  | succ n ih => intro v0 v1 v2 M b h; exact tb_X12_partAtom_60 hd_ hk2 ih h
def b_X12_partAtom_12 (k2 : Nat → Int32 → jM → jO Unit) (k12 : Nat → Int32 → Int32 → jM → jO Unit) (v0 : Nat) (v1 : Int32) (v2 : Int32) (M : jM) : jO Unit :=
  if v1 ≤ v2 then
    jb2 (jiv 11 M v0 (f_X12_parts v0 (nI 6) v1 v1 M)) fun x2 M1 =>
    if x2 = 0 then
      jb2 (jiv 11 M1 v0 (f_X12_parts v0 (nI 7) v1 v1 M1)) fun x4 M3 =>
      if x4 = 0 then
        l_X12_partAtom_60 k2 jF0 v0 v1 (nI 0) M3
      else
        rt () M3
    else
      rt () M1
  else
    jb2 (jiv 11 M v0 (f_X12_parts v0 (nI 9) v2 v1 M)) fun x6 M5 =>
    if x6 = 0 then
      k12 v0 v1 (v2 + (nI 1)) M5
    else
      rt () M5
def l_X12_partAtom_12 (k2 : Nat → Int32 → jM → jO Unit) : Nat → Nat → Int32 → Int32 → jM → jO Unit
  | 0 => fun _ _ _ _ => none
  | n + 1 => b_X12_partAtom_12 k2 (l_X12_partAtom_12 k2 n)
theorem tb_X12_partAtom_12 {G : jG} {d : Nat} (hd_ : 2 ≤ d) {k2 : Nat → Int32 → jM → jO Unit} (hk2 : ∀ (w0 : Nat) (w1 : Int32) (M : jM) (b : Unit × jM), k2 w0 w1 M = some b → V G m_X12_partAtom d 2 [(0, .ref w0), (1, .int w1)] [] M (jQb cU b)) {k12 : Nat → Int32 → Int32 → jM → jO Unit} (hk12 : ∀ (w0 : Nat) (w1 : Int32) (w2 : Int32) (M : jM) (b : Unit × jM), k12 w0 w1 w2 M = some b → V G m_X12_partAtom d 12 [(0, .ref w0), (1, .int w1), (2, .int w2)] [] M (jQb cU b)) {v0 : Nat} {v1 : Int32} {v2 : Int32} {M : jM} {b : Unit × jM} (h : b_X12_partAtom_12 k2 k12 v0 v1 v2 M = some b) : V G m_X12_partAtom d 12 [(0, .ref v0), (1, .int v1), (2, .int v2)] [] M (jQb cU b) := by
  unfold b_X12_partAtom_12 at h
  refine v_iload_n dX12_partAtom_12 rfl 2 rfl ?_
  refine v_iload_n dX12_partAtom_13 rfl 1 rfl ?_
  refine x_ic_ge (tgt := 35) dX12_partAtom_14 (by decide) h (fun h => ?_) (fun h => ?_)
  · refine v_aload_n dX12_partAtom_35 rfl 0 rfl ?_
    refine v_bipush dX12_partAtom_36 bp_6 ?_
    refine v_iload_n dX12_partAtom_38 rfl 1 rfl ?_
    refine v_iload_n dX12_partAtom_39 rfl 1 rfl ?_
    refine x_inv (cv := cI) (As := [.int (nI 6), .int v1, .int v1]) (rest := []) (ls2 := [(0, .ref v0), (1, .int (nI 6)), (2, .int v1), (3, .int v1)]) (ci := 11) (by omega) dX12_partAtom_40 ke_X12_parts kv_X12_344 rfl rfl (by decide) (Nat.le_of_ble_eq_true rfl) rfl rfl rfl rfl h (fun _ hq => s_X12_parts (by omega) hq) (fun x2 M1 h => ?_)
    refine x_if_ne (tgt := 57) dX12_partAtom_43 (by decide) h (fun h => ?_) (fun h => ?_)
    · refine v_aload_n dX12_partAtom_46 rfl 0 rfl ?_
      refine v_bipush dX12_partAtom_47 bp_7 ?_
      refine v_iload_n dX12_partAtom_49 rfl 1 rfl ?_
      refine v_iload_n dX12_partAtom_50 rfl 1 rfl ?_
      refine x_inv (cv := cI) (As := [.int (nI 7), .int v1, .int v1]) (rest := []) (ls2 := [(0, .ref v0), (1, .int (nI 7)), (2, .int v1), (3, .int v1)]) (ci := 11) (by omega) dX12_partAtom_51 ke_X12_parts kv_X12_344 rfl rfl (by decide) (Nat.le_of_ble_eq_true rfl) rfl rfl rfl rfl h (fun _ hq => s_X12_parts (by omega) hq) (fun x4 M3 h => ?_)
      refine x_if_eq (tgt := 58) dX12_partAtom_54 (by decide) h (fun h => ?_) (fun h => ?_)
      · refine v_iconst dX12_partAtom_58 ic_0 ?_
        refine v_istore_n (ls2 := [(2, .int (nI 0)), (0, .ref v0), (1, .int v1)]) dX12_partAtom_59 rfl (by decide) rfl ?_
        exact V.pick [1, 2, 0] rfl (t_X12_partAtom_60 hd_ hk2 _ _ _ _ _ _ h)
      · exact x_vret dX12_partAtom_57 rfl h
    · exact x_vret dX12_partAtom_57 rfl h
  · refine v_aload_n dX12_partAtom_17 rfl 0 rfl ?_
    refine v_bipush dX12_partAtom_18 bp_9 ?_
    refine v_iload_n dX12_partAtom_20 rfl 2 rfl ?_
    refine v_iload_n dX12_partAtom_21 rfl 1 rfl ?_
    refine x_inv (cv := cI) (As := [.int (nI 9), .int v2, .int v1]) (rest := []) (ls2 := [(0, .ref v0), (1, .int (nI 9)), (2, .int v2), (3, .int v1)]) (ci := 11) (by omega) dX12_partAtom_22 ke_X12_parts kv_X12_344 rfl rfl (by decide) (Nat.le_of_ble_eq_true rfl) rfl rfl rfl rfl h (fun _ hq => s_X12_parts (by omega) hq) (fun x6 M5 h => ?_)
    refine x_if_eq (tgt := 29) dX12_partAtom_25 (by decide) h (fun h => ?_) (fun h => ?_)
    · refine v_iincC (ls2 := [(2, .int (v2 + (nI 1))), (0, .ref v0), (1, .int v1)]) dX12_partAtom_29 ic_1 2 rfl (by decide) rfl ?_
      refine v_goto (tgt := 12) dX12_partAtom_32 (by decide) ?_
      exact V.pick [1, 2, 0] rfl (hk12 _ _ _ _ _ h)
    · exact x_vret dX12_partAtom_28 rfl h
theorem t_X12_partAtom_12 {G : jG} {d : Nat} (hd_ : 2 ≤ d) {k2 : Nat → Int32 → jM → jO Unit} (hk2 : ∀ (w0 : Nat) (w1 : Int32) (M : jM) (b : Unit × jM), k2 w0 w1 M = some b → V G m_X12_partAtom d 2 [(0, .ref w0), (1, .int w1)] [] M (jQb cU b)) : ∀ (n : Nat) (v0 : Nat) (v1 : Int32) (v2 : Int32) (M : jM) (b : Unit × jM), l_X12_partAtom_12 k2 n v0 v1 v2 M = some b → V G m_X12_partAtom d 12 [(0, .ref v0), (1, .int v1), (2, .int v2)] [] M (jQb cU b) := by
  intro n
  induction n with
  | zero => intro v0 v1 v2 M b h; exact nomatch (show (none : jO Unit) = some b from h)
  | succ n ih => intro v0 v1 v2 M b h; exact tb_X12_partAtom_12 hd_ hk2 ih h
def b_X12_partAtom_2  (k2 : Nat → Int32 → jM → jO Unit) (v0 : Nat) (v1 : Int32) (M : jM) : jO Unit :=
  (gI 11 M v0 7).bind fun x1 =>
  if x1 ≤ v1 then
    rt () M
  else
    l_X12_partAtom_12 k2 jF0 v0 v1 (nI 0) M
def l_X12_partAtom_2  : Nat → Nat → Int32 → jM → jO Unit
  | 0 => fun _ _ _ => none
  | n + 1 => b_X12_partAtom_2  (l_X12_partAtom_2  n)
theorem tb_X12_partAtom_2 {G : jG} {d : Nat} (hd_ : 2 ≤ d)  {k2 : Nat → Int32 → jM → jO Unit} (hk2 : ∀ (w0 : Nat) (w1 : Int32) (M : jM) (b : Unit × jM), k2 w0 w1 M = some b → V G m_X12_partAtom d 2 [(0, .ref w0), (1, .int w1)] [] M (jQb cU b)) {v0 : Nat} {v1 : Int32} {M : jM} {b : Unit × jM} (h : b_X12_partAtom_2  k2 v0 v1 M = some b) : V G m_X12_partAtom d 2 [(0, .ref v0), (1, .int v1)] [] M (jQb cU b) := by
  unfold b_X12_partAtom_2 at h
  refine v_iload_n dX12_partAtom_2 rfl 1 rfl ?_
  refine v_aload_n dX12_partAtom_3 rfl 0 rfl ?_
  refine x_gI dX12_partAtom_4 kf_X12_169 rfl h (fun x1 h => ?_)
  refine x_ic_ge (tgt := 105) dX12_partAtom_7 (by decide) h (fun h => ?_) (fun h => ?_)
  · exact x_vret dX12_partAtom_105 rfl h
  · refine v_iconst dX12_partAtom_10 ic_0 ?_
    refine v_istore_n (ls2 := [(2, .int (nI 0)), (0, .ref v0), (1, .int v1)]) dX12_partAtom_11 rfl (by decide) rfl ?_
    exact V.pick [1, 2, 0] rfl (t_X12_partAtom_12 hd_ hk2 _ _ _ _ _ _ h)
theorem t_X12_partAtom_2 {G : jG} {d : Nat} (hd_ : 2 ≤ d)  : ∀ (n : Nat) (v0 : Nat) (v1 : Int32) (M : jM) (b : Unit × jM), l_X12_partAtom_2  n v0 v1 M = some b → V G m_X12_partAtom d 2 [(0, .ref v0), (1, .int v1)] [] M (jQb cU b) := by
  intro n
  induction n with
  | zero => intro v0 v1 M b h; exact nomatch (show (none : jO Unit) = some b from h)
  | succ n ih => intro v0 v1 M b h; exact tb_X12_partAtom_2 hd_  ih h
def f_X12_partAtom (v0 : Nat) (M : jM) : jO Unit :=
  l_X12_partAtom_2 jF0 v0 (nI 0) M
theorem s_X12_partAtom {G : jG} {d : Nat} (hd_ : 2 ≤ d) {v0 : Nat} {M : jM} {b : Unit × jM} (h : f_X12_partAtom  v0 M = some b) : V G m_X12_partAtom d 0 [(0, .ref v0)] [] M (jQb cU b) := by
  unfold f_X12_partAtom at h
  refine v_iconst dX12_partAtom_0 ic_0 ?_
  refine v_istore_n (ls2 := [(1, .int (nI 0)), (0, .ref v0)]) dX12_partAtom_1 rfl (by decide) rfl ?_
  exact V.pick [1, 0] rfl (t_X12_partAtom_2 hd_ _ _ _ _ _ h)
def b_X12_winning_9 (k2 : Nat → Int32 → Int32 → jM → jO Int32) (k9 : Nat → Int32 → Int32 → Int32 → jM → jO Int32) (v0 : Nat) (v1 : Int32) (v2 : Int32) (v3 : Int32) (M : jM) : jO Int32 :=
  jb2 (jiv 11 M v0 (f_X12_manyOf v0 v2 M)) fun x2 M1 =>
  if x2 ≤ v3 then
    k2 v0 v1 (v2 + (nI 1)) M1
  else
    jb2 (jiv 11 M1 v0 (f_X12_answerTo v0 v2 v3 (v1 - (nI 1)) M1)) fun x4 M3 =>
    if 0 ≤ x4 then
      k9 v0 v1 v2 (v3 + (nI 1)) M3
    else
      rt (((nI 10) * v2) + v3) M3
def l_X12_winning_9 (k2 : Nat → Int32 → Int32 → jM → jO Int32) : Nat → Nat → Int32 → Int32 → Int32 → jM → jO Int32
  | 0 => fun _ _ _ _ _ => none
  | n + 1 => b_X12_winning_9 k2 (l_X12_winning_9 k2 n)
theorem tb_X12_winning_9 {G : jG} {d : Nat} (hd_ : 8 ≤ d) {k2 : Nat → Int32 → Int32 → jM → jO Int32} (hk2 : ∀ (w0 : Nat) (w1 : Int32) (w2 : Int32) (M : jM) (b : Int32 × jM), k2 w0 w1 w2 M = some b → V G m_X12_winning d 2 [(0, .ref w0), (1, .int w1), (2, .int w2)] [] M (jQb cI b)) {k9 : Nat → Int32 → Int32 → Int32 → jM → jO Int32} (hk9 : ∀ (w0 : Nat) (w1 : Int32) (w2 : Int32) (w3 : Int32) (M : jM) (b : Int32 × jM), k9 w0 w1 w2 w3 M = some b → V G m_X12_winning d 9 [(0, .ref w0), (1, .int w1), (2, .int w2), (3, .int w3)] [] M (jQb cI b)) {v0 : Nat} {v1 : Int32} {v2 : Int32} {v3 : Int32} {M : jM} {b : Int32 × jM} (h : b_X12_winning_9 k2 k9 v0 v1 v2 v3 M = some b) : V G m_X12_winning d 9 [(0, .ref v0), (1, .int v1), (2, .int v2), (3, .int v3)] [] M (jQb cI b) := by
  unfold b_X12_winning_9 at h
  refine v_iload_n dX12_winning_9 rfl 3 rfl ?_
  refine v_aload_n dX12_winning_10 rfl 0 rfl ?_
  refine v_iload_n dX12_winning_11 rfl 2 rfl ?_
  refine x_inv (cv := cI) (As := [.int v2]) (rest := [.int v3]) (ls2 := [(0, .ref v0), (1, .int v2)]) (ci := 11) (by omega) dX12_winning_12 ke_X12_manyOf kv_X12_182 rfl rfl (by decide) (Nat.le_of_ble_eq_true rfl) rfl rfl rfl rfl h (fun _ hq => s_X12_manyOf (by omega) hq) (fun x2 M1 h => ?_)
  refine x_ic_ge (tgt := 43) dX12_winning_15 (by decide) h (fun h => ?_) (fun h => ?_)
  · refine v_iincC (ls2 := [(2, .int (v2 + (nI 1))), (0, .ref v0), (1, .int v1), (3, .int v3)]) dX12_winning_43 ic_1 2 rfl (by decide) rfl ?_
    refine v_goto (tgt := 2) dX12_winning_46 (by decide) ?_
    exact V.pick [1, 2, 0] rfl (hk2 _ _ _ _ _ h)
  · refine v_aload_n dX12_winning_18 rfl 0 rfl ?_
    refine v_iload_n dX12_winning_19 rfl 2 rfl ?_
    refine v_iload_n dX12_winning_20 rfl 3 rfl ?_
    refine v_iload_n dX12_winning_21 rfl 1 rfl ?_
    refine v_iconst dX12_winning_22 ic_1 ?_
    refine v_isub dX12_winning_23 ?_
    refine x_inv (cv := cI) (As := [.int v2, .int v3, .int (v1 - (nI 1))]) (rest := []) (ls2 := [(0, .ref v0), (1, .int v2), (2, .int v3), (3, .int (v1 - (nI 1)))]) (ci := 11) (by omega) dX12_winning_24 ke_X12_answerTo kv_X12_228 rfl rfl (by decide) (Nat.le_of_ble_eq_true rfl) rfl rfl rfl rfl h (fun _ hq => s_X12_answerTo (by omega) hq) (fun x4 M3 h => ?_)
    refine x_if_ge (tgt := 37) dX12_winning_27 (by decide) h (fun h => ?_) (fun h => ?_)
    · refine v_iincC (ls2 := [(3, .int (v3 + (nI 1))), (0, .ref v0), (1, .int v1), (2, .int v2)]) dX12_winning_37 ic_1 3 rfl (by decide) rfl ?_
      refine v_goto (tgt := 9) dX12_winning_40 (by decide) ?_
      exact V.pick [1, 2, 3, 0] rfl (hk9 _ _ _ _ _ _ h)
    · refine v_bipush dX12_winning_30 bp_10 ?_
      refine v_iload_n dX12_winning_32 rfl 2 rfl ?_
      refine v_imul dX12_winning_33 ?_
      refine v_iload_n dX12_winning_34 rfl 3 rfl ?_
      refine v_iadd dX12_winning_35 ?_
      exact x_iret dX12_winning_36 rfl h
theorem t_X12_winning_9 {G : jG} {d : Nat} (hd_ : 8 ≤ d) {k2 : Nat → Int32 → Int32 → jM → jO Int32} (hk2 : ∀ (w0 : Nat) (w1 : Int32) (w2 : Int32) (M : jM) (b : Int32 × jM), k2 w0 w1 w2 M = some b → V G m_X12_winning d 2 [(0, .ref w0), (1, .int w1), (2, .int w2)] [] M (jQb cI b)) : ∀ (n : Nat) (v0 : Nat) (v1 : Int32) (v2 : Int32) (v3 : Int32) (M : jM) (b : Int32 × jM), l_X12_winning_9 k2 n v0 v1 v2 v3 M = some b → V G m_X12_winning d 9 [(0, .ref v0), (1, .int v1), (2, .int v2), (3, .int v3)] [] M (jQb cI b) := by
  intro n
  induction n with
  | zero => intro v0 v1 v2 v3 M b h; exact nomatch (show (none : jO Int32) = some b from h)
  | succ n ih => intro v0 v1 v2 v3 M b h; exact tb_X12_winning_9 hd_ hk2 ih h
def b_X12_winning_2  (k2 : Nat → Int32 → Int32 → jM → jO Int32) (v0 : Nat) (v1 : Int32) (v2 : Int32) (M : jM) : jO Int32 :=
  if (nI 2) ≤ v2 then
    rt (-1 : Int32) M
  else
    l_X12_winning_9 k2 jF0 v0 v1 v2 (nI 0) M
def l_X12_winning_2  : Nat → Nat → Int32 → Int32 → jM → jO Int32
  | 0 => fun _ _ _ _ => none
  | n + 1 => b_X12_winning_2  (l_X12_winning_2  n)
theorem tb_X12_winning_2 {G : jG} {d : Nat} (hd_ : 8 ≤ d)  {k2 : Nat → Int32 → Int32 → jM → jO Int32} (hk2 : ∀ (w0 : Nat) (w1 : Int32) (w2 : Int32) (M : jM) (b : Int32 × jM), k2 w0 w1 w2 M = some b → V G m_X12_winning d 2 [(0, .ref w0), (1, .int w1), (2, .int w2)] [] M (jQb cI b)) {v0 : Nat} {v1 : Int32} {v2 : Int32} {M : jM} {b : Int32 × jM} (h : b_X12_winning_2  k2 v0 v1 v2 M = some b) : V G m_X12_winning d 2 [(0, .ref v0), (1, .int v1), (2, .int v2)] [] M (jQb cI b) := by
  unfold b_X12_winning_2 at h
  refine v_iload_n dX12_winning_2 rfl 2 rfl ?_
  refine v_iconst dX12_winning_3 ic_2 ?_
  refine x_ic_ge (tgt := 49) dX12_winning_4 (by decide) h (fun h => ?_) (fun h => ?_)
  · refine v_iconst dX12_winning_49 ic_m1 ?_
    exact x_iret dX12_winning_50 rfl h
  · refine v_iconst dX12_winning_7 ic_0 ?_
    refine v_istore_n (ls2 := [(3, .int (nI 0)), (0, .ref v0), (1, .int v1), (2, .int v2)]) dX12_winning_8 rfl (by decide) rfl ?_
    exact V.pick [1, 2, 3, 0] rfl (t_X12_winning_9 hd_ hk2 _ _ _ _ _ _ _ h)
theorem t_X12_winning_2 {G : jG} {d : Nat} (hd_ : 8 ≤ d)  : ∀ (n : Nat) (v0 : Nat) (v1 : Int32) (v2 : Int32) (M : jM) (b : Int32 × jM), l_X12_winning_2  n v0 v1 v2 M = some b → V G m_X12_winning d 2 [(0, .ref v0), (1, .int v1), (2, .int v2)] [] M (jQb cI b) := by
  intro n
  induction n with
  | zero => intro v0 v1 v2 M b h; exact nomatch (show (none : jO Int32) = some b from h)
  | succ n ih => intro v0 v1 v2 M b h; exact tb_X12_winning_2 hd_  ih h
def f_X12_winning (v0 : Nat) (v1 : Int32) (M : jM) : jO Int32 :=
  l_X12_winning_2 jF0 v0 v1 (nI 0) M
theorem s_X12_winning {G : jG} {d : Nat} (hd_ : 8 ≤ d) {v0 : Nat} {v1 : Int32} {M : jM} {b : Int32 × jM} (h : f_X12_winning  v0 v1 M = some b) : V G m_X12_winning d 0 [(0, .ref v0), (1, .int v1)] [] M (jQb cI b) := by
  unfold f_X12_winning at h
  refine v_iconst dX12_winning_0 ic_0 ?_
  refine v_istore_n (ls2 := [(2, .int (nI 0)), (0, .ref v0), (1, .int v1)]) dX12_winning_1 rfl (by decide) rfl ?_
  exact V.pick [1, 2, 0] rfl (t_X12_winning_2 hd_ _ _ _ _ _ _ h)
def b_X12_part1_29  (k29 : Nat → Int32 → Int32 → Int32 → Int32 → jM → jO Unit) (v0 : Nat) (v1 : Int32) (v2 : Int32) (v3 : Int32) (v4 : Int32) (M : jM) : jO Unit :=
  (gR 11 M v0 0).bind fun r1 =>
  (gI 11 M v0 6).bind fun x2 =>
  (ldI M r1 x2).bind fun x3 =>
  if x3 ≤ v4 then
    jb2 (jiv 11 M v0 (f_X12_closeParts v0 v2 v3 M)) fun _ M4 =>
    jb2 (jiv 11 M4 v0 (f_X12_endPick v0 v1 M4)) fun _ M5 =>
    rt () M5
  else
    (gI 11 M v0 23).bind fun x6 =>
    (rm v1 (nI 10)).bind fun z7 =>
    jb2 (jiv 11 M v0 (f_X12_add v0 z7 v4 M)) fun _ M8 =>
    jb2 (jiv 11 M8 v0 (f_X12_partAtom v0 M8)) fun _ M9 =>
    (gI 11 M9 v0 7).bind fun x10 =>
    (pI 11 M9 v0 7 (x10 - (nI 1))).bind fun M11 =>
    jb2 (jiv 11 M11 v0 (f_X12_keepUnlike v0 (v2 + (nI 1)) x6 v3 M11)) fun x13 M12 =>
    k29 v0 v1 v2 x13 (v4 + (nI 1)) M12
def l_X12_part1_29  : Nat → Nat → Int32 → Int32 → Int32 → Int32 → jM → jO Unit
  | 0 => fun _ _ _ _ _ _ => none
  | n + 1 => b_X12_part1_29  (l_X12_part1_29  n)
theorem tb_X12_part1_29 {G : jG} {d : Nat} (hd_ : 9 ≤ d)  {k29 : Nat → Int32 → Int32 → Int32 → Int32 → jM → jO Unit} (hk29 : ∀ (w0 : Nat) (w1 : Int32) (w2 : Int32) (w3 : Int32) (w4 : Int32) (M : jM) (b : Unit × jM), k29 w0 w1 w2 w3 w4 M = some b → V G m_X12_part1 d 29 [(0, .ref w0), (1, .int w1), (2, .int w2), (3, .int w3), (4, .int w4)] [] M (jQb cU b)) {v0 : Nat} {v1 : Int32} {v2 : Int32} {v3 : Int32} {v4 : Int32} {M : jM} {b : Unit × jM} (h : b_X12_part1_29  k29 v0 v1 v2 v3 v4 M = some b) : V G m_X12_part1 d 29 [(0, .ref v0), (1, .int v1), (2, .int v2), (3, .int v3), (4, .int v4)] [] M (jQb cU b) := by
  unfold b_X12_part1_29 at h
  refine v_iload dX12_part1_29 4 rfl ?_
  refine v_aload_n dX12_part1_31 rfl 0 rfl ?_
  refine x_gR dX12_part1_32 kf_X12_7 rfl h (fun r1 h => ?_)
  refine v_aload_n dX12_part1_35 rfl 0 rfl ?_
  refine x_gI dX12_part1_36 kf_X12_166 rfl h (fun x2 h => ?_)
  refine x_ldI dX12_part1_39 h (fun x3 h => ?_)
  refine x_ic_ge (tgt := 90) dX12_part1_40 (by decide) h (fun h => ?_) (fun h => ?_)
  · refine v_aload_n dX12_part1_90 rfl 0 rfl ?_
    refine v_iload_n dX12_part1_91 rfl 2 rfl ?_
    refine v_iload_n dX12_part1_92 rfl 3 rfl ?_
    refine x_inv (cv := cU) (As := [.int v2, .int v3]) (rest := []) (ls2 := [(0, .ref v0), (1, .int v2), (2, .int v3)]) (ci := 11) (by omega) dX12_part1_93 ke_X12_closeParts kv_X12_365 rfl rfl (by decide) (Nat.le_of_ble_eq_true rfl) rfl rfl rfl rfl h (fun _ hq => s_X12_closeParts (by omega) hq) (fun _ M4 h => ?_)
    refine v_aload_n dX12_part1_96 rfl 0 rfl ?_
    refine v_iload_n dX12_part1_97 rfl 1 rfl ?_
    refine x_inv (cv := cU) (As := [.int v1]) (rest := []) (ls2 := [(0, .ref v0), (1, .int v1)]) (ci := 11) (by omega) dX12_part1_98 ke_X12_endPick kv_X12_368 rfl rfl (by decide) (Nat.le_of_ble_eq_true rfl) rfl rfl rfl rfl h (fun _ hq => s_X12_endPick (by omega) hq) (fun _ M5 h => ?_)
    exact x_vret dX12_part1_101 rfl h
  · refine v_aload_n dX12_part1_43 rfl 0 rfl ?_
    refine x_gI dX12_part1_44 kf_X12_234 rfl h (fun x6 h => ?_)
    refine v_istore (ls2 := [(5, .int x6), (0, .ref v0), (1, .int v1), (2, .int v2), (3, .int v3), (4, .int v4)]) dX12_part1_47 (by decide) rfl ?_
    refine v_aload_n dX12_part1_49 rfl 1 rfl ?_
    refine v_iload_n dX12_part1_50 rfl 2 rfl ?_
    refine v_bipush dX12_part1_51 bp_10 ?_
    refine x_rm dX12_part1_53 h (fun z7 h => ?_)
    refine v_iload dX12_part1_54 5 rfl ?_
    refine x_inv (cv := cU) (As := [.int z7, .int v4]) (rest := []) (ls2 := [(0, .ref v0), (1, .int z7), (2, .int v4)]) (ci := 11) (by omega) dX12_part1_56 ke_X12_add kv_X12_175 rfl rfl (by decide) (Nat.le_of_ble_eq_true rfl) rfl rfl rfl rfl h (fun _ hq => s_X12_add (by omega) hq) (fun _ M8 h => ?_)
    refine v_aload_n dX12_part1_59 rfl 1 rfl ?_
    refine x_inv (cv := cU) (As := []) (rest := []) (ls2 := [(0, .ref v0)]) (ci := 11) (by omega) dX12_part1_60 ke_X12_partAtom kv_X12_353 rfl rfl (by decide) (Nat.le_of_ble_eq_true rfl) rfl rfl rfl rfl h (fun _ hq => s_X12_partAtom (by omega) hq) (fun _ M9 h => ?_)
    refine v_aload_n dX12_part1_63 rfl 1 rfl ?_
    refine v_dup dX12_part1_64 rfl ?_
    refine x_gI dX12_part1_65 kf_X12_169 rfl h (fun x10 h => ?_)
    refine v_iconst dX12_part1_68 ic_1 ?_
    refine v_isub dX12_part1_69 ?_
    refine x_pI dX12_part1_70 kf_X12_169 rfl (fun q => Bool.noConfusion q) h (fun M11 h => ?_)
    refine v_aload_n dX12_part1_73 rfl 1 rfl ?_
    refine v_iload_n dX12_part1_74 rfl 3 rfl ?_
    refine v_iconst dX12_part1_75 ic_1 ?_
    refine v_iadd dX12_part1_76 ?_
    refine v_iload dX12_part1_77 0 rfl ?_
    refine v_iload_n dX12_part1_79 rfl 4 rfl ?_
    refine x_inv (cv := cI) (As := [.int (v2 + (nI 1)), .int x6, .int v3]) (rest := []) (ls2 := [(0, .ref v0), (1, .int (v2 + (nI 1))), (2, .int x6), (3, .int v3)]) (ci := 11) (by omega) dX12_part1_80 ke_X12_keepUnlike kv_X12_362 rfl rfl (by decide) (Nat.le_of_ble_eq_true rfl) rfl rfl rfl rfl h (fun _ hq => s_X12_keepUnlike (by omega) hq) (fun x13 M12 h => ?_)
    refine v_istore_n (ls2 := [(3, .int x13), (5, .int x6), (0, .ref v0), (1, .int v1), (2, .int v2), (4, .int v4)]) dX12_part1_83 rfl (by decide) rfl ?_
    refine v_iincC (ls2 := [(4, .int (v4 + (nI 1))), (3, .int x13), (5, .int x6), (0, .ref v0), (1, .int v1), (2, .int v2)]) dX12_part1_84 ic_1 5 rfl (by decide) rfl ?_
    refine v_goto (tgt := 29) dX12_part1_87 (by decide) ?_
    exact V.pick [3, 4, 5, 1, 0] rfl (hk29 _ _ _ _ _ _ _ h)
theorem t_X12_part1_29 {G : jG} {d : Nat} (hd_ : 9 ≤ d)  : ∀ (n : Nat) (v0 : Nat) (v1 : Int32) (v2 : Int32) (v3 : Int32) (v4 : Int32) (M : jM) (b : Unit × jM), l_X12_part1_29  n v0 v1 v2 v3 v4 M = some b → V G m_X12_part1 d 29 [(0, .ref v0), (1, .int v1), (2, .int v2), (3, .int v3), (4, .int v4)] [] M (jQb cU b) := by
  intro n
  induction n with
  | zero => intro v0 v1 v2 v3 v4 M b h; exact nomatch (show (none : jO Unit) = some b from h)
  | succ n ih => intro v0 v1 v2 v3 v4 M b h; exact tb_X12_part1_29 hd_  ih h
def f_X12_part1 (v0 : Nat) (M : jM) : jO Unit :=
  jb2 (jiv 11 M v0 (f_X12_areAlike v0 M)) fun x2 M1 =>
  if x2 = 0 then
    jb2 (jiv 11 M1 v0 (f_X12_partAtom v0 M1)) fun _ M3 =>
    rt () M3
  else
    jb2 (jiv 11 M1 v0 (f_X12_winning v0 (nI 1) M1)) fun x5 M4 =>
    jb2 (jiv 11 M4 v0 (f_X12_beginPick v0 x5 M4)) fun x7 M6 =>
    l_X12_part1_29 jF0 v0 x5 x7 (nI 0) (nI 0) M6
theorem s_X12_part1 {G : jG} {d : Nat} (hd_ : 9 ≤ d) {v0 : Nat} {M : jM} {b : Unit × jM} (h : f_X12_part1  v0 M = some b) : V G m_X12_part1 d 0 [(0, .ref v0)] [] M (jQb cU b) := by
  unfold f_X12_part1 at h
  refine v_aload_n dX12_part1_0 rfl 0 rfl ?_
  refine x_inv (cv := cI) (As := []) (rest := []) (ls2 := [(0, .ref v0)]) (ci := 11) (by omega) dX12_part1_1 ke_X12_areAlike kv_X12_178 rfl rfl (by decide) (Nat.le_of_ble_eq_true rfl) rfl rfl rfl rfl h (fun _ hq => s_X12_areAlike (by omega) hq) (fun x2 M1 h => ?_)
  refine x_if_ne (tgt := 12) dX12_part1_4 (by decide) h (fun h => ?_) (fun h => ?_)
  · refine v_aload_n dX12_part1_7 rfl 0 rfl ?_
    refine x_inv (cv := cU) (As := []) (rest := []) (ls2 := [(0, .ref v0)]) (ci := 11) (by omega) dX12_part1_8 ke_X12_partAtom kv_X12_353 rfl rfl (by decide) (Nat.le_of_ble_eq_true rfl) rfl rfl rfl rfl h (fun _ hq => s_X12_partAtom (by omega) hq) (fun _ M3 h => ?_)
    exact x_vret dX12_part1_11 rfl h
  · refine v_aload_n dX12_part1_12 rfl 0 rfl ?_
    refine v_iconst dX12_part1_13 ic_1 ?_
    refine x_inv (cv := cI) (As := [.int (nI 1)]) (rest := []) (ls2 := [(0, .ref v0), (1, .int (nI 1))]) (ci := 11) (by omega) dX12_part1_14 ke_X12_winning kv_X12_356 rfl rfl (by decide) (Nat.le_of_ble_eq_true rfl) rfl rfl rfl rfl h (fun _ hq => s_X12_winning (by omega) hq) (fun x5 M4 h => ?_)
    refine v_istore_n (ls2 := [(1, .int x5), (0, .ref v0)]) dX12_part1_17 rfl (by decide) rfl ?_
    refine v_aload_n dX12_part1_18 rfl 1 rfl ?_
    refine v_iload_n dX12_part1_19 rfl 0 rfl ?_
    refine x_inv (cv := cI) (As := [.int x5]) (rest := []) (ls2 := [(0, .ref v0), (1, .int x5)]) (ci := 11) (by omega) dX12_part1_20 ke_X12_beginPick kv_X12_359 rfl rfl (by decide) (Nat.le_of_ble_eq_true rfl) rfl rfl rfl rfl h (fun _ hq => s_X12_beginPick (by omega) hq) (fun x7 M6 h => ?_)
    refine v_istore_n (ls2 := [(2, .int x7), (1, .int x5), (0, .ref v0)]) dX12_part1_23 rfl (by decide) rfl ?_
    refine v_iconst dX12_part1_24 ic_0 ?_
    refine v_istore_n (ls2 := [(3, .int (nI 0)), (2, .int x7), (1, .int x5), (0, .ref v0)]) dX12_part1_25 rfl (by decide) rfl ?_
    refine v_iconst dX12_part1_26 ic_0 ?_
    refine v_istore (ls2 := [(4, .int (nI 0)), (3, .int (nI 0)), (2, .int x7), (1, .int x5), (0, .ref v0)]) dX12_part1_27 (by decide) rfl ?_
    exact V.pick [4, 3, 2, 1, 0] rfl (t_X12_part1_29 hd_ _ _ _ _ _ _ _ _ h)
def b_X12_part2_34  (k34 : Nat → Int32 → Int32 → Int32 → Int32 → jM → jO Unit) (v0 : Nat) (v2 : Int32) (v3 : Int32) (v4 : Int32) (v5 : Int32) (M : jM) : jO Unit :=
  (gR 11 M v0 0).bind fun r1 =>
  (gI 11 M v0 6).bind fun x2 =>
  (ldI M r1 x2).bind fun x3 =>
  if x3 ≤ v5 then
    jb2 (jiv 11 M v0 (f_X12_closeParts v0 v3 v4 M)) fun _ M4 =>
    jb2 (jiv 11 M4 v0 (f_X12_endPick v0 v2 M4)) fun _ M5 =>
    rt () M5
  else
    (gI 11 M v0 23).bind fun x6 =>
    (rm v2 (nI 10)).bind fun z7 =>
    jb2 (jiv 11 M v0 (f_X12_add v0 z7 v5 M)) fun _ M8 =>
    jb2 (jiv 11 M8 v0 (f_X12_part1 v0 M8)) fun _ M9 =>
    (gI 11 M9 v0 7).bind fun x10 =>
    (pI 11 M9 v0 7 (x10 - (nI 1))).bind fun M11 =>
    jb2 (jiv 11 M11 v0 (f_X12_keepUnlike v0 (v3 + (nI 1)) x6 v4 M11)) fun x13 M12 =>
    k34 v0 v2 v3 x13 (v5 + (nI 1)) M12
def l_X12_part2_34  : Nat → Nat → Int32 → Int32 → Int32 → Int32 → jM → jO Unit
  | 0 => fun _ _ _ _ _ _ => none
  | n + 1 => b_X12_part2_34  (l_X12_part2_34  n)
theorem tb_X12_part2_34 {G : jG} {d : Nat} (hd_ : 10 ≤ d)  {k34 : Nat → Int32 → Int32 → Int32 → Int32 → jM → jO Unit} (hk34 : ∀ (w0 : Nat) (w2 : Int32) (w3 : Int32) (w4 : Int32) (w5 : Int32) (M : jM) (b : Unit × jM), k34 w0 w2 w3 w4 w5 M = some b → V G m_X12_part2 d 34 [(0, .ref w0), (2, .int w2), (3, .int w3), (4, .int w4), (5, .int w5)] [] M (jQb cU b)) {v0 : Nat} {v2 : Int32} {v3 : Int32} {v4 : Int32} {v5 : Int32} {M : jM} {b : Unit × jM} (h : b_X12_part2_34  k34 v0 v2 v3 v4 v5 M = some b) : V G m_X12_part2 d 34 [(0, .ref v0), (2, .int v2), (3, .int v3), (4, .int v4), (5, .int v5)] [] M (jQb cU b) := by
  unfold b_X12_part2_34 at h
  refine v_iload dX12_part2_34 4 rfl ?_
  refine v_aload_n dX12_part2_36 rfl 0 rfl ?_
  refine x_gR dX12_part2_37 kf_X12_7 rfl h (fun r1 h => ?_)
  refine v_aload_n dX12_part2_40 rfl 0 rfl ?_
  refine x_gI dX12_part2_41 kf_X12_166 rfl h (fun x2 h => ?_)
  refine x_ldI dX12_part2_44 h (fun x3 h => ?_)
  refine x_ic_ge (tgt := 97) dX12_part2_45 (by decide) h (fun h => ?_) (fun h => ?_)
  · refine v_aload_n dX12_part2_97 rfl 0 rfl ?_
    refine v_iload_n dX12_part2_98 rfl 2 rfl ?_
    refine v_iload dX12_part2_99 3 rfl ?_
    refine x_inv (cv := cU) (As := [.int v3, .int v4]) (rest := []) (ls2 := [(0, .ref v0), (1, .int v3), (2, .int v4)]) (ci := 11) (by omega) dX12_part2_101 ke_X12_closeParts kv_X12_365 rfl rfl (by decide) (Nat.le_of_ble_eq_true rfl) rfl rfl rfl rfl h (fun _ hq => s_X12_closeParts (by omega) hq) (fun _ M4 h => ?_)
    refine v_aload_n dX12_part2_104 rfl 0 rfl ?_
    refine v_iload_n dX12_part2_105 rfl 1 rfl ?_
    refine x_inv (cv := cU) (As := [.int v2]) (rest := []) (ls2 := [(0, .ref v0), (1, .int v2)]) (ci := 11) (by omega) dX12_part2_106 ke_X12_endPick kv_X12_368 rfl rfl (by decide) (Nat.le_of_ble_eq_true rfl) rfl rfl rfl rfl h (fun _ hq => s_X12_endPick (by omega) hq) (fun _ M5 h => ?_)
    exact x_vret dX12_part2_109 rfl h
  · refine v_aload_n dX12_part2_48 rfl 0 rfl ?_
    refine x_gI dX12_part2_49 kf_X12_234 rfl h (fun x6 h => ?_)
    refine v_istore (ls2 := [(6, .int x6), (0, .ref v0), (2, .int v2), (3, .int v3), (4, .int v4), (5, .int v5)]) dX12_part2_52 (by decide) rfl ?_
    refine v_aload_n dX12_part2_54 rfl 1 rfl ?_
    refine v_iload_n dX12_part2_55 rfl 2 rfl ?_
    refine v_bipush dX12_part2_56 bp_10 ?_
    refine x_rm dX12_part2_58 h (fun z7 h => ?_)
    refine v_iload dX12_part2_59 5 rfl ?_
    refine x_inv (cv := cU) (As := [.int z7, .int v5]) (rest := []) (ls2 := [(0, .ref v0), (1, .int z7), (2, .int v5)]) (ci := 11) (by omega) dX12_part2_61 ke_X12_add kv_X12_175 rfl rfl (by decide) (Nat.le_of_ble_eq_true rfl) rfl rfl rfl rfl h (fun _ hq => s_X12_add (by omega) hq) (fun _ M8 h => ?_)
    refine v_aload_n dX12_part2_64 rfl 1 rfl ?_
    refine x_inv (cv := cU) (As := []) (rest := []) (ls2 := [(0, .ref v0)]) (ci := 11) (by omega) dX12_part2_65 ke_X12_part1 kv_X12_371 rfl rfl (by decide) (Nat.le_of_ble_eq_true rfl) rfl rfl rfl rfl h (fun _ hq => s_X12_part1 (by omega) hq) (fun _ M9 h => ?_)
    refine v_aload_n dX12_part2_68 rfl 1 rfl ?_
    refine v_dup dX12_part2_69 rfl ?_
    refine x_gI dX12_part2_70 kf_X12_169 rfl h (fun x10 h => ?_)
    refine v_iconst dX12_part2_73 ic_1 ?_
    refine v_isub dX12_part2_74 ?_
    refine x_pI dX12_part2_75 kf_X12_169 rfl (fun q => Bool.noConfusion q) h (fun M11 h => ?_)
    refine v_aload_n dX12_part2_78 rfl 1 rfl ?_
    refine v_iload_n dX12_part2_79 rfl 3 rfl ?_
    refine v_iconst dX12_part2_80 ic_1 ?_
    refine v_iadd dX12_part2_81 ?_
    refine v_iload dX12_part2_82 0 rfl ?_
    refine v_iload dX12_part2_84 4 rfl ?_
    refine x_inv (cv := cI) (As := [.int (v3 + (nI 1)), .int x6, .int v4]) (rest := []) (ls2 := [(0, .ref v0), (1, .int (v3 + (nI 1))), (2, .int x6), (3, .int v4)]) (ci := 11) (by omega) dX12_part2_86 ke_X12_keepUnlike kv_X12_362 rfl rfl (by decide) (Nat.le_of_ble_eq_true rfl) rfl rfl rfl rfl h (fun _ hq => s_X12_keepUnlike (by omega) hq) (fun x13 M12 h => ?_)
    refine v_istore (ls2 := [(4, .int x13), (6, .int x6), (0, .ref v0), (2, .int v2), (3, .int v3), (5, .int v5)]) dX12_part2_89 (by decide) rfl ?_
    refine v_iincC (ls2 := [(5, .int (v5 + (nI 1))), (4, .int x13), (6, .int x6), (0, .ref v0), (2, .int v2), (3, .int v3)]) dX12_part2_91 ic_1 5 rfl (by decide) rfl ?_
    refine v_goto (tgt := 34) dX12_part2_94 (by decide) ?_
    exact V.pick [3, 4, 5, 1, 0] rfl (hk34 _ _ _ _ _ _ _ h)
theorem t_X12_part2_34 {G : jG} {d : Nat} (hd_ : 10 ≤ d)  : ∀ (n : Nat) (v0 : Nat) (v2 : Int32) (v3 : Int32) (v4 : Int32) (v5 : Int32) (M : jM) (b : Unit × jM), l_X12_part2_34  n v0 v2 v3 v4 v5 M = some b → V G m_X12_part2 d 34 [(0, .ref v0), (2, .int v2), (3, .int v3), (4, .int v4), (5, .int v5)] [] M (jQb cU b) := by
  intro n
  induction n with
  | zero => intro v0 v2 v3 v4 v5 M b h; exact nomatch (show (none : jO Unit) = some b from h)
  | succ n ih => intro v0 v2 v3 v4 v5 M b h; exact tb_X12_part2_34 hd_  ih h
def f_X12_part2 (v0 : Nat) (M : jM) : jO Unit :=
  jb2 (jiv 11 M v0 (f_X12_least v0 (nI 2) M)) fun x2 M1 =>
  if (nI 2) ≤ x2 then
    jb2 (jiv 11 M1 v0 (f_X12_winning v0 (nI 2) M1)) fun x4 M3 =>
    jb2 (jiv 11 M3 v0 (f_X12_beginPick v0 x4 M3)) fun x6 M5 =>
    l_X12_part2_34 jF0 v0 x4 x6 (nI 0) (nI 0) M5
  else
    jb2 (jiv 11 M1 v0 (f_X12_part1 v0 M1)) fun _ M7 =>
    rt () M7
theorem s_X12_part2 {G : jG} {d : Nat} (hd_ : 10 ≤ d) {v0 : Nat} {M : jM} {b : Unit × jM} (h : f_X12_part2  v0 M = some b) : V G m_X12_part2 d 0 [(0, .ref v0)] [] M (jQb cU b) := by
  unfold f_X12_part2 at h
  refine v_aload_n dX12_part2_0 rfl 0 rfl ?_
  refine v_iconst dX12_part2_1 ic_2 ?_
  refine x_inv (cv := cI) (As := [.int (nI 2)]) (rest := []) (ls2 := [(0, .ref v0), (1, .int (nI 2))]) (ci := 11) (by omega) dX12_part2_2 ke_X12_least kv_X12_204 rfl rfl (by decide) (Nat.le_of_ble_eq_true rfl) rfl rfl rfl rfl h (fun _ hq => s_X12_least (by omega) hq) (fun x2 M1 h => ?_)
  refine v_istore_n (ls2 := [(1, .int x2), (0, .ref v0)]) dX12_part2_5 rfl (by decide) rfl ?_
  refine v_iload_n dX12_part2_6 rfl 0 rfl ?_
  refine v_iconst dX12_part2_7 ic_2 ?_
  refine x_ic_ge (tgt := 16) dX12_part2_8 (by decide) h (fun h => ?_) (fun h => ?_)
  · refine v_aload_n dX12_part2_16 rfl 1 rfl ?_
    refine v_iconst dX12_part2_17 ic_2 ?_
    refine x_inv (cv := cI) (As := [.int (nI 2)]) (rest := []) (ls2 := [(0, .ref v0), (1, .int (nI 2))]) (ci := 11) (by omega) dX12_part2_18 ke_X12_winning kv_X12_356 rfl rfl (by decide) (Nat.le_of_ble_eq_true rfl) rfl rfl rfl rfl h (fun _ hq => s_X12_winning (by omega) hq) (fun x4 M3 h => ?_)
    refine v_istore_n (ls2 := [(2, .int x4), (1, .int x2), (0, .ref v0)]) dX12_part2_21 rfl (by decide) rfl ?_
    refine v_aload_n dX12_part2_22 rfl 2 rfl ?_
    refine v_iload_n dX12_part2_23 rfl 0 rfl ?_
    refine x_inv (cv := cI) (As := [.int x4]) (rest := []) (ls2 := [(0, .ref v0), (1, .int x4)]) (ci := 11) (by omega) dX12_part2_24 ke_X12_beginPick kv_X12_359 rfl rfl (by decide) (Nat.le_of_ble_eq_true rfl) rfl rfl rfl rfl h (fun _ hq => s_X12_beginPick (by omega) hq) (fun x6 M5 h => ?_)
    refine v_istore_n (ls2 := [(3, .int x6), (2, .int x4), (1, .int x2), (0, .ref v0)]) dX12_part2_27 rfl (by decide) rfl ?_
    refine v_iconst dX12_part2_28 ic_0 ?_
    refine v_istore (ls2 := [(4, .int (nI 0)), (3, .int x6), (2, .int x4), (1, .int x2), (0, .ref v0)]) dX12_part2_29 (by decide) rfl ?_
    refine v_iconst dX12_part2_31 ic_0 ?_
    refine v_istore (ls2 := [(5, .int (nI 0)), (4, .int (nI 0)), (3, .int x6), (2, .int x4), (1, .int x2), (0, .ref v0)]) dX12_part2_32 (by decide) rfl ?_
    exact V.pick [5, 3, 2, 1, 0] rfl (t_X12_part2_34 hd_ _ _ _ _ _ _ _ _ h)
  · refine v_aload_n dX12_part2_11 rfl 1 rfl ?_
    refine x_inv (cv := cU) (As := []) (rest := []) (ls2 := [(0, .ref v0)]) (ci := 11) (by omega) dX12_part2_12 ke_X12_part1 kv_X12_371 rfl rfl (by decide) (Nat.le_of_ble_eq_true rfl) rfl rfl rfl rfl h (fun _ hq => s_X12_part1 (by omega) hq) (fun _ M7 h => ?_)
    exact x_vret dX12_part2_15 rfl h
def b_X12_part3_34  (k34 : Nat → Int32 → Int32 → Int32 → Int32 → jM → jO Unit) (v0 : Nat) (v2 : Int32) (v3 : Int32) (v4 : Int32) (v5 : Int32) (M : jM) : jO Unit :=
  (gR 11 M v0 0).bind fun r1 =>
  (gI 11 M v0 6).bind fun x2 =>
  (ldI M r1 x2).bind fun x3 =>
  if x3 ≤ v5 then
    jb2 (jiv 11 M v0 (f_X12_closeParts v0 v3 v4 M)) fun _ M4 =>
    jb2 (jiv 11 M4 v0 (f_X12_endPick v0 v2 M4)) fun _ M5 =>
    rt () M5
  else
    (gI 11 M v0 23).bind fun x6 =>
    (rm v2 (nI 10)).bind fun z7 =>
    jb2 (jiv 11 M v0 (f_X12_add v0 z7 v5 M)) fun _ M8 =>
    jb2 (jiv 11 M8 v0 (f_X12_part2 v0 M8)) fun _ M9 =>
    (gI 11 M9 v0 7).bind fun x10 =>
    (pI 11 M9 v0 7 (x10 - (nI 1))).bind fun M11 =>
    jb2 (jiv 11 M11 v0 (f_X12_keepUnlike v0 (v3 + (nI 1)) x6 v4 M11)) fun x13 M12 =>
    k34 v0 v2 v3 x13 (v5 + (nI 1)) M12
def l_X12_part3_34  : Nat → Nat → Int32 → Int32 → Int32 → Int32 → jM → jO Unit
  | 0 => fun _ _ _ _ _ _ => none
  | n + 1 => b_X12_part3_34  (l_X12_part3_34  n)
theorem tb_X12_part3_34 {G : jG} {d : Nat} (hd_ : 11 ≤ d)  {k34 : Nat → Int32 → Int32 → Int32 → Int32 → jM → jO Unit} (hk34 : ∀ (w0 : Nat) (w2 : Int32) (w3 : Int32) (w4 : Int32) (w5 : Int32) (M : jM) (b : Unit × jM), k34 w0 w2 w3 w4 w5 M = some b → V G m_X12_part3 d 34 [(0, .ref w0), (2, .int w2), (3, .int w3), (4, .int w4), (5, .int w5)] [] M (jQb cU b)) {v0 : Nat} {v2 : Int32} {v3 : Int32} {v4 : Int32} {v5 : Int32} {M : jM} {b : Unit × jM} (h : b_X12_part3_34  k34 v0 v2 v3 v4 v5 M = some b) : V G m_X12_part3 d 34 [(0, .ref v0), (2, .int v2), (3, .int v3), (4, .int v4), (5, .int v5)] [] M (jQb cU b) := by
  unfold b_X12_part3_34 at h
  refine v_iload dX12_part3_34 4 rfl ?_
  refine v_aload_n dX12_part3_36 rfl 0 rfl ?_
  refine x_gR dX12_part3_37 kf_X12_7 rfl h (fun r1 h => ?_)
  refine v_aload_n dX12_part3_40 rfl 0 rfl ?_
  refine x_gI dX12_part3_41 kf_X12_166 rfl h (fun x2 h => ?_)
  refine x_ldI dX12_part3_44 h (fun x3 h => ?_)
  refine x_ic_ge (tgt := 97) dX12_part3_45 (by decide) h (fun h => ?_) (fun h => ?_)
  · refine v_aload_n dX12_part3_97 rfl 0 rfl ?_
    refine v_iload_n dX12_part3_98 rfl 2 rfl ?_
    refine v_iload dX12_part3_99 3 rfl ?_
    refine x_inv (cv := cU) (As := [.int v3, .int v4]) (rest := []) (ls2 := [(0, .ref v0), (1, .int v3), (2, .int v4)]) (ci := 11) (by omega) dX12_part3_101 ke_X12_closeParts kv_X12_365 rfl rfl (by decide) (Nat.le_of_ble_eq_true rfl) rfl rfl rfl rfl h (fun _ hq => s_X12_closeParts (by omega) hq) (fun _ M4 h => ?_)
    refine v_aload_n dX12_part3_104 rfl 0 rfl ?_
    refine v_iload_n dX12_part3_105 rfl 1 rfl ?_
    refine x_inv (cv := cU) (As := [.int v2]) (rest := []) (ls2 := [(0, .ref v0), (1, .int v2)]) (ci := 11) (by omega) dX12_part3_106 ke_X12_endPick kv_X12_368 rfl rfl (by decide) (Nat.le_of_ble_eq_true rfl) rfl rfl rfl rfl h (fun _ hq => s_X12_endPick (by omega) hq) (fun _ M5 h => ?_)
    exact x_vret dX12_part3_109 rfl h
  · refine v_aload_n dX12_part3_48 rfl 0 rfl ?_
    refine x_gI dX12_part3_49 kf_X12_234 rfl h (fun x6 h => ?_)
    refine v_istore (ls2 := [(6, .int x6), (0, .ref v0), (2, .int v2), (3, .int v3), (4, .int v4), (5, .int v5)]) dX12_part3_52 (by decide) rfl ?_
    refine v_aload_n dX12_part3_54 rfl 1 rfl ?_
    refine v_iload_n dX12_part3_55 rfl 2 rfl ?_
    refine v_bipush dX12_part3_56 bp_10 ?_
    refine x_rm dX12_part3_58 h (fun z7 h => ?_)
    refine v_iload dX12_part3_59 5 rfl ?_
    refine x_inv (cv := cU) (As := [.int z7, .int v5]) (rest := []) (ls2 := [(0, .ref v0), (1, .int z7), (2, .int v5)]) (ci := 11) (by omega) dX12_part3_61 ke_X12_add kv_X12_175 rfl rfl (by decide) (Nat.le_of_ble_eq_true rfl) rfl rfl rfl rfl h (fun _ hq => s_X12_add (by omega) hq) (fun _ M8 h => ?_)
    refine v_aload_n dX12_part3_64 rfl 1 rfl ?_
    refine x_inv (cv := cU) (As := []) (rest := []) (ls2 := [(0, .ref v0)]) (ci := 11) (by omega) dX12_part3_65 ke_X12_part2 kv_X12_374 rfl rfl (by decide) (Nat.le_of_ble_eq_true rfl) rfl rfl rfl rfl h (fun _ hq => s_X12_part2 (by omega) hq) (fun _ M9 h => ?_)
    refine v_aload_n dX12_part3_68 rfl 1 rfl ?_
    refine v_dup dX12_part3_69 rfl ?_
    refine x_gI dX12_part3_70 kf_X12_169 rfl h (fun x10 h => ?_)
    refine v_iconst dX12_part3_73 ic_1 ?_
    refine v_isub dX12_part3_74 ?_
    refine x_pI dX12_part3_75 kf_X12_169 rfl (fun q => Bool.noConfusion q) h (fun M11 h => ?_)
    refine v_aload_n dX12_part3_78 rfl 1 rfl ?_
    refine v_iload_n dX12_part3_79 rfl 3 rfl ?_
    refine v_iconst dX12_part3_80 ic_1 ?_
    refine v_iadd dX12_part3_81 ?_
    refine v_iload dX12_part3_82 0 rfl ?_
    refine v_iload dX12_part3_84 4 rfl ?_
    refine x_inv (cv := cI) (As := [.int (v3 + (nI 1)), .int x6, .int v4]) (rest := []) (ls2 := [(0, .ref v0), (1, .int (v3 + (nI 1))), (2, .int x6), (3, .int v4)]) (ci := 11) (by omega) dX12_part3_86 ke_X12_keepUnlike kv_X12_362 rfl rfl (by decide) (Nat.le_of_ble_eq_true rfl) rfl rfl rfl rfl h (fun _ hq => s_X12_keepUnlike (by omega) hq) (fun x13 M12 h => ?_)
    refine v_istore (ls2 := [(4, .int x13), (6, .int x6), (0, .ref v0), (2, .int v2), (3, .int v3), (5, .int v5)]) dX12_part3_89 (by decide) rfl ?_
    refine v_iincC (ls2 := [(5, .int (v5 + (nI 1))), (4, .int x13), (6, .int x6), (0, .ref v0), (2, .int v2), (3, .int v3)]) dX12_part3_91 ic_1 5 rfl (by decide) rfl ?_
    refine v_goto (tgt := 34) dX12_part3_94 (by decide) ?_
    exact V.pick [3, 4, 5, 1, 0] rfl (hk34 _ _ _ _ _ _ _ h)
theorem t_X12_part3_34 {G : jG} {d : Nat} (hd_ : 11 ≤ d)  : ∀ (n : Nat) (v0 : Nat) (v2 : Int32) (v3 : Int32) (v4 : Int32) (v5 : Int32) (M : jM) (b : Unit × jM), l_X12_part3_34  n v0 v2 v3 v4 v5 M = some b → V G m_X12_part3 d 34 [(0, .ref v0), (2, .int v2), (3, .int v3), (4, .int v4), (5, .int v5)] [] M (jQb cU b) := by
  intro n
  induction n with
  | zero => intro v0 v2 v3 v4 v5 M b h; exact nomatch (show (none : jO Unit) = some b from h)
  | succ n ih => intro v0 v2 v3 v4 v5 M b h; exact tb_X12_part3_34 hd_  ih h
def f_X12_part3 (v0 : Nat) (M : jM) : jO Unit :=
  jb2 (jiv 11 M v0 (f_X12_least v0 (nI 3) M)) fun x2 M1 =>
  if (nI 3) ≤ x2 then
    jb2 (jiv 11 M1 v0 (f_X12_winning v0 (nI 3) M1)) fun x4 M3 =>
    jb2 (jiv 11 M3 v0 (f_X12_beginPick v0 x4 M3)) fun x6 M5 =>
    l_X12_part3_34 jF0 v0 x4 x6 (nI 0) (nI 0) M5
  else
    jb2 (jiv 11 M1 v0 (f_X12_part2 v0 M1)) fun _ M7 =>
    rt () M7
theorem s_X12_part3 {G : jG} {d : Nat} (hd_ : 11 ≤ d) {v0 : Nat} {M : jM} {b : Unit × jM} (h : f_X12_part3  v0 M = some b) : V G m_X12_part3 d 0 [(0, .ref v0)] [] M (jQb cU b) := by
  unfold f_X12_part3 at h
  refine v_aload_n dX12_part3_0 rfl 0 rfl ?_
  refine v_iconst dX12_part3_1 ic_3 ?_
  refine x_inv (cv := cI) (As := [.int (nI 3)]) (rest := []) (ls2 := [(0, .ref v0), (1, .int (nI 3))]) (ci := 11) (by omega) dX12_part3_2 ke_X12_least kv_X12_204 rfl rfl (by decide) (Nat.le_of_ble_eq_true rfl) rfl rfl rfl rfl h (fun _ hq => s_X12_least (by omega) hq) (fun x2 M1 h => ?_)
  refine v_istore_n (ls2 := [(1, .int x2), (0, .ref v0)]) dX12_part3_5 rfl (by decide) rfl ?_
  refine v_iload_n dX12_part3_6 rfl 0 rfl ?_
  refine v_iconst dX12_part3_7 ic_3 ?_
  refine x_ic_ge (tgt := 16) dX12_part3_8 (by decide) h (fun h => ?_) (fun h => ?_)
  · refine v_aload_n dX12_part3_16 rfl 1 rfl ?_
    refine v_iconst dX12_part3_17 ic_3 ?_
    refine x_inv (cv := cI) (As := [.int (nI 3)]) (rest := []) (ls2 := [(0, .ref v0), (1, .int (nI 3))]) (ci := 11) (by omega) dX12_part3_18 ke_X12_winning kv_X12_356 rfl rfl (by decide) (Nat.le_of_ble_eq_true rfl) rfl rfl rfl rfl h (fun _ hq => s_X12_winning (by omega) hq) (fun x4 M3 h => ?_)
    refine v_istore_n (ls2 := [(2, .int x4), (1, .int x2), (0, .ref v0)]) dX12_part3_21 rfl (by decide) rfl ?_
    refine v_aload_n dX12_part3_22 rfl 2 rfl ?_
    refine v_iload_n dX12_part3_23 rfl 0 rfl ?_
    refine x_inv (cv := cI) (As := [.int x4]) (rest := []) (ls2 := [(0, .ref v0), (1, .int x4)]) (ci := 11) (by omega) dX12_part3_24 ke_X12_beginPick kv_X12_359 rfl rfl (by decide) (Nat.le_of_ble_eq_true rfl) rfl rfl rfl rfl h (fun _ hq => s_X12_beginPick (by omega) hq) (fun x6 M5 h => ?_)
    refine v_istore_n (ls2 := [(3, .int x6), (2, .int x4), (1, .int x2), (0, .ref v0)]) dX12_part3_27 rfl (by decide) rfl ?_
    refine v_iconst dX12_part3_28 ic_0 ?_
    refine v_istore (ls2 := [(4, .int (nI 0)), (3, .int x6), (2, .int x4), (1, .int x2), (0, .ref v0)]) dX12_part3_29 (by decide) rfl ?_
    refine v_iconst dX12_part3_31 ic_0 ?_
    refine v_istore (ls2 := [(5, .int (nI 0)), (4, .int (nI 0)), (3, .int x6), (2, .int x4), (1, .int x2), (0, .ref v0)]) dX12_part3_32 (by decide) rfl ?_
    exact V.pick [5, 3, 2, 1, 0] rfl (t_X12_part3_34 hd_ _ _ _ _ _ _ _ _ h)
  · refine v_aload_n dX12_part3_11 rfl 1 rfl ?_
    refine x_inv (cv := cU) (As := []) (rest := []) (ls2 := [(0, .ref v0)]) (ci := 11) (by omega) dX12_part3_12 ke_X12_part2 kv_X12_374 rfl rfl (by decide) (Nat.le_of_ble_eq_true rfl) rfl rfl rfl rfl h (fun _ hq => s_X12_part2 (by omega) hq) (fun _ M7 h => ?_)
    exact x_vret dX12_part3_15 rfl h
def f_X12_part (v0 : Nat) (v1 : Int32) (v2 : Int32) (M : jM) : jO Int32 :=
  jb2 (jiv 11 M v0 (f_X12_noWorld v0 v1 M)) fun x2 M1 =>
  if x2 = 0 then
    jb2 (jiv 11 M1 v0 (f_X12_noWorld v0 v2 M1)) fun x4 M3 =>
    if x4 = 0 then
      jb2 (jiv 11 M3 v0 (f_X12_begin v0 v1 v2 M3)) fun _ M5 =>
      jb2 (jiv 11 M5 v0 (f_X12_least v0 (nI 3) M5)) fun x7 M6 =>
      if 0 ≤ x7 then
        (gI 11 M6 v0 17).bind fun x8 =>
        if x8 = (nI 20) then
          rt (-4 : Int32) M6
        else
          (pI 11 M6 v0 23 (nI 0)).bind fun M9 =>
          jb2 (jiv 11 M9 v0 (f_X12_part3 v0 M9)) fun _ M10 =>
          jb2 (jiv 11 M10 v0 (f_X12_keep v0 M10)) fun x12 M11 =>
          rt x12 M11
      else
        rt (-9 : Int32) M6
    else
      rt (-1 : Int32) M3
  else
    rt (-1 : Int32) M1
theorem s_X12_part {G : jG} {d : Nat} (hd_ : 12 ≤ d) {v0 : Nat} {v1 : Int32} {v2 : Int32} {M : jM} {b : Int32 × jM} (h : f_X12_part  v0 v1 v2 M = some b) : V G m_X12_part d 0 [(0, .ref v0), (1, .int v1), (2, .int v2)] [] M (jQb cI b) := by
  unfold f_X12_part at h
  refine v_aload_n dX12_part_0 rfl 0 rfl ?_
  refine v_iload_n dX12_part_1 rfl 1 rfl ?_
  refine x_inv (cv := cI) (As := [.int v1]) (rest := []) (ls2 := [(0, .ref v0), (1, .int v1)]) (ci := 11) (by omega) dX12_part_2 ke_X12_noWorld kv_X12_141 rfl rfl (by decide) (Nat.le_of_ble_eq_true rfl) rfl rfl rfl rfl h (fun _ hq => s_X12_noWorld (by omega) hq) (fun x2 M1 h => ?_)
  refine x_if_ne (tgt := 16) dX12_part_5 (by decide) h (fun h => ?_) (fun h => ?_)
  · refine v_aload_n dX12_part_8 rfl 0 rfl ?_
    refine v_iload_n dX12_part_9 rfl 2 rfl ?_
    refine x_inv (cv := cI) (As := [.int v2]) (rest := []) (ls2 := [(0, .ref v0), (1, .int v2)]) (ci := 11) (by omega) dX12_part_10 ke_X12_noWorld kv_X12_141 rfl rfl (by decide) (Nat.le_of_ble_eq_true rfl) rfl rfl rfl rfl h (fun _ hq => s_X12_noWorld (by omega) hq) (fun x4 M3 h => ?_)
    refine x_if_eq (tgt := 18) dX12_part_13 (by decide) h (fun h => ?_) (fun h => ?_)
    · refine v_aload_n dX12_part_18 rfl 0 rfl ?_
      refine v_iload_n dX12_part_19 rfl 1 rfl ?_
      refine v_iload_n dX12_part_20 rfl 2 rfl ?_
      refine x_inv (cv := cU) (As := [.int v1, .int v2]) (rest := []) (ls2 := [(0, .ref v0), (1, .int v1), (2, .int v2)]) (ci := 11) (by omega) dX12_part_21 ke_X12_begin kv_X12_198 rfl rfl (by decide) (Nat.le_of_ble_eq_true rfl) rfl rfl rfl rfl h (fun _ hq => s_X12_begin (by omega) hq) (fun _ M5 h => ?_)
      refine v_aload_n dX12_part_24 rfl 0 rfl ?_
      refine v_iconst dX12_part_25 ic_3 ?_
      refine x_inv (cv := cI) (As := [.int (nI 3)]) (rest := []) (ls2 := [(0, .ref v0), (1, .int (nI 3))]) (ci := 11) (by omega) dX12_part_26 ke_X12_least kv_X12_204 rfl rfl (by decide) (Nat.le_of_ble_eq_true rfl) rfl rfl rfl rfl h (fun _ hq => s_X12_least (by omega) hq) (fun x7 M6 h => ?_)
      refine x_if_ge (tgt := 35) dX12_part_29 (by decide) h (fun h => ?_) (fun h => ?_)
      · refine v_aload_n dX12_part_35 rfl 0 rfl ?_
        refine x_gI dX12_part_36 kf_X12_290 rfl h (fun x8 h => ?_)
        refine v_bipush dX12_part_39 bp_20 ?_
        refine x_ic_ne (tgt := 47) dX12_part_41 (by decide) h (fun h => ?_) (fun h => ?_)
        · refine v_bipush dX12_part_44 bp_m4 ?_
          exact x_iret dX12_part_46 rfl h
        · refine v_aload_n dX12_part_47 rfl 0 rfl ?_
          refine v_iconst dX12_part_48 ic_0 ?_
          refine x_pI dX12_part_49 kf_X12_234 rfl (fun q => Bool.noConfusion q) h (fun M9 h => ?_)
          refine v_aload_n dX12_part_52 rfl 0 rfl ?_
          refine x_inv (cv := cU) (As := []) (rest := []) (ls2 := [(0, .ref v0)]) (ci := 11) (by omega) dX12_part_53 ke_X12_part3 kv_X12_377 rfl rfl (by decide) (Nat.le_of_ble_eq_true rfl) rfl rfl rfl rfl h (fun _ hq => s_X12_part3 (by omega) hq) (fun _ M10 h => ?_)
          refine v_aload_n dX12_part_56 rfl 0 rfl ?_
          refine x_inv (cv := cI) (As := []) (rest := []) (ls2 := [(0, .ref v0)]) (ci := 11) (by omega) dX12_part_57 ke_X12_keep kv_X12_299 rfl rfl (by decide) (Nat.le_of_ble_eq_true rfl) rfl rfl rfl rfl h (fun _ hq => s_X12_keep (by omega) hq) (fun x12 M11 h => ?_)
          exact x_iret dX12_part_60 rfl h
      · refine v_bipush dX12_part_32 bp_m9 ?_
        exact x_iret dX12_part_34 rfl h
    · refine v_iconst dX12_part_16 ic_m1 ?_
      exact x_iret dX12_part_17 rfl h
  · refine v_iconst dX12_part_16 ic_m1 ?_
    exact x_iret dX12_part_17 rfl h
def f_X12_pick (v0 : Nat) (v1 : Int32) (v2 : Int32) (M : jM) : jO Int32 :=
  (gI 11 M v0 10).bind fun x1 =>
  if x1 = (nI 1) then
    jb2 (f_X12_in v1 (nI 0) (nI 1) M) fun x3 M2 =>
    if x3 = 0 then
      rt (-2 : Int32) M2
    else
      (gR 11 M2 v0 0).bind fun r4 =>
      (ldI M2 r4 ((nI 6) + v1)).bind fun x5 =>
      jb2 (f_X12_in v2 (nI 0) (x5 - (nI 1)) M2) fun x7 M6 =>
      if x7 = 0 then
        rt (-2 : Int32) M6
      else
        (pI 11 M6 v0 15 v1).bind fun M8 =>
        (pI 11 M8 v0 16 v2).bind fun M9 =>
        (pI 11 M9 v0 10 (nI 2)).bind fun M10 =>
        rt (nI 1) M10
  else
    rt (-3 : Int32) M
theorem s_X12_pick {G : jG} {d : Nat} (hd_ : 1 ≤ d) {v0 : Nat} {v1 : Int32} {v2 : Int32} {M : jM} {b : Int32 × jM} (h : f_X12_pick  v0 v1 v2 M = some b) : V G m_X12_pick d 0 [(0, .ref v0), (1, .int v1), (2, .int v2)] [] M (jQb cI b) := by
  unfold f_X12_pick at h
  refine v_aload_n dX12_pick_0 rfl 0 rfl ?_
  refine x_gI dX12_pick_1 kf_X12_126 rfl h (fun x1 h => ?_)
  refine v_iconst dX12_pick_4 ic_1 ?_
  refine x_ic_eq (tgt := 11) dX12_pick_5 (by decide) h (fun h => ?_) (fun h => ?_)
  · refine v_iload_n dX12_pick_11 rfl 1 rfl ?_
    refine v_iconst dX12_pick_12 ic_0 ?_
    refine v_iconst dX12_pick_13 ic_1 ?_
    refine x_invs (cv := cI) (As := [.int v1, .int (nI 0), .int (nI 1)]) (rest := []) (ls2 := [(0, .int v1), (1, .int (nI 0)), (2, .int (nI 1))]) (by omega) dX12_pick_14 ke_X12_in ks_X12_133 (Nat.le_of_ble_eq_true rfl) rfl rfl rfl rfl h (fun _ hq => s_X12_in (by omega) hq) (fun x3 M2 h => ?_)
    refine x_if_eq (tgt := 39) dX12_pick_17 (by decide) h (fun h => ?_) (fun h => ?_)
    · refine v_bipush dX12_pick_39 bp_m2 ?_
      exact x_iret dX12_pick_41 rfl h
    · refine v_iload_n dX12_pick_20 rfl 2 rfl ?_
      refine v_iconst dX12_pick_21 ic_0 ?_
      refine v_aload_n dX12_pick_22 rfl 0 rfl ?_
      refine x_gR dX12_pick_23 kf_X12_7 rfl h (fun r4 h => ?_)
      refine v_bipush dX12_pick_26 bp_6 ?_
      refine v_iload_n dX12_pick_28 rfl 1 rfl ?_
      refine v_iadd dX12_pick_29 ?_
      refine x_ldI dX12_pick_30 h (fun x5 h => ?_)
      refine v_iconst dX12_pick_31 ic_1 ?_
      refine v_isub dX12_pick_32 ?_
      refine x_invs (cv := cI) (As := [.int v2, .int (nI 0), .int (x5 - (nI 1))]) (rest := []) (ls2 := [(0, .int v2), (1, .int (nI 0)), (2, .int (x5 - (nI 1)))]) (by omega) dX12_pick_33 ke_X12_in ks_X12_133 (Nat.le_of_ble_eq_true rfl) rfl rfl rfl rfl h (fun _ hq => s_X12_in (by omega) hq) (fun x7 M6 h => ?_)
      refine x_if_ne (tgt := 42) dX12_pick_36 (by decide) h (fun h => ?_) (fun h => ?_)
      · refine v_bipush dX12_pick_39 bp_m2 ?_
        exact x_iret dX12_pick_41 rfl h
      · refine v_aload_n dX12_pick_42 rfl 0 rfl ?_
        refine v_iload_n dX12_pick_43 rfl 1 rfl ?_
        refine x_pI dX12_pick_44 kf_X12_222 rfl (fun q => Bool.noConfusion q) h (fun M8 h => ?_)
        refine v_aload_n dX12_pick_47 rfl 0 rfl ?_
        refine v_iload_n dX12_pick_48 rfl 2 rfl ?_
        refine x_pI dX12_pick_49 kf_X12_225 rfl (fun q => Bool.noConfusion q) h (fun M9 h => ?_)
        refine v_aload_n dX12_pick_52 rfl 0 rfl ?_
        refine v_iconst dX12_pick_53 ic_2 ?_
        refine x_pI dX12_pick_54 kf_X12_126 rfl (fun q => Bool.noConfusion q) h (fun M10 h => ?_)
        refine v_iconst dX12_pick_57 ic_1 ?_
        exact x_iret dX12_pick_58 rfl h
  · refine v_bipush dX12_pick_8 bp_m3 ?_
    exact x_iret dX12_pick_10 rfl h
def b_X12_copyWorld_2  (k2 : Nat → Int32 → Int32 → Int32 → jM → jO Unit) (v0 : Nat) (v1 : Int32) (v2 : Int32) (v3 : Int32) (M : jM) : jO Unit :=
  if (nI 6) ≤ v3 then
    (gR 11 M v0 0).bind fun r1 =>
    (ldI M r1 v1).bind fun x2 =>
    jb2 (jiv 11 M v0 (f_X12_lay v0 v2 x2 M)) fun _ M3 =>
    rt () M3
  else
    (gR 11 M v0 3).bind fun r4 =>
    (gR 11 M v0 1).bind fun r5 =>
    (ldI M r5 (((nI 6) * v1) + v3)).bind fun x6 =>
    (stI M r4 v3 x6).bind fun M7 =>
    (gR 11 M7 v0 4).bind fun r8 =>
    (gR 11 M7 v0 2).bind fun r9 =>
    (ldI M7 r9 (((nI 6) * v1) + v3)).bind fun x10 =>
    (stI M7 r8 v3 x10).bind fun M11 =>
    k2 v0 v1 v2 (v3 + (nI 1)) M11
def l_X12_copyWorld_2  : Nat → Nat → Int32 → Int32 → Int32 → jM → jO Unit
  | 0 => fun _ _ _ _ _ => none
  | n + 1 => b_X12_copyWorld_2  (l_X12_copyWorld_2  n)
theorem tb_X12_copyWorld_2 {G : jG} {d : Nat} (hd_ : 1 ≤ d)  {k2 : Nat → Int32 → Int32 → Int32 → jM → jO Unit} (hk2 : ∀ (w0 : Nat) (w1 : Int32) (w2 : Int32) (w3 : Int32) (M : jM) (b : Unit × jM), k2 w0 w1 w2 w3 M = some b → V G m_X12_copyWorld d 2 [(0, .ref w0), (1, .int w1), (2, .int w2), (3, .int w3)] [] M (jQb cU b)) {v0 : Nat} {v1 : Int32} {v2 : Int32} {v3 : Int32} {M : jM} {b : Unit × jM} (h : b_X12_copyWorld_2  k2 v0 v1 v2 v3 M = some b) : V G m_X12_copyWorld d 2 [(0, .ref v0), (1, .int v1), (2, .int v2), (3, .int v3)] [] M (jQb cU b) := by
  unfold b_X12_copyWorld_2 at h
  refine v_iload_n dX12_copyWorld_2 rfl 3 rfl ?_
  refine v_bipush dX12_copyWorld_3 bp_6 ?_
  refine x_ic_ge (tgt := 48) dX12_copyWorld_5 (by decide) h (fun h => ?_) (fun h => ?_)
  · refine v_aload_n dX12_copyWorld_48 rfl 0 rfl ?_
    refine v_iload_n dX12_copyWorld_49 rfl 2 rfl ?_
    refine v_aload_n dX12_copyWorld_50 rfl 0 rfl ?_
    refine x_gR dX12_copyWorld_51 kf_X12_7 rfl h (fun r1 h => ?_)
    refine v_iload_n dX12_copyWorld_54 rfl 1 rfl ?_
    refine x_ldI dX12_copyWorld_55 h (fun x2 h => ?_)
    refine x_inv (cv := cU) (As := [.int v2, .int x2]) (rest := []) (ls2 := [(0, .ref v0), (1, .int v2), (2, .int x2)]) (ci := 11) (by omega) dX12_copyWorld_56 ke_X12_lay kv_X12_155 rfl rfl (by decide) (Nat.le_of_ble_eq_true rfl) rfl rfl rfl rfl h (fun _ hq => s_X12_lay (by omega) hq) (fun _ M3 h => ?_)
    exact x_vret dX12_copyWorld_59 rfl h
  · refine v_aload_n dX12_copyWorld_8 rfl 0 rfl ?_
    refine x_gR dX12_copyWorld_9 kf_X12_19 rfl h (fun r4 h => ?_)
    refine v_iload_n dX12_copyWorld_12 rfl 3 rfl ?_
    refine v_aload_n dX12_copyWorld_13 rfl 0 rfl ?_
    refine x_gR dX12_copyWorld_14 kf_X12_13 rfl h (fun r5 h => ?_)
    refine v_bipush dX12_copyWorld_17 bp_6 ?_
    refine v_iload_n dX12_copyWorld_19 rfl 1 rfl ?_
    refine v_imul dX12_copyWorld_20 ?_
    refine v_iload_n dX12_copyWorld_21 rfl 3 rfl ?_
    refine v_iadd dX12_copyWorld_22 ?_
    refine x_ldI dX12_copyWorld_23 h (fun x6 h => ?_)
    refine x_stI dX12_copyWorld_24 h (fun M7 h => ?_)
    refine v_aload_n dX12_copyWorld_25 rfl 0 rfl ?_
    refine x_gR dX12_copyWorld_26 kf_X12_22 rfl h (fun r8 h => ?_)
    refine v_iload_n dX12_copyWorld_29 rfl 3 rfl ?_
    refine v_aload_n dX12_copyWorld_30 rfl 0 rfl ?_
    refine x_gR dX12_copyWorld_31 kf_X12_16 rfl h (fun r9 h => ?_)
    refine v_bipush dX12_copyWorld_34 bp_6 ?_
    refine v_iload_n dX12_copyWorld_36 rfl 1 rfl ?_
    refine v_imul dX12_copyWorld_37 ?_
    refine v_iload_n dX12_copyWorld_38 rfl 3 rfl ?_
    refine v_iadd dX12_copyWorld_39 ?_
    refine x_ldI dX12_copyWorld_40 h (fun x10 h => ?_)
    refine x_stI dX12_copyWorld_41 h (fun M11 h => ?_)
    refine v_iincC (ls2 := [(3, .int (v3 + (nI 1))), (0, .ref v0), (1, .int v1), (2, .int v2)]) dX12_copyWorld_42 ic_1 3 rfl (by decide) rfl ?_
    refine v_goto (tgt := 2) dX12_copyWorld_45 (by decide) ?_
    exact V.pick [1, 2, 3, 0] rfl (hk2 _ _ _ _ _ _ h)
theorem t_X12_copyWorld_2 {G : jG} {d : Nat} (hd_ : 1 ≤ d)  : ∀ (n : Nat) (v0 : Nat) (v1 : Int32) (v2 : Int32) (v3 : Int32) (M : jM) (b : Unit × jM), l_X12_copyWorld_2  n v0 v1 v2 v3 M = some b → V G m_X12_copyWorld d 2 [(0, .ref v0), (1, .int v1), (2, .int v2), (3, .int v3)] [] M (jQb cU b) := by
  intro n
  induction n with
  | zero => intro v0 v1 v2 v3 M b h; exact nomatch (show (none : jO Unit) = some b from h)
  | succ n ih => intro v0 v1 v2 v3 M b h; exact tb_X12_copyWorld_2 hd_  ih h
def f_X12_copyWorld (v0 : Nat) (v1 : Int32) (v2 : Int32) (M : jM) : jO Unit :=
  l_X12_copyWorld_2 jF0 v0 v1 v2 (nI 0) M
theorem s_X12_copyWorld {G : jG} {d : Nat} (hd_ : 1 ≤ d) {v0 : Nat} {v1 : Int32} {v2 : Int32} {M : jM} {b : Unit × jM} (h : f_X12_copyWorld  v0 v1 v2 M = some b) : V G m_X12_copyWorld d 0 [(0, .ref v0), (1, .int v1), (2, .int v2)] [] M (jQb cU b) := by
  unfold f_X12_copyWorld at h
  refine v_iconst dX12_copyWorld_0 ic_0 ?_
  refine v_istore_n (ls2 := [(3, .int (nI 0)), (0, .ref v0), (1, .int v1), (2, .int v2)]) dX12_copyWorld_1 rfl (by decide) rfl ?_
  exact V.pick [1, 2, 3, 0] rfl (t_X12_copyWorld_2 hd_ _ _ _ _ _ _ _ h)
def f_X12_play (v0 : Nat) (v1 : Int32) (v2 : Int32) (v3 : Int32) (M : jM) : jO Int32 :=
  jb2 (jiv 11 M v0 (f_X12_noWorld v0 v1 M)) fun x2 M1 =>
  if x2 = 0 then
    jb2 (jiv 11 M1 v0 (f_X12_noWorld v0 v2 M1)) fun x4 M3 =>
    if x4 = 0 then
      jb2 (f_X12_in v3 (nI 0) (nI 3) M3) fun x6 M5 =>
      if x6 = 0 then
        rt (-2 : Int32) M5
      else
        jb2 (jiv 11 M5 v0 (f_X12_copyWorld v0 v1 (nI 6) M5)) fun _ M7 =>
        jb2 (jiv 11 M7 v0 (f_X12_copyWorld v0 v2 (nI 7) M7)) fun _ M8 =>
        (pI 11 M8 v0 11 v3).bind fun M9 =>
        (pI 11 M9 v0 12 (nI 0)).bind fun M10 =>
        jb2 (jiv 11 M10 v0 (f_X12_judge v0 M10)) fun _ M11 =>
        rt (nI 1) M11
    else
      rt (-1 : Int32) M3
  else
    rt (-1 : Int32) M1
theorem s_X12_play {G : jG} {d : Nat} (hd_ : 4 ≤ d) {v0 : Nat} {v1 : Int32} {v2 : Int32} {v3 : Int32} {M : jM} {b : Int32 × jM} (h : f_X12_play  v0 v1 v2 v3 M = some b) : V G m_X12_play d 0 [(0, .ref v0), (1, .int v1), (2, .int v2), (3, .int v3)] [] M (jQb cI b) := by
  unfold f_X12_play at h
  refine v_aload_n dX12_play_0 rfl 0 rfl ?_
  refine v_iload_n dX12_play_1 rfl 1 rfl ?_
  refine x_inv (cv := cI) (As := [.int v1]) (rest := []) (ls2 := [(0, .ref v0), (1, .int v1)]) (ci := 11) (by omega) dX12_play_2 ke_X12_noWorld kv_X12_141 rfl rfl (by decide) (Nat.le_of_ble_eq_true rfl) rfl rfl rfl rfl h (fun _ hq => s_X12_noWorld (by omega) hq) (fun x2 M1 h => ?_)
  refine x_if_ne (tgt := 16) dX12_play_5 (by decide) h (fun h => ?_) (fun h => ?_)
  · refine v_aload_n dX12_play_8 rfl 0 rfl ?_
    refine v_iload_n dX12_play_9 rfl 2 rfl ?_
    refine x_inv (cv := cI) (As := [.int v2]) (rest := []) (ls2 := [(0, .ref v0), (1, .int v2)]) (ci := 11) (by omega) dX12_play_10 ke_X12_noWorld kv_X12_141 rfl rfl (by decide) (Nat.le_of_ble_eq_true rfl) rfl rfl rfl rfl h (fun _ hq => s_X12_noWorld (by omega) hq) (fun x4 M3 h => ?_)
    refine x_if_eq (tgt := 18) dX12_play_13 (by decide) h (fun h => ?_) (fun h => ?_)
    · refine v_iload_n dX12_play_18 rfl 3 rfl ?_
      refine v_iconst dX12_play_19 ic_0 ?_
      refine v_iconst dX12_play_20 ic_3 ?_
      refine x_invs (cv := cI) (As := [.int v3, .int (nI 0), .int (nI 3)]) (rest := []) (ls2 := [(0, .int v3), (1, .int (nI 0)), (2, .int (nI 3))]) (by omega) dX12_play_21 ke_X12_in ks_X12_133 (Nat.le_of_ble_eq_true rfl) rfl rfl rfl rfl h (fun _ hq => s_X12_in (by omega) hq) (fun x6 M5 h => ?_)
      refine x_if_ne (tgt := 30) dX12_play_24 (by decide) h (fun h => ?_) (fun h => ?_)
      · refine v_bipush dX12_play_27 bp_m2 ?_
        exact x_iret dX12_play_29 rfl h
      · refine v_aload_n dX12_play_30 rfl 0 rfl ?_
        refine v_iload_n dX12_play_31 rfl 1 rfl ?_
        refine v_bipush dX12_play_32 bp_6 ?_
        refine x_inv (cv := cU) (As := [.int v1, .int (nI 6)]) (rest := []) (ls2 := [(0, .ref v0), (1, .int v1), (2, .int (nI 6))]) (ci := 11) (by omega) dX12_play_34 ke_X12_copyWorld kv_X12_216 rfl rfl (by decide) (Nat.le_of_ble_eq_true rfl) rfl rfl rfl rfl h (fun _ hq => s_X12_copyWorld (by omega) hq) (fun _ M7 h => ?_)
        refine v_aload_n dX12_play_37 rfl 0 rfl ?_
        refine v_iload_n dX12_play_38 rfl 2 rfl ?_
        refine v_bipush dX12_play_39 bp_7 ?_
        refine x_inv (cv := cU) (As := [.int v2, .int (nI 7)]) (rest := []) (ls2 := [(0, .ref v0), (1, .int v2), (2, .int (nI 7))]) (ci := 11) (by omega) dX12_play_41 ke_X12_copyWorld kv_X12_216 rfl rfl (by decide) (Nat.le_of_ble_eq_true rfl) rfl rfl rfl rfl h (fun _ hq => s_X12_copyWorld (by omega) hq) (fun _ M8 h => ?_)
        refine v_aload_n dX12_play_44 rfl 0 rfl ?_
        refine v_iload_n dX12_play_45 rfl 3 rfl ?_
        refine x_pI dX12_play_46 kf_X12_213 rfl (fun q => Bool.noConfusion q) h (fun M9 h => ?_)
        refine v_aload_n dX12_play_49 rfl 0 rfl ?_
        refine v_iconst dX12_play_50 ic_0 ?_
        refine x_pI dX12_play_51 kf_X12_207 rfl (fun q => Bool.noConfusion q) h (fun M10 h => ?_)
        refine v_aload_n dX12_play_54 rfl 0 rfl ?_
        refine x_inv (cv := cU) (As := []) (rest := []) (ls2 := [(0, .ref v0)]) (ci := 11) (by omega) dX12_play_55 ke_X12_judge kv_X12_219 rfl rfl (by decide) (Nat.le_of_ble_eq_true rfl) rfl rfl rfl rfl h (fun _ hq => s_X12_judge (by omega) hq) (fun _ M11 h => ?_)
        refine v_iconst dX12_play_58 ic_1 ?_
        exact x_iret dX12_play_59 rfl h
    · refine v_iconst dX12_play_16 ic_m1 ?_
      exact x_iret dX12_play_17 rfl h
  · refine v_iconst dX12_play_16 ic_m1 ?_
    exact x_iret dX12_play_17 rfl h
def f_X12_rank (v0 : Nat) (v1 : Int32) (v2 : Int32) (M : jM) : jO Int32 :=
  jb2 (jiv 11 M v0 (f_X12_noWorld v0 v1 M)) fun x2 M1 =>
  if x2 = 0 then
    jb2 (jiv 11 M1 v0 (f_X12_noWorld v0 v2 M1)) fun x4 M3 =>
    if x4 = 0 then
      jb2 (jiv 11 M3 v0 (f_X12_begin v0 v1 v2 M3)) fun _ M5 =>
      jb2 (jiv 11 M5 v0 (f_X12_least v0 (nI 3) M5)) fun x7 M6 =>
      if 0 ≤ x7 then
        rt x7 M6
      else
        rt (-9 : Int32) M6
    else
      rt (-1 : Int32) M3
  else
    rt (-1 : Int32) M1
theorem s_X12_rank {G : jG} {d : Nat} (hd_ : 8 ≤ d) {v0 : Nat} {v1 : Int32} {v2 : Int32} {M : jM} {b : Int32 × jM} (h : f_X12_rank  v0 v1 v2 M = some b) : V G m_X12_rank d 0 [(0, .ref v0), (1, .int v1), (2, .int v2)] [] M (jQb cI b) := by
  unfold f_X12_rank at h
  refine v_aload_n dX12_rank_0 rfl 0 rfl ?_
  refine v_iload_n dX12_rank_1 rfl 1 rfl ?_
  refine x_inv (cv := cI) (As := [.int v1]) (rest := []) (ls2 := [(0, .ref v0), (1, .int v1)]) (ci := 11) (by omega) dX12_rank_2 ke_X12_noWorld kv_X12_141 rfl rfl (by decide) (Nat.le_of_ble_eq_true rfl) rfl rfl rfl rfl h (fun _ hq => s_X12_noWorld (by omega) hq) (fun x2 M1 h => ?_)
  refine x_if_ne (tgt := 16) dX12_rank_5 (by decide) h (fun h => ?_) (fun h => ?_)
  · refine v_aload_n dX12_rank_8 rfl 0 rfl ?_
    refine v_iload_n dX12_rank_9 rfl 2 rfl ?_
    refine x_inv (cv := cI) (As := [.int v2]) (rest := []) (ls2 := [(0, .ref v0), (1, .int v2)]) (ci := 11) (by omega) dX12_rank_10 ke_X12_noWorld kv_X12_141 rfl rfl (by decide) (Nat.le_of_ble_eq_true rfl) rfl rfl rfl rfl h (fun _ hq => s_X12_noWorld (by omega) hq) (fun x4 M3 h => ?_)
    refine x_if_eq (tgt := 18) dX12_rank_13 (by decide) h (fun h => ?_) (fun h => ?_)
    · refine v_aload_n dX12_rank_18 rfl 0 rfl ?_
      refine v_iload_n dX12_rank_19 rfl 1 rfl ?_
      refine v_iload_n dX12_rank_20 rfl 2 rfl ?_
      refine x_inv (cv := cU) (As := [.int v1, .int v2]) (rest := []) (ls2 := [(0, .ref v0), (1, .int v1), (2, .int v2)]) (ci := 11) (by omega) dX12_rank_21 ke_X12_begin kv_X12_198 rfl rfl (by decide) (Nat.le_of_ble_eq_true rfl) rfl rfl rfl rfl h (fun _ hq => s_X12_begin (by omega) hq) (fun _ M5 h => ?_)
      refine v_aload_n dX12_rank_24 rfl 0 rfl ?_
      refine v_iconst dX12_rank_25 ic_3 ?_
      refine x_inv (cv := cI) (As := [.int (nI 3)]) (rest := []) (ls2 := [(0, .ref v0), (1, .int (nI 3))]) (ci := 11) (by omega) dX12_rank_26 ke_X12_least kv_X12_204 rfl rfl (by decide) (Nat.le_of_ble_eq_true rfl) rfl rfl rfl rfl h (fun _ hq => s_X12_least (by omega) hq) (fun x7 M6 h => ?_)
      refine v_istore_n (ls2 := [(3, .int x7), (0, .ref v0), (1, .int v1), (2, .int v2)]) dX12_rank_29 rfl (by decide) rfl ?_
      refine v_iload_n dX12_rank_30 rfl 0 rfl ?_
      refine x_if_ge (tgt := 39) dX12_rank_31 (by decide) h (fun h => ?_) (fun h => ?_)
      · refine v_iload_n dX12_rank_39 rfl 0 rfl ?_
        exact x_iret dX12_rank_40 rfl h
      · refine v_bipush dX12_rank_34 bp_m9 ?_
        refine v_goto (tgt := 40) dX12_rank_36 (by decide) ?_
        exact x_iret dX12_rank_40 rfl h
    · refine v_iconst dX12_rank_16 ic_m1 ?_
      exact x_iret dX12_rank_17 rfl h
  · refine v_iconst dX12_rank_16 ic_m1 ?_
    exact x_iret dX12_rank_17 rfl h
def j_X12_partDone_57 (k0 : Nat → jM → jO Unit) (v0 : Nat) (s0 : Nat) (s1 : Int32) (s2 : Int32) (M : jM) : jO Unit :=
  (pI 11 M s0 34 (s1 - s2)).bind fun M1 =>
  k0 v0 M1
theorem t_X12_partDone_57 {G : jG} {d : Nat} (hd_ : 0 ≤ d) {k0 : Nat → jM → jO Unit} (hk0 : ∀ (w0 : Nat) (M : jM) (b : Unit × jM), k0 w0 M = some b → V G m_X12_partDone d 0 [(0, .ref w0)] [] M (jQb cU b)) {v0 : Nat} {s0 : Nat} {s1 : Int32} {s2 : Int32} {M : jM} {b : Unit × jM} (h : j_X12_partDone_57 k0 v0 s0 s1 s2 M = some b) : V G m_X12_partDone d 57 [(0, .ref v0)] [.int s2, .int s1, .ref s0] M (jQb cU b) := by
  unfold j_X12_partDone_57 at h
  refine v_isub dX12_partDone_57 ?_
  refine x_pI dX12_partDone_58 kf_X12_253 rfl (fun q => Bool.noConfusion q) h (fun M1 h => ?_)
  refine v_goto (tgt := 0) dX12_partDone_61 (by decide) ?_
  exact hk0 _ _ _ h
def b_X12_partDone_0  (k0 : Nat → jM → jO Unit) (v0 : Nat) (M : jM) : jO Unit :=
  (gR 11 M v0 30).bind fun r1 =>
  (gI 11 M v0 29).bind fun x2 =>
  (ldI M r1 (x2 - (nI 1))).bind fun x3 =>
  if x3 = 0 then
    (gR 11 M v0 32).bind fun r4 =>
    (gI 11 M v0 29).bind fun x5 =>
    (ldI M r4 (x5 - (nI 1))).bind fun x6 =>
    if x6 = 0 then
      rt () M
    else
      (gR 11 M v0 25).bind fun r7 =>
      (gR 11 M v0 31).bind fun r8 =>
      (gI 11 M v0 29).bind fun x9 =>
      (ldI M r8 (x9 - (nI 1))).bind fun x10 =>
      (ldI M r7 x10).bind fun x11 =>
      (stI M r7 x10 (x11 + (nI 1))).bind fun M12 =>
      rt () M12
  else
    (gI 11 M v0 29).bind fun x13 =>
    (pI 11 M v0 29 (x13 - (nI 1))).bind fun M14 =>
    (gI 11 M14 v0 33).bind fun x15 =>
    (pI 11 M14 v0 33 (x15 - (nI 1))).bind fun M16 =>
    (gI 11 M16 v0 34).bind fun x17 =>
    (gR 11 M16 v0 30).bind fun r18 =>
    (gI 11 M16 v0 29).bind fun x19 =>
    (ldI M16 r18 x19).bind fun x20 =>
    if x20 = (nI 1) then
      j_X12_partDone_57 k0 v0 v0 x17 (nI 0) M16
    else
      j_X12_partDone_57 k0 v0 v0 x17 (nI 1) M16
def l_X12_partDone_0  : Nat → Nat → jM → jO Unit
  | 0 => fun _ _ => none
  | n + 1 => b_X12_partDone_0  (l_X12_partDone_0  n)
theorem tb_X12_partDone_0 {G : jG} {d : Nat} (hd_ : 0 ≤ d)  {k0 : Nat → jM → jO Unit} (hk0 : ∀ (w0 : Nat) (M : jM) (b : Unit × jM), k0 w0 M = some b → V G m_X12_partDone d 0 [(0, .ref w0)] [] M (jQb cU b)) {v0 : Nat} {M : jM} {b : Unit × jM} (h : b_X12_partDone_0  k0 v0 M = some b) : V G m_X12_partDone d 0 [(0, .ref v0)] [] M (jQb cU b) := by
  unfold b_X12_partDone_0 at h
  refine v_aload_n dX12_partDone_0 rfl 0 rfl ?_
  refine x_gR dX12_partDone_1 kf_X12_65 rfl h (fun r1 h => ?_)
  refine v_aload_n dX12_partDone_4 rfl 0 rfl ?_
  refine x_gI dX12_partDone_5 kf_X12_240 rfl h (fun x2 h => ?_)
  refine v_iconst dX12_partDone_8 ic_1 ?_
  refine v_isub dX12_partDone_9 ?_
  refine x_ldI dX12_partDone_10 h (fun x3 h => ?_)
  refine x_if_eq (tgt := 64) dX12_partDone_11 (by decide) h (fun h => ?_) (fun h => ?_)
  · refine v_aload_n dX12_partDone_64 rfl 0 rfl ?_
    refine x_gR dX12_partDone_65 kf_X12_71 rfl h (fun r4 h => ?_)
    refine v_aload_n dX12_partDone_68 rfl 0 rfl ?_
    refine x_gI dX12_partDone_69 kf_X12_240 rfl h (fun x5 h => ?_)
    refine v_iconst dX12_partDone_72 ic_1 ?_
    refine v_isub dX12_partDone_73 ?_
    refine x_ldI dX12_partDone_74 h (fun x6 h => ?_)
    refine x_if_eq (tgt := 98) dX12_partDone_75 (by decide) h (fun h => ?_) (fun h => ?_)
    · exact x_vret dX12_partDone_98 rfl h
    · refine v_aload_n dX12_partDone_78 rfl 0 rfl ?_
      refine x_gR dX12_partDone_79 kf_X12_56 rfl h (fun r7 h => ?_)
      refine v_aload_n dX12_partDone_82 rfl 0 rfl ?_
      refine x_gR dX12_partDone_83 kf_X12_68 rfl h (fun r8 h => ?_)
      refine v_aload_n dX12_partDone_86 rfl 0 rfl ?_
      refine x_gI dX12_partDone_87 kf_X12_240 rfl h (fun x9 h => ?_)
      refine v_iconst dX12_partDone_90 ic_1 ?_
      refine v_isub dX12_partDone_91 ?_
      refine x_ldI dX12_partDone_92 h (fun x10 h => ?_)
      refine v_dup2 dX12_partDone_93 rfl rfl ?_
      refine x_ldI dX12_partDone_94 h (fun x11 h => ?_)
      refine v_iconst dX12_partDone_95 ic_1 ?_
      refine v_iadd dX12_partDone_96 ?_
      refine x_stI dX12_partDone_97 h (fun M12 h => ?_)
      exact x_vret dX12_partDone_98 rfl h
  · refine v_aload_n dX12_partDone_14 rfl 0 rfl ?_
    refine v_dup dX12_partDone_15 rfl ?_
    refine x_gI dX12_partDone_16 kf_X12_240 rfl h (fun x13 h => ?_)
    refine v_iconst dX12_partDone_19 ic_1 ?_
    refine v_isub dX12_partDone_20 ?_
    refine x_pI dX12_partDone_21 kf_X12_240 rfl (fun q => Bool.noConfusion q) h (fun M14 h => ?_)
    refine v_aload_n dX12_partDone_24 rfl 0 rfl ?_
    refine v_dup dX12_partDone_25 rfl ?_
    refine x_gI dX12_partDone_26 kf_X12_243 rfl h (fun x15 h => ?_)
    refine v_iconst dX12_partDone_29 ic_1 ?_
    refine v_isub dX12_partDone_30 ?_
    refine x_pI dX12_partDone_31 kf_X12_243 rfl (fun q => Bool.noConfusion q) h (fun M16 h => ?_)
    refine v_aload_n dX12_partDone_34 rfl 0 rfl ?_
    refine v_dup dX12_partDone_35 rfl ?_
    refine x_gI dX12_partDone_36 kf_X12_253 rfl h (fun x17 h => ?_)
    refine v_aload_n dX12_partDone_39 rfl 0 rfl ?_
    refine x_gR dX12_partDone_40 kf_X12_65 rfl h (fun r18 h => ?_)
    refine v_aload_n dX12_partDone_43 rfl 0 rfl ?_
    refine x_gI dX12_partDone_44 kf_X12_240 rfl h (fun x19 h => ?_)
    refine x_ldI dX12_partDone_47 h (fun x20 h => ?_)
    refine v_iconst dX12_partDone_48 ic_1 ?_
    refine x_ic_ne (tgt := 56) dX12_partDone_49 (by decide) h (fun h => ?_) (fun h => ?_)
    · refine v_iconst dX12_partDone_52 ic_0 ?_
      refine v_goto (tgt := 57) dX12_partDone_53 (by decide) ?_
      exact t_X12_partDone_57 hd_ hk0 h
    · refine v_iconst dX12_partDone_56 ic_1 ?_
      exact t_X12_partDone_57 hd_ hk0 h
theorem t_X12_partDone_0 {G : jG} {d : Nat} (hd_ : 0 ≤ d)  : ∀ (n : Nat) (v0 : Nat) (M : jM) (b : Unit × jM), l_X12_partDone_0  n v0 M = some b → V G m_X12_partDone d 0 [(0, .ref v0)] [] M (jQb cU b) := by
  intro n
  induction n with
  | zero => intro v0 M b h; exact nomatch (show (none : jO Unit) = some b from h)
  | succ n ih => intro v0 M b h; exact tb_X12_partDone_0 hd_  ih h
def f_X12_partDone (v0 : Nat) (M : jM) : jO Unit :=
  l_X12_partDone_0 jF0 v0 M
theorem s_X12_partDone {G : jG} {d : Nat} (hd_ : 0 ≤ d) {v0 : Nat} {M : jM} {b : Unit × jM} (h : f_X12_partDone  v0 M = some b) : V G m_X12_partDone d 0 [(0, .ref v0)] [] M (jQb cU b) := by
  unfold f_X12_partDone at h
  exact t_X12_partDone_0 hd_ _ _ _ _ h
def f_X12_here (v0 : Nat) (M : jM) : jO Int32 :=
  (gI 11 M v0 36).bind fun x1 =>
  (gI 11 M v0 28).bind fun x2 =>
  if x2 ≤ x1 then
    rt (-1 : Int32) M
  else
    (gR 11 M v0 27).bind fun r3 =>
    (gI 11 M v0 36).bind fun x4 =>
    (ldB M r3 x4).bind fun x5 =>
    rt x5 M
theorem s_X12_here {G : jG} {d : Nat} (hd_ : 0 ≤ d) {v0 : Nat} {M : jM} {b : Int32 × jM} (h : f_X12_here  v0 M = some b) : V G m_X12_here d 0 [(0, .ref v0)] [] M (jQb cI b) := by
  unfold f_X12_here at h
  refine v_aload_n dX12_here_0 rfl 0 rfl ?_
  refine x_gI dX12_here_1 kf_X12_237 rfl h (fun x1 h => ?_)
  refine v_aload_n dX12_here_4 rfl 0 rfl ?_
  refine x_gI dX12_here_5 kf_X12_231 rfl h (fun x2 h => ?_)
  refine x_ic_ge (tgt := 23) dX12_here_8 (by decide) h (fun h => ?_) (fun h => ?_)
  · refine v_iconst dX12_here_23 ic_m1 ?_
    exact x_iret dX12_here_24 rfl h
  · refine v_aload_n dX12_here_11 rfl 0 rfl ?_
    refine x_gR dX12_here_12 kf_X12_62 rfl h (fun r3 h => ?_)
    refine v_aload_n dX12_here_15 rfl 0 rfl ?_
    refine x_gI dX12_here_16 kf_X12_237 rfl h (fun x4 h => ?_)
    refine x_ldB dX12_here_19 h (fun x5 h => ?_)
    refine v_goto (tgt := 24) dX12_here_20 (by decide) ?_
    exact x_iret dX12_here_24 rfl h
def j_X12_skip_39 (k0 : Nat → jM → jO Unit) (v0 : Nat) (M : jM) : jO Unit :=
  (gI 11 M v0 36).bind fun x1 =>
  (pI 11 M v0 36 (x1 + (nI 1))).bind fun M2 =>
  k0 v0 M2
theorem t_X12_skip_39 {G : jG} {d : Nat} (hd_ : 0 ≤ d) {k0 : Nat → jM → jO Unit} (hk0 : ∀ (w0 : Nat) (M : jM) (b : Unit × jM), k0 w0 M = some b → V G m_X12_skip d 0 [(0, .ref w0)] [] M (jQb cU b)) {v0 : Nat} {M : jM} {b : Unit × jM} (h : j_X12_skip_39 k0 v0 M = some b) : V G m_X12_skip d 39 [(0, .ref v0)] [] M (jQb cU b) := by
  unfold j_X12_skip_39 at h
  refine v_aload_n dX12_skip_39 rfl 0 rfl ?_
  refine v_dup dX12_skip_40 rfl ?_
  refine x_gI dX12_skip_41 kf_X12_237 rfl h (fun x1 h => ?_)
  refine v_iconst dX12_skip_44 ic_1 ?_
  refine v_iadd dX12_skip_45 ?_
  refine x_pI dX12_skip_46 kf_X12_237 rfl (fun q => Bool.noConfusion q) h (fun M2 h => ?_)
  refine v_goto (tgt := 0) dX12_skip_49 (by decide) ?_
  exact hk0 _ _ _ h
def b_X12_skip_0  (k0 : Nat → jM → jO Unit) (v0 : Nat) (M : jM) : jO Unit :=
  (gI 11 M v0 36).bind fun x1 =>
  (gI 11 M v0 28).bind fun x2 =>
  if x2 ≤ x1 then
    rt () M
  else
    (gR 11 M v0 27).bind fun r3 =>
    (gI 11 M v0 36).bind fun x4 =>
    (ldB M r3 x4).bind fun x5 =>
    if x5 = (nI 32) then
      j_X12_skip_39 k0 v0 M
    else
      (gR 11 M v0 27).bind fun r6 =>
      (gI 11 M v0 36).bind fun x7 =>
      (ldB M r6 x7).bind fun x8 =>
      if x8 = (nI 10) then
        j_X12_skip_39 k0 v0 M
      else
        rt () M
def l_X12_skip_0  : Nat → Nat → jM → jO Unit
  | 0 => fun _ _ => none
  | n + 1 => b_X12_skip_0  (l_X12_skip_0  n)
theorem tb_X12_skip_0 {G : jG} {d : Nat} (hd_ : 0 ≤ d)  {k0 : Nat → jM → jO Unit} (hk0 : ∀ (w0 : Nat) (M : jM) (b : Unit × jM), k0 w0 M = some b → V G m_X12_skip d 0 [(0, .ref w0)] [] M (jQb cU b)) {v0 : Nat} {M : jM} {b : Unit × jM} (h : b_X12_skip_0  k0 v0 M = some b) : V G m_X12_skip d 0 [(0, .ref v0)] [] M (jQb cU b) := by
  unfold b_X12_skip_0 at h
  refine v_aload_n dX12_skip_0 rfl 0 rfl ?_
  refine x_gI dX12_skip_1 kf_X12_237 rfl h (fun x1 h => ?_)
  refine v_aload_n dX12_skip_4 rfl 0 rfl ?_
  refine x_gI dX12_skip_5 kf_X12_231 rfl h (fun x2 h => ?_)
  refine x_ic_ge (tgt := 52) dX12_skip_8 (by decide) h (fun h => ?_) (fun h => ?_)
  · exact x_vret dX12_skip_52 rfl h
  · refine v_aload_n dX12_skip_11 rfl 0 rfl ?_
    refine x_gR dX12_skip_12 kf_X12_62 rfl h (fun r3 h => ?_)
    refine v_aload_n dX12_skip_15 rfl 0 rfl ?_
    refine x_gI dX12_skip_16 kf_X12_237 rfl h (fun x4 h => ?_)
    refine x_ldB dX12_skip_19 h (fun x5 h => ?_)
    refine v_bipush dX12_skip_20 bp_32 ?_
    refine x_ic_eq (tgt := 39) dX12_skip_22 (by decide) h (fun h => ?_) (fun h => ?_)
    · exact t_X12_skip_39 hd_ hk0 h
    · refine v_aload_n dX12_skip_25 rfl 0 rfl ?_
      refine x_gR dX12_skip_26 kf_X12_62 rfl h (fun r6 h => ?_)
      refine v_aload_n dX12_skip_29 rfl 0 rfl ?_
      refine x_gI dX12_skip_30 kf_X12_237 rfl h (fun x7 h => ?_)
      refine x_ldB dX12_skip_33 h (fun x8 h => ?_)
      refine v_bipush dX12_skip_34 bp_10 ?_
      refine x_ic_ne (tgt := 52) dX12_skip_36 (by decide) h (fun h => ?_) (fun h => ?_)
      · exact t_X12_skip_39 hd_ hk0 h
      · exact x_vret dX12_skip_52 rfl h
theorem t_X12_skip_0 {G : jG} {d : Nat} (hd_ : 0 ≤ d)  : ∀ (n : Nat) (v0 : Nat) (M : jM) (b : Unit × jM), l_X12_skip_0  n v0 M = some b → V G m_X12_skip d 0 [(0, .ref v0)] [] M (jQb cU b) := by
  intro n
  induction n with
  | zero => intro v0 M b h; exact nomatch (show (none : jO Unit) = some b from h)
  | succ n ih => intro v0 M b h; exact tb_X12_skip_0 hd_  ih h
def f_X12_skip (v0 : Nat) (M : jM) : jO Unit :=
  l_X12_skip_0 jF0 v0 M
theorem s_X12_skip {G : jG} {d : Nat} (hd_ : 0 ≤ d) {v0 : Nat} {M : jM} {b : Unit × jM} (h : f_X12_skip  v0 M = some b) : V G m_X12_skip d 0 [(0, .ref v0)] [] M (jQb cU b) := by
  unfold f_X12_skip at h
  exact t_X12_skip_0 hd_ _ _ _ _ h
def j_X12_variable_36 (k13 : Nat → Int32 → Int32 → Int32 → jM → jO Int32) (v0 : Nat) (v1 : Int32) (v3 : Int32) (s0 : Int32) (M : jM) : jO Int32 :=
  k13 v0 v1 s0 (v3 + (nI 1)) M
theorem t_X12_variable_36 {G : jG} {d : Nat} (hd_ : 1 ≤ d) {k13 : Nat → Int32 → Int32 → Int32 → jM → jO Int32} (hk13 : ∀ (w0 : Nat) (w1 : Int32) (w2 : Int32) (w3 : Int32) (M : jM) (b : Int32 × jM), k13 w0 w1 w2 w3 M = some b → V G m_X12_variable d 13 [(0, .ref w0), (1, .int w1), (2, .int w2), (3, .int w3)] [] M (jQb cI b)) {v0 : Nat} {v1 : Int32} {v3 : Int32} {s0 : Int32} {M : jM} {b : Int32 × jM} (h : j_X12_variable_36 k13 v0 v1 v3 s0 M = some b) : V G m_X12_variable d 36 [(0, .ref v0), (1, .int v1), (3, .int v3)] [.int s0] M (jQb cI b) := by
  unfold j_X12_variable_36 at h
  refine v_istore_n (ls2 := [(2, .int s0), (0, .ref v0), (1, .int v1), (3, .int v3)]) dX12_variable_36 rfl (by decide) rfl ?_
  refine v_iincC (ls2 := [(3, .int (v3 + (nI 1))), (2, .int s0), (0, .ref v0), (1, .int v1)]) dX12_variable_37 ic_1 3 rfl (by decide) rfl ?_
  refine v_goto (tgt := 13) dX12_variable_40 (by decide) ?_
  exact V.pick [2, 3, 1, 0] rfl (hk13 _ _ _ _ _ _ h)
def b_X12_variable_13  (k13 : Nat → Int32 → Int32 → Int32 → jM → jO Int32) (v0 : Nat) (v1 : Int32) (v2 : Int32) (v3 : Int32) (M : jM) : jO Int32 :=
  (gI 11 M v0 34).bind fun x1 =>
  if x1 ≤ v3 then
    if 0 ≤ v2 then
      (gI 11 M v0 36).bind fun x2 =>
      (pI 11 M v0 36 (x2 + (nI 1))).bind fun M3 =>
      rt v2 M3
    else
      (gI 11 M v0 36).bind fun x4 =>
      (pI 11 M v0 37 x4).bind fun M5 =>
      rt v2 M5
  else
    (gR 11 M v0 35).bind fun r6 =>
    (ldI M r6 v3).bind fun x7 =>
    if x7 = v1 then
      j_X12_variable_36 k13 v0 v1 v3 v3 M
    else
      j_X12_variable_36 k13 v0 v1 v3 v2 M
def l_X12_variable_13  : Nat → Nat → Int32 → Int32 → Int32 → jM → jO Int32
  | 0 => fun _ _ _ _ _ => none
  | n + 1 => b_X12_variable_13  (l_X12_variable_13  n)
theorem tb_X12_variable_13 {G : jG} {d : Nat} (hd_ : 1 ≤ d)  {k13 : Nat → Int32 → Int32 → Int32 → jM → jO Int32} (hk13 : ∀ (w0 : Nat) (w1 : Int32) (w2 : Int32) (w3 : Int32) (M : jM) (b : Int32 × jM), k13 w0 w1 w2 w3 M = some b → V G m_X12_variable d 13 [(0, .ref w0), (1, .int w1), (2, .int w2), (3, .int w3)] [] M (jQb cI b)) {v0 : Nat} {v1 : Int32} {v2 : Int32} {v3 : Int32} {M : jM} {b : Int32 × jM} (h : b_X12_variable_13  k13 v0 v1 v2 v3 M = some b) : V G m_X12_variable d 13 [(0, .ref v0), (1, .int v1), (2, .int v2), (3, .int v3)] [] M (jQb cI b) := by
  unfold b_X12_variable_13 at h
  refine v_iload_n dX12_variable_13 rfl 3 rfl ?_
  refine v_aload_n dX12_variable_14 rfl 0 rfl ?_
  refine x_gI dX12_variable_15 kf_X12_253 rfl h (fun x1 h => ?_)
  refine x_ic_ge (tgt := 43) dX12_variable_18 (by decide) h (fun h => ?_) (fun h => ?_)
  · refine v_iload_n dX12_variable_43 rfl 2 rfl ?_
    refine x_if_ge (tgt := 58) dX12_variable_44 (by decide) h (fun h => ?_) (fun h => ?_)
    · refine v_aload_n dX12_variable_58 rfl 0 rfl ?_
      refine v_dup dX12_variable_59 rfl ?_
      refine x_gI dX12_variable_60 kf_X12_237 rfl h (fun x2 h => ?_)
      refine v_iconst dX12_variable_63 ic_1 ?_
      refine v_iadd dX12_variable_64 ?_
      refine x_pI dX12_variable_65 kf_X12_237 rfl (fun q => Bool.noConfusion q) h (fun M3 h => ?_)
      refine v_iload_n dX12_variable_68 rfl 2 rfl ?_
      exact x_iret dX12_variable_69 rfl h
    · refine v_aload_n dX12_variable_47 rfl 0 rfl ?_
      refine v_aload_n dX12_variable_48 rfl 0 rfl ?_
      refine x_gI dX12_variable_49 kf_X12_237 rfl h (fun x4 h => ?_)
      refine x_pI dX12_variable_52 kf_X12_256 rfl (fun q => Bool.noConfusion q) h (fun M5 h => ?_)
      refine v_goto (tgt := 68) dX12_variable_55 (by decide) ?_
      refine v_iload_n dX12_variable_68 rfl 2 rfl ?_
      exact x_iret dX12_variable_69 rfl h
  · refine v_aload_n dX12_variable_21 rfl 0 rfl ?_
    refine x_gR dX12_variable_22 kf_X12_74 rfl h (fun r6 h => ?_)
    refine v_iload_n dX12_variable_25 rfl 3 rfl ?_
    refine x_ldI dX12_variable_26 h (fun x7 h => ?_)
    refine v_iload_n dX12_variable_27 rfl 1 rfl ?_
    refine x_ic_ne (tgt := 35) dX12_variable_28 (by decide) h (fun h => ?_) (fun h => ?_)
    · refine v_iload_n dX12_variable_31 rfl 3 rfl ?_
      refine v_goto (tgt := 36) dX12_variable_32 (by decide) ?_
      exact V.pick [0, 1, 3] rfl (t_X12_variable_36 hd_ hk13 h)
    · refine v_iload_n dX12_variable_35 rfl 2 rfl ?_
      exact V.pick [0, 1, 3] rfl (t_X12_variable_36 hd_ hk13 h)
theorem t_X12_variable_13 {G : jG} {d : Nat} (hd_ : 1 ≤ d)  : ∀ (n : Nat) (v0 : Nat) (v1 : Int32) (v2 : Int32) (v3 : Int32) (M : jM) (b : Int32 × jM), l_X12_variable_13  n v0 v1 v2 v3 M = some b → V G m_X12_variable d 13 [(0, .ref v0), (1, .int v1), (2, .int v2), (3, .int v3)] [] M (jQb cI b) := by
  intro n
  induction n with
  | zero => intro v0 v1 v2 v3 M b h; exact nomatch (show (none : jO Int32) = some b from h)
  | succ n ih => intro v0 v1 v2 v3 M b h; exact tb_X12_variable_13 hd_  ih h
def f_X12_variable (v0 : Nat) (M : jM) : jO Int32 :=
  jb2 (jiv 11 M v0 (f_X12_skip v0 M)) fun _ M1 =>
  jb2 (jiv 11 M1 v0 (f_X12_here v0 M1)) fun x3 M2 =>
  l_X12_variable_13 jF0 v0 x3 (-1 : Int32) (nI 0) M2
theorem s_X12_variable {G : jG} {d : Nat} (hd_ : 1 ≤ d) {v0 : Nat} {M : jM} {b : Int32 × jM} (h : f_X12_variable  v0 M = some b) : V G m_X12_variable d 0 [(0, .ref v0)] [] M (jQb cI b) := by
  unfold f_X12_variable at h
  refine v_aload_n dX12_variable_0 rfl 0 rfl ?_
  refine x_inv (cv := cU) (As := []) (rest := []) (ls2 := [(0, .ref v0)]) (ci := 11) (by omega) dX12_variable_1 ke_X12_skip kv_X12_246 rfl rfl (by decide) (Nat.le_of_ble_eq_true rfl) rfl rfl rfl rfl h (fun _ hq => s_X12_skip (by omega) hq) (fun _ M1 h => ?_)
  refine v_aload_n dX12_variable_4 rfl 0 rfl ?_
  refine x_inv (cv := cI) (As := []) (rest := []) (ls2 := [(0, .ref v0)]) (ci := 11) (by omega) dX12_variable_5 ke_X12_here kv_X12_249 rfl rfl (by decide) (Nat.le_of_ble_eq_true rfl) rfl rfl rfl rfl h (fun _ hq => s_X12_here (by omega) hq) (fun x3 M2 h => ?_)
  refine v_istore_n (ls2 := [(1, .int x3), (0, .ref v0)]) dX12_variable_8 rfl (by decide) rfl ?_
  refine v_iconst dX12_variable_9 ic_m1 ?_
  refine v_istore_n (ls2 := [(2, .int (-1 : Int32)), (1, .int x3), (0, .ref v0)]) dX12_variable_10 rfl (by decide) rfl ?_
  refine v_iconst dX12_variable_11 ic_0 ?_
  refine v_istore_n (ls2 := [(3, .int (nI 0)), (2, .int (-1 : Int32)), (1, .int x3), (0, .ref v0)]) dX12_variable_12 rfl (by decide) rfl ?_
  exact V.pick [3, 2, 1, 0] rfl (t_X12_variable_13 hd_ _ _ _ _ _ _ _ h)
def j_X12_atom_40  (v0 : Nat) (v1 : Int32) (v3 : Int32) (s0 : Int32) (M : jM) : jO Unit :=
  if v3 < 0 then
    rt () M
  else
    if s0 < 0 then
      rt () M
    else
      jb2 (jiv 11 M v0 (f_X12_emit v0 v1 v3 s0 M)) fun _ M1 =>
      jb2 (jiv 11 M1 v0 (f_X12_partDone v0 M1)) fun _ M2 =>
      rt () M2
theorem t_X12_atom_40 {G : jG} {d : Nat} (hd_ : 2 ≤ d)  {v0 : Nat} {v1 : Int32} {v3 : Int32} {s0 : Int32} {M : jM} {b : Unit × jM} (h : j_X12_atom_40  v0 v1 v3 s0 M = some b) : V G m_X12_atom d 40 [(0, .ref v0), (1, .int v1), (3, .int v3)] [.int s0] M (jQb cU b) := by
  unfold j_X12_atom_40 at h
  refine v_istore (ls2 := [(4, .int s0), (0, .ref v0), (1, .int v1), (3, .int v3)]) dX12_atom_40 (by decide) rfl ?_
  refine v_iload_n dX12_atom_42 rfl 3 rfl ?_
  refine x_if_lt (tgt := 63) dX12_atom_43 (by decide) h (fun h => ?_) (fun h => ?_)
  · exact x_vret dX12_atom_63 rfl h
  · refine v_iload dX12_atom_46 0 rfl ?_
    refine x_if_lt (tgt := 63) dX12_atom_48 (by decide) h (fun h => ?_) (fun h => ?_)
    · exact x_vret dX12_atom_63 rfl h
    · refine v_aload_n dX12_atom_51 rfl 1 rfl ?_
      refine v_iload_n dX12_atom_52 rfl 2 rfl ?_
      refine v_iload_n dX12_atom_53 rfl 3 rfl ?_
      refine v_iload dX12_atom_54 0 rfl ?_
      refine x_inv (cv := cU) (As := [.int v1, .int v3, .int s0]) (rest := []) (ls2 := [(0, .ref v0), (1, .int v1), (2, .int v3), (3, .int s0)]) (ci := 11) (by omega) dX12_atom_56 ke_X12_emit kv_X12_262 rfl rfl (by decide) (Nat.le_of_ble_eq_true rfl) rfl rfl rfl rfl h (fun _ hq => s_X12_emit (by omega) hq) (fun _ M1 h => ?_)
      refine v_aload_n dX12_atom_59 rfl 1 rfl ?_
      refine x_inv (cv := cU) (As := []) (rest := []) (ls2 := [(0, .ref v0)]) (ci := 11) (by omega) dX12_atom_60 ke_X12_partDone kv_X12_265 rfl rfl (by decide) (Nat.le_of_ble_eq_true rfl) rfl rfl rfl rfl h (fun _ hq => s_X12_partDone (by omega) hq) (fun _ M2 h => ?_)
      exact x_vret dX12_atom_63 rfl h
def j_X12_atom_39  (v0 : Nat) (v1 : Int32) (v3 : Int32) (M : jM) : jO Unit :=
  j_X12_atom_40 v0 v1 v3 (nI 0) M
theorem t_X12_atom_39 {G : jG} {d : Nat} (hd_ : 2 ≤ d)  {v0 : Nat} {v1 : Int32} {v3 : Int32} {M : jM} {b : Unit × jM} (h : j_X12_atom_39  v0 v1 v3 M = some b) : V G m_X12_atom d 39 [(0, .ref v0), (1, .int v1), (3, .int v3)] [] M (jQb cU b) := by
  unfold j_X12_atom_39 at h
  refine v_iconst dX12_atom_39 ic_0 ?_
  exact t_X12_atom_40 hd_ h
def j_X12_atom_22  (v0 : Nat) (v1 : Int32) (v2 : Int32) (s0 : Int32) (M : jM) : jO Unit :=
  if s0 < 0 then
    j_X12_atom_39 v0 v1 s0 M
  else
    if v2 ≤ (nI 1) then
      j_X12_atom_39 v0 v1 s0 M
    else
      jb2 (jiv 11 M v0 (f_X12_variable v0 M)) fun x2 M1 =>
      j_X12_atom_40 v0 v1 s0 x2 M1
theorem t_X12_atom_22 {G : jG} {d : Nat} (hd_ : 2 ≤ d)  {v0 : Nat} {v1 : Int32} {v2 : Int32} {s0 : Int32} {M : jM} {b : Unit × jM} (h : j_X12_atom_22  v0 v1 v2 s0 M = some b) : V G m_X12_atom d 22 [(0, .ref v0), (1, .int v1), (2, .int v2)] [.int s0] M (jQb cU b) := by
  unfold j_X12_atom_22 at h
  refine v_istore_n (ls2 := [(3, .int s0), (0, .ref v0), (1, .int v1), (2, .int v2)]) dX12_atom_22 rfl (by decide) rfl ?_
  refine v_iload_n dX12_atom_23 rfl 0 rfl ?_
  refine x_if_lt (tgt := 39) dX12_atom_24 (by decide) h (fun h => ?_) (fun h => ?_)
  · exact V.pick [1, 2, 0] rfl (t_X12_atom_39 hd_ h)
  · refine v_iload_n dX12_atom_27 rfl 3 rfl ?_
    refine v_iconst dX12_atom_28 ic_1 ?_
    refine x_ic_le (tgt := 39) dX12_atom_29 (by decide) h (fun h => ?_) (fun h => ?_)
    · exact V.pick [1, 2, 0] rfl (t_X12_atom_39 hd_ h)
    · refine v_aload_n dX12_atom_32 rfl 1 rfl ?_
      refine x_inv (cv := cI) (As := []) (rest := []) (ls2 := [(0, .ref v0)]) (ci := 11) (by omega) dX12_atom_33 ke_X12_variable kv_X12_259 rfl rfl (by decide) (Nat.le_of_ble_eq_true rfl) rfl rfl rfl rfl h (fun _ hq => s_X12_variable (by omega) hq) (fun x2 M1 h => ?_)
      refine v_goto (tgt := 40) dX12_atom_36 (by decide) ?_
      exact V.pick [1, 2, 0] rfl (t_X12_atom_40 hd_ h)
def f_X12_atom (v0 : Nat) (v1 : Int32) (v2 : Int32) (M : jM) : jO Unit :=
  (gI 11 M v0 36).bind fun x1 =>
  (pI 11 M v0 36 (x1 + (nI 1))).bind fun M2 =>
  if v2 ≤ 0 then
    j_X12_atom_22 v0 v1 v2 (nI 0) M2
  else
    jb2 (jiv 11 M2 v0 (f_X12_variable v0 M2)) fun x4 M3 =>
    j_X12_atom_22 v0 v1 v2 x4 M3
theorem s_X12_atom {G : jG} {d : Nat} (hd_ : 2 ≤ d) {v0 : Nat} {v1 : Int32} {v2 : Int32} {M : jM} {b : Unit × jM} (h : f_X12_atom  v0 v1 v2 M = some b) : V G m_X12_atom d 0 [(0, .ref v0), (1, .int v1), (2, .int v2)] [] M (jQb cU b) := by
  unfold f_X12_atom at h
  refine v_aload_n dX12_atom_0 rfl 0 rfl ?_
  refine v_dup dX12_atom_1 rfl ?_
  refine x_gI dX12_atom_2 kf_X12_237 rfl h (fun x1 h => ?_)
  refine v_iconst dX12_atom_5 ic_1 ?_
  refine v_iadd dX12_atom_6 ?_
  refine x_pI dX12_atom_7 kf_X12_237 rfl (fun q => Bool.noConfusion q) h (fun M2 h => ?_)
  refine v_iload_n dX12_atom_10 rfl 2 rfl ?_
  refine x_if_le (tgt := 21) dX12_atom_11 (by decide) h (fun h => ?_) (fun h => ?_)
  · refine v_iconst dX12_atom_21 ic_0 ?_
    exact t_X12_atom_22 hd_ h
  · refine v_aload_n dX12_atom_14 rfl 0 rfl ?_
    refine x_inv (cv := cI) (As := []) (rest := []) (ls2 := [(0, .ref v0)]) (ci := 11) (by omega) dX12_atom_15 ke_X12_variable kv_X12_259 rfl rfl (by decide) (Nat.le_of_ble_eq_true rfl) rfl rfl rfl rfl h (fun _ hq => s_X12_variable (by omega) hq) (fun x4 M3 h => ?_)
    refine v_goto (tgt := 22) dX12_atom_18 (by decide) ?_
    exact t_X12_atom_22 hd_ h
