def f_X12_sentence (v0 : Nat) (v1 : Int32) (v2 : Int32) (M : jM) : jO Int32 :=
  jb2 (jiv 11 M v0 (f_X12_noSentence v0 v1 M)) fun x2 M1 =>
  if x2 = 0 then
    if v2 = (nI 2) then
      jb2 (jiv 11 M1 v0 (f_X12_writeAll v0 v1 M1)) fun _ M3 =>
      (gI 11 M3 v0 42).bind fun x4 =>
      rt x4 M3
    else
      if v2 = 0 then
        jb2 (jiv 11 M1 v0 (f_X12_depthOf v0 v1 M1)) fun x6 M5 =>
        rt x6 M5
      else
        if v2 = (nI 1) then
          (gR 11 M1 v0 18).bind fun r7 =>
          (ldI M1 r7 v1).bind fun x8 =>
          rt x8 M1
        else
          rt (-2 : Int32) M1
  else
    rt (-1 : Int32) M1
theorem s_X12_sentence {G : jG} {d : Nat} (hd_ : 3 ≤ d) {v0 : Nat} {v1 : Int32} {v2 : Int32} {M : jM} {b : Int32 × jM} (h : f_X12_sentence  v0 v1 v2 M = some b) : V G m_X12_sentence d 0 [(0, .ref v0), (1, .int v1), (2, .int v2)] [] M (jQb cI b) := by
  unfold f_X12_sentence at h
  refine v_aload_n dX12_sentence_0 rfl 0 rfl ?_
  refine v_iload_n dX12_sentence_1 rfl 1 rfl ?_
  refine x_inv (cv := cI) (As := [.int v1]) (rest := []) (ls2 := [(0, .ref v0), (1, .int v1)]) (ci := 11) (by omega) dX12_sentence_2 ke_X12_noSentence kv_X12_317 rfl rfl (by decide) (Nat.le_of_ble_eq_true rfl) rfl rfl rfl rfl h (fun _ hq => s_X12_noSentence (by omega) hq) (fun x2 M1 h => ?_)
  refine x_if_eq (tgt := 10) dX12_sentence_5 (by decide) h (fun h => ?_) (fun h => ?_)
  · refine v_iload_n dX12_sentence_10 rfl 2 rfl ?_
    refine v_iconst dX12_sentence_11 ic_2 ?_
    refine x_ic_ne (tgt := 25) dX12_sentence_12 (by decide) h (fun h => ?_) (fun h => ?_)
    · refine v_aload_n dX12_sentence_15 rfl 0 rfl ?_
      refine v_iload_n dX12_sentence_16 rfl 1 rfl ?_
      refine x_inv (cv := cU) (As := [.int v1]) (rest := []) (ls2 := [(0, .ref v0), (1, .int v1)]) (ci := 11) (by omega) dX12_sentence_17 ke_X12_writeAll kv_X12_320 rfl rfl (by decide) (Nat.le_of_ble_eq_true rfl) rfl rfl rfl rfl h (fun _ hq => s_X12_writeAll (by omega) hq) (fun _ M3 h => ?_)
      refine v_aload_n dX12_sentence_20 rfl 0 rfl ?_
      refine x_gI dX12_sentence_21 kf_X12_302 rfl h (fun x4 h => ?_)
      exact x_iret dX12_sentence_24 rfl h
    · refine v_iload_n dX12_sentence_25 rfl 2 rfl ?_
      refine x_if_ne (tgt := 37) dX12_sentence_26 (by decide) h (fun h => ?_) (fun h => ?_)
      · refine v_aload_n dX12_sentence_29 rfl 0 rfl ?_
        refine v_iload_n dX12_sentence_30 rfl 1 rfl ?_
        refine x_inv (cv := cI) (As := [.int v1]) (rest := []) (ls2 := [(0, .ref v0), (1, .int v1)]) (ci := 11) (by omega) dX12_sentence_31 ke_X12_depthOf kv_X12_323 rfl rfl (by decide) (Nat.le_of_ble_eq_true rfl) rfl rfl rfl rfl h (fun _ hq => s_X12_depthOf (by omega) hq) (fun x6 M5 h => ?_)
        refine v_goto (tgt := 53) dX12_sentence_34 (by decide) ?_
        exact x_iret dX12_sentence_53 rfl h
      · refine v_iload_n dX12_sentence_37 rfl 2 rfl ?_
        refine v_iconst dX12_sentence_38 ic_1 ?_
        refine x_ic_ne (tgt := 51) dX12_sentence_39 (by decide) h (fun h => ?_) (fun h => ?_)
        · refine v_aload_n dX12_sentence_42 rfl 0 rfl ?_
          refine x_gR dX12_sentence_43 kf_X12_37 rfl h (fun r7 h => ?_)
          refine v_iload_n dX12_sentence_46 rfl 1 rfl ?_
          refine x_ldI dX12_sentence_47 h (fun x8 h => ?_)
          refine v_goto (tgt := 53) dX12_sentence_48 (by decide) ?_
          exact x_iret dX12_sentence_53 rfl h
        · refine v_bipush dX12_sentence_51 bp_m2 ?_
          exact x_iret dX12_sentence_53 rfl h
  · refine v_iconst dX12_sentence_8 ic_m1 ?_
    exact x_iret dX12_sentence_9 rfl h
def f_X12_state (v0 : Nat) (M : jM) : jO Int32 :=
  (gI 11 M v0 10).bind fun x1 =>
  rt x1 M
theorem s_X12_state {G : jG} {d : Nat} (hd_ : 0 ≤ d) {v0 : Nat} {M : jM} {b : Int32 × jM} (h : f_X12_state  v0 M = some b) : V G m_X12_state d 0 [(0, .ref v0)] [] M (jQb cI b) := by
  unfold f_X12_state at h
  refine v_aload_n dX12_state_0 rfl 0 rfl ?_
  refine x_gI dX12_state_1 kf_X12_126 rfl h (fun x1 h => ?_)
  exact x_iret dX12_state_4 rfl h
def f_X12_still (v0 : Nat) (v1 : Int32) (M : jM) : jO Int32 :=
  jb2 (f_X12_in v1 (nI 0) (nI 1) M) fun x2 M1 =>
  if x2 = 0 then
    rt (-2 : Int32) M1
  else
    (gI 11 M1 v0 51).bind fun x3 =>
    if 0 ≤ x3 then
      if v1 = 0 then
        (gI 11 M1 v0 53).bind fun x4 =>
        rt x4 M1
      else
        (gI 11 M1 v0 54).bind fun x5 =>
        if x5 = 0 then
          rt (nI 0) M1
        else
          rt (nI 1) M1
    else
      rt (-3 : Int32) M1
theorem s_X12_still {G : jG} {d : Nat} (hd_ : 1 ≤ d) {v0 : Nat} {v1 : Int32} {M : jM} {b : Int32 × jM} (h : f_X12_still  v0 v1 M = some b) : V G m_X12_still d 0 [(0, .ref v0), (1, .int v1)] [] M (jQb cI b) := by
  unfold f_X12_still at h
  refine v_iload_n dX12_still_0 rfl 1 rfl ?_
  refine v_iconst dX12_still_1 ic_0 ?_
  refine v_iconst dX12_still_2 ic_1 ?_
  refine x_invs (cv := cI) (As := [.int v1, .int (nI 0), .int (nI 1)]) (rest := []) (ls2 := [(0, .int v1), (1, .int (nI 0)), (2, .int (nI 1))]) (by omega) dX12_still_3 ke_X12_in ks_X12_133 (Nat.le_of_ble_eq_true rfl) rfl rfl rfl rfl h (fun _ hq => s_X12_in (by omega) hq) (fun x2 M1 h => ?_)
  refine x_if_ne (tgt := 12) dX12_still_6 (by decide) h (fun h => ?_) (fun h => ?_)
  · refine v_bipush dX12_still_9 bp_m2 ?_
    exact x_iret dX12_still_11 rfl h
  · refine v_aload_n dX12_still_12 rfl 0 rfl ?_
    refine x_gI dX12_still_13 kf_X12_130 rfl h (fun x3 h => ?_)
    refine x_if_ge (tgt := 24) dX12_still_16 (by decide) h (fun h => ?_) (fun h => ?_)
    · refine v_iload_n dX12_still_24 rfl 1 rfl ?_
      refine x_if_ne (tgt := 35) dX12_still_25 (by decide) h (fun h => ?_) (fun h => ?_)
      · refine v_aload_n dX12_still_28 rfl 0 rfl ?_
        refine x_gI dX12_still_29 kf_X12_407 rfl h (fun x4 h => ?_)
        refine v_goto (tgt := 47) dX12_still_32 (by decide) ?_
        exact x_iret dX12_still_47 rfl h
      · refine v_aload_n dX12_still_35 rfl 0 rfl ?_
        refine x_gI dX12_still_36 kf_X12_413 rfl h (fun x5 h => ?_)
        refine x_if_eq (tgt := 46) dX12_still_39 (by decide) h (fun h => ?_) (fun h => ?_)
        · refine v_iconst dX12_still_46 ic_0 ?_
          exact x_iret dX12_still_47 rfl h
        · refine v_iconst dX12_still_42 ic_1 ?_
          refine v_goto (tgt := 47) dX12_still_43 (by decide) ?_
          exact x_iret dX12_still_47 rfl h
    · refine v_bipush dX12_still_19 bp_m3 ?_
      refine v_goto (tgt := 47) dX12_still_21 (by decide) ?_
      exact x_iret dX12_still_47 rfl h
def j_X12_tie_65  (v0 : Nat) (v1 : Int32) (v2 : Int32) (v5 : Int32) (s0 : Nat) (s1 : Int32) (s2 : Int32) (M : jM) : jO Int32 :=
  (stI M s0 s1 s2).bind fun M1 =>
  (gR 11 M1 v0 2).bind fun r2 =>
  (ldI M1 r2 (((nI 6) * v1) + v2)).bind fun x3 =>
  if x3 = v5 then
    rt (nI 0) M1
  else
    rt (nI 1) M1
theorem t_X12_tie_65 {G : jG} {d : Nat} (hd_ : 4 ≤ d)  {v0 : Nat} {v1 : Int32} {v2 : Int32} {v5 : Int32} {s0 : Nat} {s1 : Int32} {s2 : Int32} {M : jM} {b : Int32 × jM} (h : j_X12_tie_65  v0 v1 v2 v5 s0 s1 s2 M = some b) : V G m_X12_tie d 65 [(0, .ref v0), (1, .int v1), (2, .int v2), (5, .int v5)] [.int s2, .int s1, .ref s0] M (jQb cI b) := by
  unfold j_X12_tie_65 at h
  refine x_stI dX12_tie_65 h (fun M1 h => ?_)
  refine v_aload_n dX12_tie_66 rfl 0 rfl ?_
  refine x_gR dX12_tie_67 kf_X12_16 rfl h (fun r2 h => ?_)
  refine v_bipush dX12_tie_70 bp_6 ?_
  refine v_iload_n dX12_tie_72 rfl 1 rfl ?_
  refine v_imul dX12_tie_73 ?_
  refine v_iload_n dX12_tie_74 rfl 2 rfl ?_
  refine v_iadd dX12_tie_75 ?_
  refine x_ldI dX12_tie_76 h (fun x3 h => ?_)
  refine v_iload dX12_tie_77 3 rfl ?_
  refine x_ic_ne (tgt := 86) dX12_tie_79 (by decide) h (fun h => ?_) (fun h => ?_)
  · refine v_iconst dX12_tie_82 ic_0 ?_
    refine v_goto (tgt := 87) dX12_tie_83 (by decide) ?_
    exact x_iret dX12_tie_87 rfl h
  · refine v_iconst dX12_tie_86 ic_1 ?_
    exact x_iret dX12_tie_87 rfl h
def f_X12_tie (v0 : Nat) (v1 : Int32) (v2 : Int32) (v3 : Int32) (v4 : Int32) (M : jM) : jO Int32 :=
  jb2 (jiv 11 M v0 (f_X12_noThing v0 v1 v2 M)) fun x2 M1 =>
  if x2 = 0 then
    jb2 (jiv 11 M1 v0 (f_X12_noThing v0 v1 v3 M1)) fun x4 M3 =>
    if x4 = 0 then
      (gR 11 M3 v0 2).bind fun r5 =>
      (ldI M3 r5 (((nI 6) * v1) + v2)).bind fun x6 =>
      (gR 11 M3 v0 2).bind fun r7 =>
      if v4 = 0 then
        j_X12_tie_65 v0 v1 v2 x6 r7 (((nI 6) * v1) + v2) (x6 &&& (((nI 1) <<< (v3 &&& 31)) ^^^ (-1 : Int32))) M3
      else
        j_X12_tie_65 v0 v1 v2 x6 r7 (((nI 6) * v1) + v2) (x6 ||| ((nI 1) <<< (v3 &&& 31))) M3
    else
      rt (-1 : Int32) M3
  else
    rt (-1 : Int32) M1
theorem s_X12_tie {G : jG} {d : Nat} (hd_ : 4 ≤ d) {v0 : Nat} {v1 : Int32} {v2 : Int32} {v3 : Int32} {v4 : Int32} {M : jM} {b : Int32 × jM} (h : f_X12_tie  v0 v1 v2 v3 v4 M = some b) : V G m_X12_tie d 0 [(0, .ref v0), (1, .int v1), (2, .int v2), (3, .int v3), (4, .int v4)] [] M (jQb cI b) := by
  unfold f_X12_tie at h
  refine v_aload_n dX12_tie_0 rfl 0 rfl ?_
  refine v_iload_n dX12_tie_1 rfl 1 rfl ?_
  refine v_iload_n dX12_tie_2 rfl 2 rfl ?_
  refine x_inv (cv := cI) (As := [.int v1, .int v2]) (rest := []) (ls2 := [(0, .ref v0), (1, .int v1), (2, .int v2)]) (ci := 11) (by omega) dX12_tie_3 ke_X12_noThing kv_X12_144 rfl rfl (by decide) (Nat.le_of_ble_eq_true rfl) rfl rfl rfl rfl h (fun _ hq => s_X12_noThing (by omega) hq) (fun x2 M1 h => ?_)
  refine x_if_ne (tgt := 18) dX12_tie_6 (by decide) h (fun h => ?_) (fun h => ?_)
  · refine v_aload_n dX12_tie_9 rfl 0 rfl ?_
    refine v_iload_n dX12_tie_10 rfl 1 rfl ?_
    refine v_iload_n dX12_tie_11 rfl 3 rfl ?_
    refine x_inv (cv := cI) (As := [.int v1, .int v3]) (rest := []) (ls2 := [(0, .ref v0), (1, .int v1), (2, .int v3)]) (ci := 11) (by omega) dX12_tie_12 ke_X12_noThing kv_X12_144 rfl rfl (by decide) (Nat.le_of_ble_eq_true rfl) rfl rfl rfl rfl h (fun _ hq => s_X12_noThing (by omega) hq) (fun x4 M3 h => ?_)
    refine x_if_eq (tgt := 20) dX12_tie_15 (by decide) h (fun h => ?_) (fun h => ?_)
    · refine v_aload_n dX12_tie_20 rfl 0 rfl ?_
      refine x_gR dX12_tie_21 kf_X12_16 rfl h (fun r5 h => ?_)
      refine v_bipush dX12_tie_24 bp_6 ?_
      refine v_iload_n dX12_tie_26 rfl 1 rfl ?_
      refine v_imul dX12_tie_27 ?_
      refine v_iload_n dX12_tie_28 rfl 2 rfl ?_
      refine v_iadd dX12_tie_29 ?_
      refine x_ldI dX12_tie_30 h (fun x6 h => ?_)
      refine v_istore (ls2 := [(5, .int x6), (0, .ref v0), (1, .int v1), (2, .int v2), (3, .int v3), (4, .int v4)]) dX12_tie_31 (by decide) rfl ?_
      refine v_aload_n dX12_tie_33 rfl 1 rfl ?_
      refine x_gR dX12_tie_34 kf_X12_16 rfl h (fun r7 h => ?_)
      refine v_bipush dX12_tie_37 bp_6 ?_
      refine v_iload_n dX12_tie_39 rfl 2 rfl ?_
      refine v_imul dX12_tie_40 ?_
      refine v_iload_n dX12_tie_41 rfl 3 rfl ?_
      refine v_iadd dX12_tie_42 ?_
      refine v_iload dX12_tie_43 5 rfl ?_
      refine x_if_eq (tgt := 57) dX12_tie_45 (by decide) h (fun h => ?_) (fun h => ?_)
      · refine v_iload dX12_tie_57 0 rfl ?_
        refine v_iconst dX12_tie_59 ic_1 ?_
        refine v_iload_n dX12_tie_60 rfl 4 rfl ?_
        refine v_ishl dX12_tie_61 ?_
        refine v_iconst dX12_tie_62 ic_m1 ?_
        refine v_ixor dX12_tie_63 ?_
        refine v_iand dX12_tie_64 ?_
        exact V.pick [1, 2, 3, 0] rfl (t_X12_tie_65 hd_ h)
      · refine v_iload dX12_tie_48 0 rfl ?_
        refine v_iconst dX12_tie_50 ic_1 ?_
        refine v_iload_n dX12_tie_51 rfl 4 rfl ?_
        refine v_ishl dX12_tie_52 ?_
        refine v_ior dX12_tie_53 ?_
        refine v_goto (tgt := 65) dX12_tie_54 (by decide) ?_
        exact V.pick [1, 2, 3, 0] rfl (t_X12_tie_65 hd_ h)
    · refine v_iconst dX12_tie_18 ic_m1 ?_
      exact x_iret dX12_tie_19 rfl h
  · refine v_iconst dX12_tie_18 ic_m1 ?_
    exact x_iret dX12_tie_19 rfl h
def j_X12_tied_18   (M : jM) : jO Int32 :=
  rt (-1 : Int32) M
theorem t_X12_tied_18 {G : jG} {d : Nat} (hd_ : 4 ≤ d)   {M : jM} {b : Int32 × jM} (h : j_X12_tied_18   M = some b) : V G m_X12_tied d 18 [] [] M (jQb cI b) := by
  unfold j_X12_tied_18 at h
  refine v_iconst dX12_tied_18 ic_m1 ?_
  refine v_goto (tgt := 37) dX12_tied_19 (by decide) ?_
  exact x_iret dX12_tied_37 rfl h
def f_X12_tied (v0 : Nat) (v1 : Int32) (v2 : Int32) (v3 : Int32) (M : jM) : jO Int32 :=
  jb2 (jiv 11 M v0 (f_X12_noThing v0 v1 v2 M)) fun x2 M1 =>
  if x2 = 0 then
    jb2 (jiv 11 M1 v0 (f_X12_noThing v0 v1 v3 M1)) fun x4 M3 =>
    if x4 = 0 then
      jb2 (jiv 11 M3 v0 (f_X12_isTied v0 v1 v2 v3 M3)) fun x6 M5 =>
      if x6 = 0 then
        rt (nI 0) M5
      else
        rt (nI 1) M5
    else
      j_X12_tied_18 M3
  else
    j_X12_tied_18 M1
theorem s_X12_tied {G : jG} {d : Nat} (hd_ : 4 ≤ d) {v0 : Nat} {v1 : Int32} {v2 : Int32} {v3 : Int32} {M : jM} {b : Int32 × jM} (h : f_X12_tied  v0 v1 v2 v3 M = some b) : V G m_X12_tied d 0 [(0, .ref v0), (1, .int v1), (2, .int v2), (3, .int v3)] [] M (jQb cI b) := by
  unfold f_X12_tied at h
  refine v_aload_n dX12_tied_0 rfl 0 rfl ?_
  refine v_iload_n dX12_tied_1 rfl 1 rfl ?_
  refine v_iload_n dX12_tied_2 rfl 2 rfl ?_
  refine x_inv (cv := cI) (As := [.int v1, .int v2]) (rest := []) (ls2 := [(0, .ref v0), (1, .int v1), (2, .int v2)]) (ci := 11) (by omega) dX12_tied_3 ke_X12_noThing kv_X12_144 rfl rfl (by decide) (Nat.le_of_ble_eq_true rfl) rfl rfl rfl rfl h (fun _ hq => s_X12_noThing (by omega) hq) (fun x2 M1 h => ?_)
  refine x_if_ne (tgt := 18) dX12_tied_6 (by decide) h (fun h => ?_) (fun h => ?_)
  · refine v_aload_n dX12_tied_9 rfl 0 rfl ?_
    refine v_iload_n dX12_tied_10 rfl 1 rfl ?_
    refine v_iload_n dX12_tied_11 rfl 3 rfl ?_
    refine x_inv (cv := cI) (As := [.int v1, .int v3]) (rest := []) (ls2 := [(0, .ref v0), (1, .int v1), (2, .int v3)]) (ci := 11) (by omega) dX12_tied_12 ke_X12_noThing kv_X12_144 rfl rfl (by decide) (Nat.le_of_ble_eq_true rfl) rfl rfl rfl rfl h (fun _ hq => s_X12_noThing (by omega) hq) (fun x4 M3 h => ?_)
    refine x_if_eq (tgt := 22) dX12_tied_15 (by decide) h (fun h => ?_) (fun h => ?_)
    · refine v_aload_n dX12_tied_22 rfl 0 rfl ?_
      refine v_iload_n dX12_tied_23 rfl 1 rfl ?_
      refine v_iload_n dX12_tied_24 rfl 2 rfl ?_
      refine v_iload_n dX12_tied_25 rfl 3 rfl ?_
      refine x_inv (cv := cI) (As := [.int v1, .int v2, .int v3]) (rest := []) (ls2 := [(0, .ref v0), (1, .int v1), (2, .int v2), (3, .int v3)]) (ci := 11) (by omega) dX12_tied_26 ke_X12_isTied kv_X12_152 rfl rfl (by decide) (Nat.le_of_ble_eq_true rfl) rfl rfl rfl rfl h (fun _ hq => s_X12_isTied (by omega) hq) (fun x6 M5 h => ?_)
      refine x_if_eq (tgt := 36) dX12_tied_29 (by decide) h (fun h => ?_) (fun h => ?_)
      · refine v_iconst dX12_tied_36 ic_0 ?_
        exact x_iret dX12_tied_37 rfl h
      · refine v_iconst dX12_tied_32 ic_1 ?_
        refine v_goto (tgt := 37) dX12_tied_33 (by decide) ?_
        exact x_iret dX12_tied_37 rfl h
    · exact V.pick [] rfl (t_X12_tied_18 hd_ h)
  · exact V.pick [] rfl (t_X12_tied_18 hd_ h)
def j_X12_told_61 (k40 : Nat → Int32 → Int32 → jM → jO Int32) (v0 : Nat) (v3 : Int32) (s0 : Int32) (s1 : Int32) (M : jM) : jO Int32 :=
  (jv (s0 + s1)).bind fun y1 =>
  k40 v0 y1 (v3 + (nI 1)) M
theorem t_X12_told_61 {G : jG} {d : Nat} (hd_ : 0 ≤ d) {k40 : Nat → Int32 → Int32 → jM → jO Int32} (hk40 : ∀ (w0 : Nat) (w2 : Int32) (w3 : Int32) (M : jM) (b : Int32 × jM), k40 w0 w2 w3 M = some b → V G m_X12_told d 40 [(0, .ref w0), (2, .int w2), (3, .int w3)] [] M (jQb cI b)) {v0 : Nat} {v3 : Int32} {s0 : Int32} {s1 : Int32} {M : jM} {b : Int32 × jM} (h : j_X12_told_61 k40 v0 v3 s0 s1 M = some b) : V G m_X12_told d 61 [(0, .ref v0), (3, .int v3)] [.int s1, .int s0] M (jQb cI b) := by
  unfold j_X12_told_61 at h
  refine v_iadd dX12_told_61 ?_
  refine x_jvI h (fun y1 h => ?_)
  refine v_istore_n (ls2 := [(2, .int y1), (0, .ref v0), (3, .int v3)]) dX12_told_62 rfl (by decide) rfl ?_
  refine v_iincC (ls2 := [(3, .int (v3 + (nI 1))), (2, .int y1), (0, .ref v0)]) dX12_told_63 ic_1 2 rfl (by decide) rfl ?_
  refine v_goto (tgt := 40) dX12_told_66 (by decide) ?_
  exact V.pick [2, 1, 0] rfl (hk40 _ _ _ _ _ h)
def b_X12_told_40  (k40 : Nat → Int32 → Int32 → jM → jO Int32) (v0 : Nat) (v2 : Int32) (v3 : Int32) (M : jM) : jO Int32 :=
  if (nI 6) ≤ v3 then
    rt v2 M
  else
    (gR 11 M v0 0).bind fun r1 =>
    (ldI M r1 v3).bind fun x2 =>
    if x2 ≤ 0 then
      j_X12_told_61 k40 v0 v3 v2 (nI 0) M
    else
      j_X12_told_61 k40 v0 v3 v2 (nI 1) M
def l_X12_told_40  : Nat → Nat → Int32 → Int32 → jM → jO Int32
  | 0 => fun _ _ _ _ => none
  | n + 1 => b_X12_told_40  (l_X12_told_40  n)
theorem tb_X12_told_40 {G : jG} {d : Nat} (hd_ : 0 ≤ d)  {k40 : Nat → Int32 → Int32 → jM → jO Int32} (hk40 : ∀ (w0 : Nat) (w2 : Int32) (w3 : Int32) (M : jM) (b : Int32 × jM), k40 w0 w2 w3 M = some b → V G m_X12_told d 40 [(0, .ref w0), (2, .int w2), (3, .int w3)] [] M (jQb cI b)) {v0 : Nat} {v2 : Int32} {v3 : Int32} {M : jM} {b : Int32 × jM} (h : b_X12_told_40  k40 v0 v2 v3 M = some b) : V G m_X12_told d 40 [(0, .ref v0), (2, .int v2), (3, .int v3)] [] M (jQb cI b) := by
  unfold b_X12_told_40 at h
  refine v_iload_n dX12_told_40 rfl 2 rfl ?_
  refine v_bipush dX12_told_41 bp_6 ?_
  refine x_ic_ge (tgt := 69) dX12_told_43 (by decide) h (fun h => ?_) (fun h => ?_)
  · refine v_iload_n dX12_told_69 rfl 1 rfl ?_
    exact x_iret dX12_told_70 rfl h
  · refine v_iload_n dX12_told_46 rfl 1 rfl ?_
    refine v_aload_n dX12_told_47 rfl 0 rfl ?_
    refine x_gR dX12_told_48 kf_X12_7 rfl h (fun r1 h => ?_)
    refine v_iload_n dX12_told_51 rfl 2 rfl ?_
    refine x_ldI dX12_told_52 h (fun x2 h => ?_)
    refine x_if_le (tgt := 60) dX12_told_53 (by decide) h (fun h => ?_) (fun h => ?_)
    · refine v_iconst dX12_told_60 ic_0 ?_
      exact V.pick [0, 2] rfl (t_X12_told_61 hd_ hk40 h)
    · refine v_iconst dX12_told_56 ic_1 ?_
      refine v_goto (tgt := 61) dX12_told_57 (by decide) ?_
      exact V.pick [0, 2] rfl (t_X12_told_61 hd_ hk40 h)
theorem t_X12_told_40 {G : jG} {d : Nat} (hd_ : 0 ≤ d)  : ∀ (n : Nat) (v0 : Nat) (v2 : Int32) (v3 : Int32) (M : jM) (b : Int32 × jM), l_X12_told_40  n v0 v2 v3 M = some b → V G m_X12_told d 40 [(0, .ref v0), (2, .int v2), (3, .int v3)] [] M (jQb cI b) := by
  intro n
  induction n with
  | zero => intro v0 v2 v3 M b h; exact nomatch (show (none : jO Int32) = some b from h)
  | succ n ih => intro v0 v2 v3 M b h; exact tb_X12_told_40 hd_  ih h
def f_X12_told (v0 : Nat) (v1 : Int32) (M : jM) : jO Int32 :=
  if v1 = (nI 0) then
    l_X12_told_40 jF0 v0 (nI 0) (nI 0) M
  else
  if v1 = (nI 1) then
    (gI 11 M v0 17).bind fun x1 =>
    rt x1 M
  else
  if v1 = (nI 2) then
    (gI 11 M v0 28).bind fun x2 =>
    rt x2 M
  else
  if v1 = (nI 3) then
    (gI 11 M v0 48).bind fun x3 =>
    rt x3 M
  else
  if v1 = (nI 4) then
    (gI 11 M v0 51).bind fun x4 =>
    if 0 ≤ x4 then
      (gI 11 M v0 52).bind fun x5 =>
      rt x5 M
    else
      rt (nI 0) M
  else
    rt (-2 : Int32) M
theorem s_X12_told {G : jG} {d : Nat} (hd_ : 0 ≤ d) {v0 : Nat} {v1 : Int32} {M : jM} {b : Int32 × jM} (h : f_X12_told  v0 v1 M = some b) : V G m_X12_told d 0 [(0, .ref v0), (1, .int v1)] [] M (jQb cI b) := by
  unfold f_X12_told at h
  refine v_iload_n dX12_told_0 rfl 1 rfl ?_
  rcases x_br h with ⟨hc, h⟩ | ⟨hc0, h⟩
  · refine v_table (off := 35) (tgt := 36) dX12_told_1 (by decide) (by rw [hc]; decide +kernel) (by decide) ?_
    refine v_iconst dX12_told_36 ic_0 ?_
    refine v_istore_n (ls2 := [(2, .int (nI 0)), (0, .ref v0), (1, .int v1)]) dX12_told_37 rfl (by decide) rfl ?_
    refine v_iconst dX12_told_38 ic_0 ?_
    refine v_istore_n (ls2 := [(3, .int (nI 0)), (2, .int (nI 0)), (0, .ref v0), (1, .int v1)]) dX12_told_39 rfl (by decide) rfl ?_
    exact V.pick [2, 1, 0] rfl (t_X12_told_40 hd_ _ _ _ _ _ _ h)
  rcases x_br h with ⟨hc, h⟩ | ⟨hc1, h⟩
  · refine v_table (off := 70) (tgt := 71) dX12_told_1 (by decide) (by rw [hc]; decide +kernel) (by decide) ?_
    refine v_aload_n dX12_told_71 rfl 0 rfl ?_
    refine x_gI dX12_told_72 kf_X12_290 rfl h (fun x1 h => ?_)
    exact x_iret dX12_told_75 rfl h
  rcases x_br h with ⟨hc, h⟩ | ⟨hc2, h⟩
  · refine v_table (off := 75) (tgt := 76) dX12_told_1 (by decide) (by rw [hc]; decide +kernel) (by decide) ?_
    refine v_aload_n dX12_told_76 rfl 0 rfl ?_
    refine x_gI dX12_told_77 kf_X12_231 rfl h (fun x2 h => ?_)
    exact x_iret dX12_told_80 rfl h
  rcases x_br h with ⟨hc, h⟩ | ⟨hc3, h⟩
  · refine v_table (off := 80) (tgt := 81) dX12_told_1 (by decide) (by rw [hc]; decide +kernel) (by decide) ?_
    refine v_aload_n dX12_told_81 rfl 0 rfl ?_
    refine x_gI dX12_told_82 kf_X12_380 rfl h (fun x3 h => ?_)
    exact x_iret dX12_told_85 rfl h
  rcases x_br h with ⟨hc, h⟩ | ⟨hc4, h⟩
  · refine v_table (off := 85) (tgt := 86) dX12_told_1 (by decide) (by rw [hc]; decide +kernel) (by decide) ?_
    refine v_aload_n dX12_told_86 rfl 0 rfl ?_
    refine x_gI dX12_told_87 kf_X12_130 rfl h (fun x4 h => ?_)
    refine x_if_ge (tgt := 97) dX12_told_90 (by decide) h (fun h => ?_) (fun h => ?_)
    · refine v_aload_n dX12_told_97 rfl 0 rfl ?_
      refine x_gI dX12_told_98 kf_X12_383 rfl h (fun x5 h => ?_)
      exact x_iret dX12_told_101 rfl h
    · refine v_iconst dX12_told_93 ic_0 ?_
      refine v_goto (tgt := 101) dX12_told_94 (by decide) ?_
      exact x_iret dX12_told_101 rfl h
  have he0 := x_ne hc0 (z := 0) (by decide +kernel)
  have he1 := x_ne hc1 (z := 1) (by decide +kernel)
  have he2 := x_ne hc2 (z := 2) (by decide +kernel)
  have he3 := x_ne hc3 (z := 3) (by decide +kernel)
  have he4 := x_ne hc4 (z := 4) (by decide +kernel)
  have hj_ : jtab (101) (0) (4) #[35, 70, 75, 80, 85] (v1).toInt = 101 := by
    unfold jtab
    split
    · rfl
    · exfalso; omega
  refine v_table (off := 101) (tgt := 102) dX12_told_1 (by decide) hj_ (by decide) ?_
  refine v_bipush dX12_told_102 bp_m2 ?_
  exact x_iret dX12_told_104 rfl h
def f_X12_trim (v0 : Nat) (v1 : Int32) (M : jM) : jO Int32 :=
  (gI 11 M v0 28).bind fun x1 =>
  jb2 (f_X12_in v1 (nI 0) x1 M) fun x3 M2 =>
  if x3 = 0 then
    rt (-2 : Int32) M2
  else
    (pI 11 M2 v0 28 v1).bind fun M4 =>
    rt v1 M4
theorem s_X12_trim {G : jG} {d : Nat} (hd_ : 1 ≤ d) {v0 : Nat} {v1 : Int32} {M : jM} {b : Int32 × jM} (h : f_X12_trim  v0 v1 M = some b) : V G m_X12_trim d 0 [(0, .ref v0), (1, .int v1)] [] M (jQb cI b) := by
  unfold f_X12_trim at h
  refine v_iload_n dX12_trim_0 rfl 1 rfl ?_
  refine v_iconst dX12_trim_1 ic_0 ?_
  refine v_aload_n dX12_trim_2 rfl 0 rfl ?_
  refine x_gI dX12_trim_3 kf_X12_231 rfl h (fun x1 h => ?_)
  refine x_invs (cv := cI) (As := [.int v1, .int (nI 0), .int x1]) (rest := []) (ls2 := [(0, .int v1), (1, .int (nI 0)), (2, .int x1)]) (by omega) dX12_trim_6 ke_X12_in ks_X12_133 (Nat.le_of_ble_eq_true rfl) rfl rfl rfl rfl h (fun _ hq => s_X12_in (by omega) hq) (fun x3 M2 h => ?_)
  refine x_if_ne (tgt := 15) dX12_trim_9 (by decide) h (fun h => ?_) (fun h => ?_)
  · refine v_bipush dX12_trim_12 bp_m2 ?_
    exact x_iret dX12_trim_14 rfl h
  · refine v_aload_n dX12_trim_15 rfl 0 rfl ?_
    refine v_iload_n dX12_trim_16 rfl 1 rfl ?_
    refine x_pI dX12_trim_17 kf_X12_231 rfl (fun q => Bool.noConfusion q) h (fun M4 h => ?_)
    refine v_iload_n dX12_trim_20 rfl 1 rfl ?_
    exact x_iret dX12_trim_21 rfl h
def f_X12_turned (v0 : Int32) (v1 : Int32) (v2 : Int32) (M : jM) : jO Int32 :=
  if v0 = v1 then
    rt v2 M
  else
    if v0 = v2 then
      rt v1 M
    else
      rt v0 M
theorem s_X12_turned {G : jG} {d : Nat} (hd_ : 0 ≤ d) {v0 : Int32} {v1 : Int32} {v2 : Int32} {M : jM} {b : Int32 × jM} (h : f_X12_turned  v0 v1 v2 M = some b) : V G m_X12_turned d 0 [(0, .int v0), (1, .int v1), (2, .int v2)] [] M (jQb cI b) := by
  unfold f_X12_turned at h
  refine v_iload_n dX12_turned_0 rfl 0 rfl ?_
  refine v_iload_n dX12_turned_1 rfl 1 rfl ?_
  refine x_ic_ne (tgt := 9) dX12_turned_2 (by decide) h (fun h => ?_) (fun h => ?_)
  · refine v_iload_n dX12_turned_5 rfl 2 rfl ?_
    refine v_goto (tgt := 19) dX12_turned_6 (by decide) ?_
    exact x_iret dX12_turned_19 rfl h
  · refine v_iload_n dX12_turned_9 rfl 0 rfl ?_
    refine v_iload_n dX12_turned_10 rfl 2 rfl ?_
    refine x_ic_ne (tgt := 18) dX12_turned_11 (by decide) h (fun h => ?_) (fun h => ?_)
    · refine v_iload_n dX12_turned_14 rfl 1 rfl ?_
      refine v_goto (tgt := 19) dX12_turned_15 (by decide) ?_
      exact x_iret dX12_turned_19 rfl h
    · refine v_iload_n dX12_turned_18 rfl 0 rfl ?_
      exact x_iret dX12_turned_19 rfl h
def j_X12_turn_125 (k31 : Nat → Int32 → Int32 → Int32 → Int32 → Int32 → jM → jO Int32) (k81 : Nat → Int32 → Int32 → Int32 → Int32 → Int32 → Int32 → Int32 → jM → jO Int32) (v0 : Nat) (v1 : Int32) (v2 : Int32) (v3 : Int32) (v4 : Int32) (v5 : Int32) (v6 : Int32) (v7 : Int32) (s0 : Nat) (s1 : Int32) (s2 : Int32) (s3 : Int32) (M : jM) : jO Int32 :=
  (stI M s0 s1 (s2 ||| s3)).bind fun M1 =>
  k81 v0 v1 v2 v3 v4 v5 v6 (v7 + (nI 1)) M1
theorem t_X12_turn_125 {G : jG} {d : Nat} (hd_ : 4 ≤ d) {k31 : Nat → Int32 → Int32 → Int32 → Int32 → Int32 → jM → jO Int32} (hk31 : ∀ (w0 : Nat) (w1 : Int32) (w2 : Int32) (w3 : Int32) (w4 : Int32) (w5 : Int32) (M : jM) (b : Int32 × jM), k31 w0 w1 w2 w3 w4 w5 M = some b → V G m_X12_turn d 31 [(0, .ref w0), (1, .int w1), (2, .int w2), (3, .int w3), (4, .int w4), (5, .int w5)] [] M (jQb cI b)) {k81 : Nat → Int32 → Int32 → Int32 → Int32 → Int32 → Int32 → Int32 → jM → jO Int32} (hk81 : ∀ (w0 : Nat) (w1 : Int32) (w2 : Int32) (w3 : Int32) (w4 : Int32) (w5 : Int32) (w6 : Int32) (w7 : Int32) (M : jM) (b : Int32 × jM), k81 w0 w1 w2 w3 w4 w5 w6 w7 M = some b → V G m_X12_turn d 81 [(0, .ref w0), (1, .int w1), (2, .int w2), (3, .int w3), (4, .int w4), (5, .int w5), (6, .int w6), (7, .int w7)] [] M (jQb cI b)) {v0 : Nat} {v1 : Int32} {v2 : Int32} {v3 : Int32} {v4 : Int32} {v5 : Int32} {v6 : Int32} {v7 : Int32} {s0 : Nat} {s1 : Int32} {s2 : Int32} {s3 : Int32} {M : jM} {b : Int32 × jM} (h : j_X12_turn_125 k31 k81 v0 v1 v2 v3 v4 v5 v6 v7 s0 s1 s2 s3 M = some b) : V G m_X12_turn d 125 [(0, .ref v0), (1, .int v1), (2, .int v2), (3, .int v3), (4, .int v4), (5, .int v5), (6, .int v6), (7, .int v7)] [.int s3, .int s2, .int s1, .ref s0] M (jQb cI b) := by
  unfold j_X12_turn_125 at h
  refine v_ior dX12_turn_125 ?_
  refine x_stI dX12_turn_126 h (fun M1 h => ?_)
  refine v_iincC (ls2 := [(7, .int (v7 + (nI 1))), (0, .ref v0), (1, .int v1), (2, .int v2), (3, .int v3), (4, .int v4), (5, .int v5), (6, .int v6)]) dX12_turn_127 ic_1 7 rfl (by decide) rfl ?_
  refine v_goto (tgt := 81) dX12_turn_130 (by decide) ?_
  exact V.pick [1, 2, 3, 4, 5, 6, 7, 0] rfl (hk81 _ _ _ _ _ _ _ _ _ _ h)
def b_X12_turn_81 (k31 : Nat → Int32 → Int32 → Int32 → Int32 → Int32 → jM → jO Int32) (k81 : Nat → Int32 → Int32 → Int32 → Int32 → Int32 → Int32 → Int32 → jM → jO Int32) (v0 : Nat) (v1 : Int32) (v2 : Int32) (v3 : Int32) (v4 : Int32) (v5 : Int32) (v6 : Int32) (v7 : Int32) (M : jM) : jO Int32 :=
  (gR 11 M v0 0).bind fun r1 =>
  (ldI M r1 v1).bind fun x2 =>
  if x2 ≤ v7 then
    k31 v0 v1 v2 v3 v4 (v5 + (nI 1)) M
  else
    (gR 11 M v0 4).bind fun r3 =>
    (ldI M r3 v5).bind fun x4 =>
    jb2 (f_X12_turned v7 v2 v3 M) fun x6 M5 =>
    jb2 (jiv 11 M5 v0 (f_X12_isTied v0 v1 v6 x6 M5)) fun x8 M7 =>
    if x8 = 0 then
      j_X12_turn_125 k31 k81 v0 v1 v2 v3 v4 v5 v6 v7 r3 v5 x4 (nI 0) M7
    else
      j_X12_turn_125 k31 k81 v0 v1 v2 v3 v4 v5 v6 v7 r3 v5 x4 ((nI 1) <<< (v7 &&& 31)) M7
def l_X12_turn_81 (k31 : Nat → Int32 → Int32 → Int32 → Int32 → Int32 → jM → jO Int32) : Nat → Nat → Int32 → Int32 → Int32 → Int32 → Int32 → Int32 → Int32 → jM → jO Int32
  | 0 => fun _ _ _ _ _ _ _ _ _ => none
  | n + 1 => b_X12_turn_81 k31 (l_X12_turn_81 k31 n)
theorem tb_X12_turn_81 {G : jG} {d : Nat} (hd_ : 4 ≤ d) {k31 : Nat → Int32 → Int32 → Int32 → Int32 → Int32 → jM → jO Int32} (hk31 : ∀ (w0 : Nat) (w1 : Int32) (w2 : Int32) (w3 : Int32) (w4 : Int32) (w5 : Int32) (M : jM) (b : Int32 × jM), k31 w0 w1 w2 w3 w4 w5 M = some b → V G m_X12_turn d 31 [(0, .ref w0), (1, .int w1), (2, .int w2), (3, .int w3), (4, .int w4), (5, .int w5)] [] M (jQb cI b)) {k81 : Nat → Int32 → Int32 → Int32 → Int32 → Int32 → Int32 → Int32 → jM → jO Int32} (hk81 : ∀ (w0 : Nat) (w1 : Int32) (w2 : Int32) (w3 : Int32) (w4 : Int32) (w5 : Int32) (w6 : Int32) (w7 : Int32) (M : jM) (b : Int32 × jM), k81 w0 w1 w2 w3 w4 w5 w6 w7 M = some b → V G m_X12_turn d 81 [(0, .ref w0), (1, .int w1), (2, .int w2), (3, .int w3), (4, .int w4), (5, .int w5), (6, .int w6), (7, .int w7)] [] M (jQb cI b)) {v0 : Nat} {v1 : Int32} {v2 : Int32} {v3 : Int32} {v4 : Int32} {v5 : Int32} {v6 : Int32} {v7 : Int32} {M : jM} {b : Int32 × jM} (h : b_X12_turn_81 k31 k81 v0 v1 v2 v3 v4 v5 v6 v7 M = some b) : V G m_X12_turn d 81 [(0, .ref v0), (1, .int v1), (2, .int v2), (3, .int v3), (4, .int v4), (5, .int v5), (6, .int v6), (7, .int v7)] [] M (jQb cI b) := by
  unfold b_X12_turn_81 at h
  refine v_iload dX12_turn_81 7 rfl ?_
  refine v_aload_n dX12_turn_83 rfl 0 rfl ?_
  refine x_gR dX12_turn_84 kf_X12_7 rfl h (fun r1 h => ?_)
  refine v_iload_n dX12_turn_87 rfl 1 rfl ?_
  refine x_ldI dX12_turn_88 h (fun x2 h => ?_)
  refine x_ic_ge (tgt := 133) dX12_turn_89 (by decide) h (fun h => ?_) (fun h => ?_)
  · refine v_iincC (ls2 := [(5, .int (v5 + (nI 1))), (0, .ref v0), (1, .int v1), (2, .int v2), (3, .int v3), (4, .int v4), (6, .int v6), (7, .int v7)]) dX12_turn_133 ic_1 5 rfl (by decide) rfl ?_
    refine v_goto (tgt := 31) dX12_turn_136 (by decide) ?_
    exact V.pick [1, 2, 3, 4, 5, 0] rfl (hk31 _ _ _ _ _ _ _ _ h)
  · refine v_aload_n dX12_turn_92 rfl 0 rfl ?_
    refine x_gR dX12_turn_93 kf_X12_22 rfl h (fun r3 h => ?_)
    refine v_iload dX12_turn_96 5 rfl ?_
    refine v_dup2 dX12_turn_98 rfl rfl ?_
    refine x_ldI dX12_turn_99 h (fun x4 h => ?_)
    refine v_aload_n dX12_turn_100 rfl 0 rfl ?_
    refine v_iload_n dX12_turn_101 rfl 1 rfl ?_
    refine v_iload dX12_turn_102 6 rfl ?_
    refine v_iload dX12_turn_104 7 rfl ?_
    refine v_iload_n dX12_turn_106 rfl 2 rfl ?_
    refine v_iload_n dX12_turn_107 rfl 3 rfl ?_
    refine x_invs (cv := cI) (As := [.int v7, .int v2, .int v3]) (rest := [.int v6, .int v1, .ref v0, .int x4, .int v5, .ref r3]) (ls2 := [(0, .int v7), (1, .int v2), (2, .int v3)]) (by omega) dX12_turn_108 ke_X12_turned ks_X12_148 (Nat.le_of_ble_eq_true rfl) rfl rfl rfl rfl h (fun _ hq => s_X12_turned (by omega) hq) (fun x6 M5 h => ?_)
    refine x_inv (cv := cI) (As := [.int v1, .int v6, .int x6]) (rest := [.int x4, .int v5, .ref r3]) (ls2 := [(0, .ref v0), (1, .int v1), (2, .int v6), (3, .int x6)]) (ci := 11) (by omega) dX12_turn_111 ke_X12_isTied kv_X12_152 rfl rfl (by decide) (Nat.le_of_ble_eq_true rfl) rfl rfl rfl rfl h (fun _ hq => s_X12_isTied (by omega) hq) (fun x8 M7 h => ?_)
    refine x_if_eq (tgt := 124) dX12_turn_114 (by decide) h (fun h => ?_) (fun h => ?_)
    · refine v_iconst dX12_turn_124 ic_0 ?_
      exact t_X12_turn_125 hd_ hk31 hk81 h
    · refine v_iconst dX12_turn_117 ic_1 ?_
      refine v_iload dX12_turn_118 7 rfl ?_
      refine v_ishl dX12_turn_120 ?_
      refine v_goto (tgt := 125) dX12_turn_121 (by decide) ?_
      exact t_X12_turn_125 hd_ hk31 hk81 h
theorem t_X12_turn_81 {G : jG} {d : Nat} (hd_ : 4 ≤ d) {k31 : Nat → Int32 → Int32 → Int32 → Int32 → Int32 → jM → jO Int32} (hk31 : ∀ (w0 : Nat) (w1 : Int32) (w2 : Int32) (w3 : Int32) (w4 : Int32) (w5 : Int32) (M : jM) (b : Int32 × jM), k31 w0 w1 w2 w3 w4 w5 M = some b → V G m_X12_turn d 31 [(0, .ref w0), (1, .int w1), (2, .int w2), (3, .int w3), (4, .int w4), (5, .int w5)] [] M (jQb cI b)) : ∀ (n : Nat) (v0 : Nat) (v1 : Int32) (v2 : Int32) (v3 : Int32) (v4 : Int32) (v5 : Int32) (v6 : Int32) (v7 : Int32) (M : jM) (b : Int32 × jM), l_X12_turn_81 k31 n v0 v1 v2 v3 v4 v5 v6 v7 M = some b → V G m_X12_turn d 81 [(0, .ref v0), (1, .int v1), (2, .int v2), (3, .int v3), (4, .int v4), (5, .int v5), (6, .int v6), (7, .int v7)] [] M (jQb cI b) := by
  intro n
  induction n with
  | zero => intro v0 v1 v2 v3 v4 v5 v6 v7 M b h; exact nomatch (show (none : jO Int32) = some b from h)
  | succ n ih => intro v0 v1 v2 v3 v4 v5 v6 v7 M b h; exact tb_X12_turn_81 hd_ hk31 ih h
def b_X12_turn_31  (k31 : Nat → Int32 → Int32 → Int32 → Int32 → Int32 → jM → jO Int32) (v0 : Nat) (v1 : Int32) (v2 : Int32) (v3 : Int32) (v4 : Int32) (v5 : Int32) (M : jM) : jO Int32 :=
  (gR 11 M v0 0).bind fun r1 =>
  (ldI M r1 v1).bind fun x2 =>
  if x2 ≤ v5 then
    (gR 11 M v0 0).bind fun r3 =>
    (ldI M r3 v1).bind fun x4 =>
    jb2 (jiv 11 M v0 (f_X12_lay v0 v4 x4 M)) fun _ M5 =>
    rt (nI 1) M5
  else
    jb2 (f_X12_turned v5 v2 v3 M) fun x7 M6 =>
    (gR 11 M6 v0 3).bind fun r8 =>
    (gR 11 M6 v0 1).bind fun r9 =>
    (ldI M6 r9 (((nI 6) * v1) + x7)).bind fun x10 =>
    (stI M6 r8 v5 x10).bind fun M11 =>
    (gR 11 M11 v0 4).bind fun r12 =>
    (stI M11 r12 v5 (nI 0)).bind fun M13 =>
    l_X12_turn_81 k31 jF0 v0 v1 v2 v3 v4 v5 x7 (nI 0) M13
def l_X12_turn_31  : Nat → Nat → Int32 → Int32 → Int32 → Int32 → Int32 → jM → jO Int32
  | 0 => fun _ _ _ _ _ _ _ => none
  | n + 1 => b_X12_turn_31  (l_X12_turn_31  n)
theorem tb_X12_turn_31 {G : jG} {d : Nat} (hd_ : 4 ≤ d)  {k31 : Nat → Int32 → Int32 → Int32 → Int32 → Int32 → jM → jO Int32} (hk31 : ∀ (w0 : Nat) (w1 : Int32) (w2 : Int32) (w3 : Int32) (w4 : Int32) (w5 : Int32) (M : jM) (b : Int32 × jM), k31 w0 w1 w2 w3 w4 w5 M = some b → V G m_X12_turn d 31 [(0, .ref w0), (1, .int w1), (2, .int w2), (3, .int w3), (4, .int w4), (5, .int w5)] [] M (jQb cI b)) {v0 : Nat} {v1 : Int32} {v2 : Int32} {v3 : Int32} {v4 : Int32} {v5 : Int32} {M : jM} {b : Int32 × jM} (h : b_X12_turn_31  k31 v0 v1 v2 v3 v4 v5 M = some b) : V G m_X12_turn d 31 [(0, .ref v0), (1, .int v1), (2, .int v2), (3, .int v3), (4, .int v4), (5, .int v5)] [] M (jQb cI b) := by
  unfold b_X12_turn_31 at h
  refine v_iload dX12_turn_31 5 rfl ?_
  refine v_aload_n dX12_turn_33 rfl 0 rfl ?_
  refine x_gR dX12_turn_34 kf_X12_7 rfl h (fun r1 h => ?_)
  refine v_iload_n dX12_turn_37 rfl 1 rfl ?_
  refine x_ldI dX12_turn_38 h (fun x2 h => ?_)
  refine x_ic_ge (tgt := 139) dX12_turn_39 (by decide) h (fun h => ?_) (fun h => ?_)
  · refine v_aload_n dX12_turn_139 rfl 0 rfl ?_
    refine v_iload dX12_turn_140 4 rfl ?_
    refine v_aload_n dX12_turn_142 rfl 0 rfl ?_
    refine x_gR dX12_turn_143 kf_X12_7 rfl h (fun r3 h => ?_)
    refine v_iload_n dX12_turn_146 rfl 1 rfl ?_
    refine x_ldI dX12_turn_147 h (fun x4 h => ?_)
    refine x_inv (cv := cU) (As := [.int v4, .int x4]) (rest := []) (ls2 := [(0, .ref v0), (1, .int v4), (2, .int x4)]) (ci := 11) (by omega) dX12_turn_148 ke_X12_lay kv_X12_155 rfl rfl (by decide) (Nat.le_of_ble_eq_true rfl) rfl rfl rfl rfl h (fun _ hq => s_X12_lay (by omega) hq) (fun _ M5 h => ?_)
    refine v_iconst dX12_turn_151 ic_1 ?_
    exact x_iret dX12_turn_152 rfl h
  · refine v_iload dX12_turn_42 5 rfl ?_
    refine v_iload_n dX12_turn_44 rfl 2 rfl ?_
    refine v_iload_n dX12_turn_45 rfl 3 rfl ?_
    refine x_invs (cv := cI) (As := [.int v5, .int v2, .int v3]) (rest := []) (ls2 := [(0, .int v5), (1, .int v2), (2, .int v3)]) (by omega) dX12_turn_46 ke_X12_turned ks_X12_148 (Nat.le_of_ble_eq_true rfl) rfl rfl rfl rfl h (fun _ hq => s_X12_turned (by omega) hq) (fun x7 M6 h => ?_)
    refine v_istore (ls2 := [(6, .int x7), (0, .ref v0), (1, .int v1), (2, .int v2), (3, .int v3), (4, .int v4), (5, .int v5)]) dX12_turn_49 (by decide) rfl ?_
    refine v_aload_n dX12_turn_51 rfl 1 rfl ?_
    refine x_gR dX12_turn_52 kf_X12_19 rfl h (fun r8 h => ?_)
    refine v_iload dX12_turn_55 6 rfl ?_
    refine v_aload_n dX12_turn_57 rfl 1 rfl ?_
    refine x_gR dX12_turn_58 kf_X12_13 rfl h (fun r9 h => ?_)
    refine v_bipush dX12_turn_61 bp_6 ?_
    refine v_iload_n dX12_turn_63 rfl 2 rfl ?_
    refine v_imul dX12_turn_64 ?_
    refine v_iload dX12_turn_65 0 rfl ?_
    refine v_iadd dX12_turn_67 ?_
    refine x_ldI dX12_turn_68 h (fun x10 h => ?_)
    refine x_stI dX12_turn_69 h (fun M11 h => ?_)
    refine v_aload_n dX12_turn_70 rfl 1 rfl ?_
    refine x_gR dX12_turn_71 kf_X12_22 rfl h (fun r12 h => ?_)
    refine v_iload dX12_turn_74 6 rfl ?_
    refine v_iconst dX12_turn_76 ic_0 ?_
    refine x_stI dX12_turn_77 h (fun M13 h => ?_)
    refine v_iconst dX12_turn_78 ic_0 ?_
    refine v_istore (ls2 := [(7, .int (nI 0)), (6, .int x7), (0, .ref v0), (1, .int v1), (2, .int v2), (3, .int v3), (4, .int v4), (5, .int v5)]) dX12_turn_79 (by decide) rfl ?_
    exact V.pick [2, 3, 4, 5, 6, 7, 1, 0] rfl (t_X12_turn_81 hd_ hk31 _ _ _ _ _ _ _ _ _ _ _ h)
theorem t_X12_turn_31 {G : jG} {d : Nat} (hd_ : 4 ≤ d)  : ∀ (n : Nat) (v0 : Nat) (v1 : Int32) (v2 : Int32) (v3 : Int32) (v4 : Int32) (v5 : Int32) (M : jM) (b : Int32 × jM), l_X12_turn_31  n v0 v1 v2 v3 v4 v5 M = some b → V G m_X12_turn d 31 [(0, .ref v0), (1, .int v1), (2, .int v2), (3, .int v3), (4, .int v4), (5, .int v5)] [] M (jQb cI b) := by
  intro n
  induction n with
  | zero => intro v0 v1 v2 v3 v4 v5 M b h; exact nomatch (show (none : jO Int32) = some b from h)
  | succ n ih => intro v0 v1 v2 v3 v4 v5 M b h; exact tb_X12_turn_31 hd_  ih h
def f_X12_turn (v0 : Nat) (v1 : Int32) (v2 : Int32) (v3 : Int32) (v4 : Int32) (M : jM) : jO Int32 :=
  jb2 (jiv 11 M v0 (f_X12_noThing v0 v1 v2 M)) fun x2 M1 =>
  if x2 = 0 then
    jb2 (jiv 11 M1 v0 (f_X12_noThing v0 v1 v3 M1)) fun x4 M3 =>
    if x4 = 0 then
      jb2 (f_X12_noPlace v4 M3) fun x6 M5 =>
      if x6 = 0 then
        l_X12_turn_31 jF0 v0 v1 v2 v3 v4 (nI 0) M5
      else
        rt (-1 : Int32) M5
    else
      rt (-1 : Int32) M3
  else
    rt (-1 : Int32) M1
theorem s_X12_turn {G : jG} {d : Nat} (hd_ : 4 ≤ d) {v0 : Nat} {v1 : Int32} {v2 : Int32} {v3 : Int32} {v4 : Int32} {M : jM} {b : Int32 × jM} (h : f_X12_turn  v0 v1 v2 v3 v4 M = some b) : V G m_X12_turn d 0 [(0, .ref v0), (1, .int v1), (2, .int v2), (3, .int v3), (4, .int v4)] [] M (jQb cI b) := by
  unfold f_X12_turn at h
  refine v_aload_n dX12_turn_0 rfl 0 rfl ?_
  refine v_iload_n dX12_turn_1 rfl 1 rfl ?_
  refine v_iload_n dX12_turn_2 rfl 2 rfl ?_
  refine x_inv (cv := cI) (As := [.int v1, .int v2]) (rest := []) (ls2 := [(0, .ref v0), (1, .int v1), (2, .int v2)]) (ci := 11) (by omega) dX12_turn_3 ke_X12_noThing kv_X12_144 rfl rfl (by decide) (Nat.le_of_ble_eq_true rfl) rfl rfl rfl rfl h (fun _ hq => s_X12_noThing (by omega) hq) (fun x2 M1 h => ?_)
  refine x_if_ne (tgt := 26) dX12_turn_6 (by decide) h (fun h => ?_) (fun h => ?_)
  · refine v_aload_n dX12_turn_9 rfl 0 rfl ?_
    refine v_iload_n dX12_turn_10 rfl 1 rfl ?_
    refine v_iload_n dX12_turn_11 rfl 3 rfl ?_
    refine x_inv (cv := cI) (As := [.int v1, .int v3]) (rest := []) (ls2 := [(0, .ref v0), (1, .int v1), (2, .int v3)]) (ci := 11) (by omega) dX12_turn_12 ke_X12_noThing kv_X12_144 rfl rfl (by decide) (Nat.le_of_ble_eq_true rfl) rfl rfl rfl rfl h (fun _ hq => s_X12_noThing (by omega) hq) (fun x4 M3 h => ?_)
    refine x_if_ne (tgt := 26) dX12_turn_15 (by decide) h (fun h => ?_) (fun h => ?_)
    · refine v_iload dX12_turn_18 4 rfl ?_
      refine x_invs (cv := cI) (As := [.int v4]) (rest := []) (ls2 := [(0, .int v4)]) (by omega) dX12_turn_20 ke_X12_noPlace ks_X12_137 (Nat.le_of_ble_eq_true rfl) rfl rfl rfl rfl h (fun _ hq => s_X12_noPlace (by omega) hq) (fun x6 M5 h => ?_)
      refine x_if_eq (tgt := 28) dX12_turn_23 (by decide) h (fun h => ?_) (fun h => ?_)
      · refine v_iconst dX12_turn_28 ic_0 ?_
        refine v_istore (ls2 := [(5, .int (nI 0)), (0, .ref v0), (1, .int v1), (2, .int v2), (3, .int v3), (4, .int v4)]) dX12_turn_29 (by decide) rfl ?_
        exact V.pick [1, 2, 3, 4, 5, 0] rfl (t_X12_turn_31 hd_ _ _ _ _ _ _ _ _ _ h)
      · refine v_iconst dX12_turn_26 ic_m1 ?_
        exact x_iret dX12_turn_27 rfl h
    · refine v_iconst dX12_turn_26 ic_m1 ?_
      exact x_iret dX12_turn_27 rfl h
  · refine v_iconst dX12_turn_26 ic_m1 ?_
    exact x_iret dX12_turn_27 rfl h
def b_X12_world_31  (k31 : Nat → Int32 → Int32 → Int32 → jM → jO Int32) (v0 : Nat) (v1 : Int32) (v2 : Int32) (v3 : Int32) (M : jM) : jO Int32 :=
  if (nI 6) ≤ v3 then
    rt v2 M
  else
    (gR 11 M v0 1).bind fun r1 =>
    (stI M r1 (((nI 6) * v1) + v3) (nI 0)).bind fun M2 =>
    (gR 11 M2 v0 2).bind fun r3 =>
    (stI M2 r3 (((nI 6) * v1) + v3) (nI 0)).bind fun M4 =>
    k31 v0 v1 v2 (v3 + (nI 1)) M4
def l_X12_world_31  : Nat → Nat → Int32 → Int32 → Int32 → jM → jO Int32
  | 0 => fun _ _ _ _ _ => none
  | n + 1 => b_X12_world_31  (l_X12_world_31  n)
theorem tb_X12_world_31 {G : jG} {d : Nat} (hd_ : 2 ≤ d)  {k31 : Nat → Int32 → Int32 → Int32 → jM → jO Int32} (hk31 : ∀ (w0 : Nat) (w1 : Int32) (w2 : Int32) (w3 : Int32) (M : jM) (b : Int32 × jM), k31 w0 w1 w2 w3 M = some b → V G m_X12_world d 31 [(0, .ref w0), (1, .int w1), (2, .int w2), (3, .int w3)] [] M (jQb cI b)) {v0 : Nat} {v1 : Int32} {v2 : Int32} {v3 : Int32} {M : jM} {b : Int32 × jM} (h : b_X12_world_31  k31 v0 v1 v2 v3 M = some b) : V G m_X12_world d 31 [(0, .ref v0), (1, .int v1), (2, .int v2), (3, .int v3)] [] M (jQb cI b) := by
  unfold b_X12_world_31 at h
  refine v_iload_n dX12_world_31 rfl 3 rfl ?_
  refine v_bipush dX12_world_32 bp_6 ?_
  refine x_ic_ge (tgt := 67) dX12_world_34 (by decide) h (fun h => ?_) (fun h => ?_)
  · refine v_iload_n dX12_world_67 rfl 2 rfl ?_
    exact x_iret dX12_world_68 rfl h
  · refine v_aload_n dX12_world_37 rfl 0 rfl ?_
    refine x_gR dX12_world_38 kf_X12_13 rfl h (fun r1 h => ?_)
    refine v_bipush dX12_world_41 bp_6 ?_
    refine v_iload_n dX12_world_43 rfl 1 rfl ?_
    refine v_imul dX12_world_44 ?_
    refine v_iload_n dX12_world_45 rfl 3 rfl ?_
    refine v_iadd dX12_world_46 ?_
    refine v_iconst dX12_world_47 ic_0 ?_
    refine x_stI dX12_world_48 h (fun M2 h => ?_)
    refine v_aload_n dX12_world_49 rfl 0 rfl ?_
    refine x_gR dX12_world_50 kf_X12_16 rfl h (fun r3 h => ?_)
    refine v_bipush dX12_world_53 bp_6 ?_
    refine v_iload_n dX12_world_55 rfl 1 rfl ?_
    refine v_imul dX12_world_56 ?_
    refine v_iload_n dX12_world_57 rfl 3 rfl ?_
    refine v_iadd dX12_world_58 ?_
    refine v_iconst dX12_world_59 ic_0 ?_
    refine x_stI dX12_world_60 h (fun M4 h => ?_)
    refine v_iincC (ls2 := [(3, .int (v3 + (nI 1))), (0, .ref v0), (1, .int v1), (2, .int v2)]) dX12_world_61 ic_1 3 rfl (by decide) rfl ?_
    refine v_goto (tgt := 31) dX12_world_64 (by decide) ?_
    exact V.pick [1, 2, 3, 0] rfl (hk31 _ _ _ _ _ _ h)
theorem t_X12_world_31 {G : jG} {d : Nat} (hd_ : 2 ≤ d)  : ∀ (n : Nat) (v0 : Nat) (v1 : Int32) (v2 : Int32) (v3 : Int32) (M : jM) (b : Int32 × jM), l_X12_world_31  n v0 v1 v2 v3 M = some b → V G m_X12_world d 31 [(0, .ref v0), (1, .int v1), (2, .int v2), (3, .int v3)] [] M (jQb cI b) := by
  intro n
  induction n with
  | zero => intro v0 v1 v2 v3 M b h; exact nomatch (show (none : jO Int32) = some b from h)
  | succ n ih => intro v0 v1 v2 v3 M b h; exact tb_X12_world_31 hd_  ih h
def f_X12_world (v0 : Nat) (v1 : Int32) (v2 : Int32) (M : jM) : jO Int32 :=
  jb2 (f_X12_noPlace v1 M) fun x2 M1 =>
  if x2 = 0 then
    jb2 (f_X12_in v2 (nI 1) (nI 6) M1) fun x4 M3 =>
    if x4 = 0 then
      rt (-2 : Int32) M3
    else
      (gR 11 M3 v0 0).bind fun r5 =>
      (stI M3 r5 v1 v2).bind fun M6 =>
      l_X12_world_31 jF0 v0 v1 v2 (nI 0) M6
  else
    rt (-1 : Int32) M1
theorem s_X12_world {G : jG} {d : Nat} (hd_ : 2 ≤ d) {v0 : Nat} {v1 : Int32} {v2 : Int32} {M : jM} {b : Int32 × jM} (h : f_X12_world  v0 v1 v2 M = some b) : V G m_X12_world d 0 [(0, .ref v0), (1, .int v1), (2, .int v2)] [] M (jQb cI b) := by
  unfold f_X12_world at h
  refine v_iload_n dX12_world_0 rfl 1 rfl ?_
  refine x_invs (cv := cI) (As := [.int v1]) (rest := []) (ls2 := [(0, .int v1)]) (by omega) dX12_world_1 ke_X12_noPlace ks_X12_137 (Nat.le_of_ble_eq_true rfl) rfl rfl rfl rfl h (fun _ hq => s_X12_noPlace (by omega) hq) (fun x2 M1 h => ?_)
  refine x_if_eq (tgt := 9) dX12_world_4 (by decide) h (fun h => ?_) (fun h => ?_)
  · refine v_iload_n dX12_world_9 rfl 2 rfl ?_
    refine v_iconst dX12_world_10 ic_1 ?_
    refine v_bipush dX12_world_11 bp_6 ?_
    refine x_invs (cv := cI) (As := [.int v2, .int (nI 1), .int (nI 6)]) (rest := []) (ls2 := [(0, .int v2), (1, .int (nI 1)), (2, .int (nI 6))]) (by omega) dX12_world_13 ke_X12_in ks_X12_133 (Nat.le_of_ble_eq_true rfl) rfl rfl rfl rfl h (fun _ hq => s_X12_in (by omega) hq) (fun x4 M3 h => ?_)
    refine x_if_ne (tgt := 22) dX12_world_16 (by decide) h (fun h => ?_) (fun h => ?_)
    · refine v_bipush dX12_world_19 bp_m2 ?_
      exact x_iret dX12_world_21 rfl h
    · refine v_aload_n dX12_world_22 rfl 0 rfl ?_
      refine x_gR dX12_world_23 kf_X12_7 rfl h (fun r5 h => ?_)
      refine v_iload_n dX12_world_26 rfl 1 rfl ?_
      refine v_iload_n dX12_world_27 rfl 2 rfl ?_
      refine x_stI dX12_world_28 h (fun M6 h => ?_)
      refine v_iconst dX12_world_29 ic_0 ?_
      refine v_istore_n (ls2 := [(3, .int (nI 0)), (0, .ref v0), (1, .int v1), (2, .int v2)]) dX12_world_30 rfl (by decide) rfl ?_
      exact V.pick [1, 2, 3, 0] rfl (t_X12_world_31 hd_ _ _ _ _ _ _ _ h)
  · refine v_iconst dX12_world_7 ic_m1 ?_
    exact x_iret dX12_world_8 rfl h
def f_X12_written (v0 : Nat) (v1 : Int32) (v2 : Int32) (M : jM) : jO Int32 :=
  jb2 (jiv 11 M v0 (f_X12_noSentence v0 v1 M)) fun x2 M1 =>
  if x2 = 0 then
    jb2 (jiv 11 M1 v0 (f_X12_writeAll v0 v1 M1)) fun _ M3 =>
    (gI 11 M3 v0 42).bind fun x4 =>
    jb2 (f_X12_in v2 (nI 0) (x4 - (nI 1)) M3) fun x6 M5 =>
    if x6 = 0 then
      rt (-1 : Int32) M5
    else
      (gR 11 M5 v0 43).bind fun r7 =>
      (ldB M5 r7 v2).bind fun x8 =>
      rt x8 M5
  else
    rt (-1 : Int32) M1
theorem s_X12_written {G : jG} {d : Nat} (hd_ : 3 ≤ d) {v0 : Nat} {v1 : Int32} {v2 : Int32} {M : jM} {b : Int32 × jM} (h : f_X12_written  v0 v1 v2 M = some b) : V G m_X12_written d 0 [(0, .ref v0), (1, .int v1), (2, .int v2)] [] M (jQb cI b) := by
  unfold f_X12_written at h
  refine v_aload_n dX12_written_0 rfl 0 rfl ?_
  refine v_iload_n dX12_written_1 rfl 1 rfl ?_
  refine x_inv (cv := cI) (As := [.int v1]) (rest := []) (ls2 := [(0, .ref v0), (1, .int v1)]) (ci := 11) (by omega) dX12_written_2 ke_X12_noSentence kv_X12_317 rfl rfl (by decide) (Nat.le_of_ble_eq_true rfl) rfl rfl rfl rfl h (fun _ hq => s_X12_noSentence (by omega) hq) (fun x2 M1 h => ?_)
  refine x_if_eq (tgt := 10) dX12_written_5 (by decide) h (fun h => ?_) (fun h => ?_)
  · refine v_aload_n dX12_written_10 rfl 0 rfl ?_
    refine v_iload_n dX12_written_11 rfl 1 rfl ?_
    refine x_inv (cv := cU) (As := [.int v1]) (rest := []) (ls2 := [(0, .ref v0), (1, .int v1)]) (ci := 11) (by omega) dX12_written_12 ke_X12_writeAll kv_X12_320 rfl rfl (by decide) (Nat.le_of_ble_eq_true rfl) rfl rfl rfl rfl h (fun _ hq => s_X12_writeAll (by omega) hq) (fun _ M3 h => ?_)
    refine v_iload_n dX12_written_15 rfl 2 rfl ?_
    refine v_iconst dX12_written_16 ic_0 ?_
    refine v_aload_n dX12_written_17 rfl 0 rfl ?_
    refine x_gI dX12_written_18 kf_X12_302 rfl h (fun x4 h => ?_)
    refine v_iconst dX12_written_21 ic_1 ?_
    refine v_isub dX12_written_22 ?_
    refine x_invs (cv := cI) (As := [.int v2, .int (nI 0), .int (x4 - (nI 1))]) (rest := []) (ls2 := [(0, .int v2), (1, .int (nI 0)), (2, .int (x4 - (nI 1)))]) (by omega) dX12_written_23 ke_X12_in ks_X12_133 (Nat.le_of_ble_eq_true rfl) rfl rfl rfl rfl h (fun _ hq => s_X12_in (by omega) hq) (fun x6 M5 h => ?_)
    refine x_if_eq (tgt := 38) dX12_written_26 (by decide) h (fun h => ?_) (fun h => ?_)
    · refine v_iconst dX12_written_38 ic_m1 ?_
      exact x_iret dX12_written_39 rfl h
    · refine v_aload_n dX12_written_29 rfl 0 rfl ?_
      refine x_gR dX12_written_30 kf_X12_86 rfl h (fun r7 h => ?_)
      refine v_iload_n dX12_written_33 rfl 2 rfl ?_
      refine x_ldB dX12_written_34 h (fun x8 h => ?_)
      refine v_goto (tgt := 39) dX12_written_35 (by decide) ?_
      exact x_iret dX12_written_39 rfl h
  · refine v_iconst dX12_written_8 ic_m1 ?_
    exact x_iret dX12_written_9 rfl h
def j_L_law_1180 (k18 : Nat → Nat → Nat → Int32 → jM → jO Int32) (v0 : Nat) (v1 : Nat) (v2 : Nat) (v3 : Int32) (M : jM) : jO Int32 :=
  k18 v0 v1 v2 (v3 + (nI 6)) M
theorem t_L_law_1180 {G : jG} {d : Nat} (hd_ : 208 ≤ d) {k18 : Nat → Nat → Nat → Int32 → jM → jO Int32} (hk18 : ∀ (w0 : Nat) (w1 : Nat) (w2 : Nat) (w3 : Int32) (M : jM) (b : Int32 × jM), k18 w0 w1 w2 w3 M = some b → V G m_L_law d 18 [(0, .ref w0), (1, .ref w1), (2, .ref w2), (3, .int w3)] [] M (jQb cI b)) {v0 : Nat} {v1 : Nat} {v2 : Nat} {v3 : Int32} {M : jM} {b : Int32 × jM} (h : j_L_law_1180 k18 v0 v1 v2 v3 M = some b) : V G m_L_law d 1180 [(0, .ref v0), (1, .ref v1), (2, .ref v2), (3, .int v3)] [] M (jQb cI b) := by
  unfold j_L_law_1180 at h
  refine v_iincC (ls2 := [(3, .int (v3 + (nI 6))), (0, .ref v0), (1, .ref v1), (2, .ref v2)]) dL_law_1180 ic_6 3 rfl (by decide) rfl ?_
  refine v_goto (tgt := 18) dL_law_1183 (by decide) ?_
  exact V.pick [1, 2, 3, 0] rfl (hk18 _ _ _ _ _ _ h)
def j_L_law_262 (k18 : Nat → Nat → Nat → Int32 → jM → jO Int32) (v0 : Nat) (v1 : Nat) (v2 : Nat) (v3 : Int32) (s0 : Int32) (s1 : Nat) (s2 : Int32) (s3 : Int32) (s4 : Int32) (s5 : Int32) (M : jM) : jO Int32 :=
  jb2 (jiv 11 M s1 (f_X12_mark s1 s2 s3 s4 s5 M)) fun x2 M1 =>
  if s0 = x2 then
    j_L_law_1180 k18 v0 v1 v2 v3 M1
  else
    rZ (nI 0) M1
theorem t_L_law_262 {G : jG} {d : Nat} (hd_ : 208 ≤ d) {k18 : Nat → Nat → Nat → Int32 → jM → jO Int32} (hk18 : ∀ (w0 : Nat) (w1 : Nat) (w2 : Nat) (w3 : Int32) (M : jM) (b : Int32 × jM), k18 w0 w1 w2 w3 M = some b → V G m_L_law d 18 [(0, .ref w0), (1, .ref w1), (2, .ref w2), (3, .int w3)] [] M (jQb cI b)) {v0 : Nat} {v1 : Nat} {v2 : Nat} {v3 : Int32} {s0 : Int32} {s1 : Nat} {s2 : Int32} {s3 : Int32} {s4 : Int32} {s5 : Int32} {M : jM} {b : Int32 × jM} (h : j_L_law_262 k18 v0 v1 v2 v3 s0 s1 s2 s3 s4 s5 M = some b) : V G m_L_law d 262 [(0, .ref v0), (1, .ref v1), (2, .ref v2), (3, .int v3)] [.int s5, .int s4, .int s3, .int s2, .ref s1, .int s0] M (jQb cI b) := by
  unfold j_L_law_262 at h
  refine x_inv (cv := cI) (As := [.int s2, .int s3, .int s4, .int s5]) (rest := [.int s0]) (ls2 := [(0, .ref s1), (1, .int s2), (2, .int s3), (3, .int s4), (4, .int s5)]) (ci := 11) (by omega) dL_law_262 ke_X12_mark kv_L_22 rfl rfl (by decide) (Nat.le_of_ble_eq_true rfl) rfl rfl rfl rfl h (fun _ hq => s_X12_mark (by omega) hq) (fun x2 M1 h => ?_)
  refine x_ic_eq (tgt := 1180) dL_law_265 (by decide) h (fun h => ?_) (fun h => ?_)
  · exact t_L_law_1180 hd_ hk18 h
  · refine v_iconst dL_law_268 ic_0 ?_
    exact x_zret dL_law_269 rfl h
def j_L_law_230 (k18 : Nat → Nat → Nat → Int32 → jM → jO Int32) (v0 : Nat) (v1 : Nat) (v2 : Nat) (v3 : Int32) (s0 : Nat) (s1 : Int32) (s2 : Int32) (s3 : Int32) (s4 : Int32) (M : jM) : jO Int32 :=
  jb2 (jiv 10 M s0 (f_X11_mark s0 s1 s2 s3 s4 M)) fun x2 M1 =>
  (ldS M1 v0 (v3 + (nI 1))).bind fun x3 =>
  (ldS M1 v0 (v3 + (nI 2))).bind fun x4 =>
  (ldS M1 v0 (v3 + (nI 3))).bind fun x5 =>
  (ldS M1 v0 (v3 + (nI 4))).bind fun x6 =>
  if x6 = 0 then
    j_L_law_262 k18 v0 v1 v2 v3 x2 v2 x3 x4 x5 (nI 0) M1
  else
    j_L_law_262 k18 v0 v1 v2 v3 x2 v2 x3 x4 x5 (nI 1) M1
theorem t_L_law_230 {G : jG} {d : Nat} (hd_ : 208 ≤ d) {k18 : Nat → Nat → Nat → Int32 → jM → jO Int32} (hk18 : ∀ (w0 : Nat) (w1 : Nat) (w2 : Nat) (w3 : Int32) (M : jM) (b : Int32 × jM), k18 w0 w1 w2 w3 M = some b → V G m_L_law d 18 [(0, .ref w0), (1, .ref w1), (2, .ref w2), (3, .int w3)] [] M (jQb cI b)) {v0 : Nat} {v1 : Nat} {v2 : Nat} {v3 : Int32} {s0 : Nat} {s1 : Int32} {s2 : Int32} {s3 : Int32} {s4 : Int32} {M : jM} {b : Int32 × jM} (h : j_L_law_230 k18 v0 v1 v2 v3 s0 s1 s2 s3 s4 M = some b) : V G m_L_law d 230 [(0, .ref v0), (1, .ref v1), (2, .ref v2), (3, .int v3)] [.int s4, .int s3, .int s2, .int s1, .ref s0] M (jQb cI b) := by
  unfold j_L_law_230 at h
  refine x_inv (cv := cI) (As := [.int s1, .int s2, .int s3, .int s4]) (rest := []) (ls2 := [(0, .ref s0), (1, .int s1), (2, .int s2), (3, .int s3), (4, .int s4)]) (ci := 10) (by omega) dL_law_230 ke_X11_mark kv_L_18 rfl rfl (by decide) (Nat.le_of_ble_eq_true rfl) rfl rfl rfl rfl h (fun _ hq => s_X11_mark (by omega) hq) (fun x2 M1 h => ?_)
  refine v_aload_n dL_law_233 rfl 2 rfl ?_
  refine v_aload_n dL_law_234 rfl 0 rfl ?_
  refine v_iload_n dL_law_235 rfl 3 rfl ?_
  refine v_iconst dL_law_236 ic_1 ?_
  refine v_iadd dL_law_237 ?_
  refine x_ldS dL_law_238 h (fun x3 h => ?_)
  refine v_aload_n dL_law_239 rfl 0 rfl ?_
  refine v_iload_n dL_law_240 rfl 3 rfl ?_
  refine v_iconst dL_law_241 ic_2 ?_
  refine v_iadd dL_law_242 ?_
  refine x_ldS dL_law_243 h (fun x4 h => ?_)
  refine v_aload_n dL_law_244 rfl 0 rfl ?_
  refine v_iload_n dL_law_245 rfl 3 rfl ?_
  refine v_iconst dL_law_246 ic_3 ?_
  refine v_iadd dL_law_247 ?_
  refine x_ldS dL_law_248 h (fun x5 h => ?_)
  refine v_aload_n dL_law_249 rfl 0 rfl ?_
  refine v_iload_n dL_law_250 rfl 3 rfl ?_
  refine v_iconst dL_law_251 ic_4 ?_
  refine v_iadd dL_law_252 ?_
  refine x_ldS dL_law_253 h (fun x6 h => ?_)
  refine x_if_eq (tgt := 261) dL_law_254 (by decide) h (fun h => ?_) (fun h => ?_)
  · refine v_iconst dL_law_261 ic_0 ?_
    exact t_L_law_262 hd_ hk18 h
  · refine v_iconst dL_law_257 ic_1 ?_
    refine v_goto (tgt := 262) dL_law_258 (by decide) ?_
    exact t_L_law_262 hd_ hk18 h
def j_L_law_331 (k18 : Nat → Nat → Nat → Int32 → jM → jO Int32) (v0 : Nat) (v1 : Nat) (v2 : Nat) (v3 : Int32) (s0 : Int32) (s1 : Nat) (s2 : Int32) (s3 : Int32) (s4 : Int32) (s5 : Int32) (M : jM) : jO Int32 :=
  jb2 (jiv 11 M s1 (f_X12_tie s1 s2 s3 s4 s5 M)) fun x2 M1 =>
  if s0 = x2 then
    j_L_law_1180 k18 v0 v1 v2 v3 M1
  else
    rZ (nI 0) M1
theorem t_L_law_331 {G : jG} {d : Nat} (hd_ : 208 ≤ d) {k18 : Nat → Nat → Nat → Int32 → jM → jO Int32} (hk18 : ∀ (w0 : Nat) (w1 : Nat) (w2 : Nat) (w3 : Int32) (M : jM) (b : Int32 × jM), k18 w0 w1 w2 w3 M = some b → V G m_L_law d 18 [(0, .ref w0), (1, .ref w1), (2, .ref w2), (3, .int w3)] [] M (jQb cI b)) {v0 : Nat} {v1 : Nat} {v2 : Nat} {v3 : Int32} {s0 : Int32} {s1 : Nat} {s2 : Int32} {s3 : Int32} {s4 : Int32} {s5 : Int32} {M : jM} {b : Int32 × jM} (h : j_L_law_331 k18 v0 v1 v2 v3 s0 s1 s2 s3 s4 s5 M = some b) : V G m_L_law d 331 [(0, .ref v0), (1, .ref v1), (2, .ref v2), (3, .int v3)] [.int s5, .int s4, .int s3, .int s2, .ref s1, .int s0] M (jQb cI b) := by
  unfold j_L_law_331 at h
  refine x_inv (cv := cI) (As := [.int s2, .int s3, .int s4, .int s5]) (rest := [.int s0]) (ls2 := [(0, .ref s1), (1, .int s2), (2, .int s3), (3, .int s4), (4, .int s5)]) (ci := 11) (by omega) dL_law_331 ke_X12_tie kv_L_26 rfl rfl (by decide) (Nat.le_of_ble_eq_true rfl) rfl rfl rfl rfl h (fun _ hq => s_X12_tie (by omega) hq) (fun x2 M1 h => ?_)
  refine x_ic_eq (tgt := 1180) dL_law_334 (by decide) h (fun h => ?_) (fun h => ?_)
  · exact t_L_law_1180 hd_ hk18 h
  · refine v_iconst dL_law_337 ic_0 ?_
    exact x_zret dL_law_338 rfl h
def j_L_law_299 (k18 : Nat → Nat → Nat → Int32 → jM → jO Int32) (v0 : Nat) (v1 : Nat) (v2 : Nat) (v3 : Int32) (s0 : Nat) (s1 : Int32) (s2 : Int32) (s3 : Int32) (s4 : Int32) (M : jM) : jO Int32 :=
  jb2 (jiv 10 M s0 (f_X11_tie s0 s1 s2 s3 s4 M)) fun x2 M1 =>
  (ldS M1 v0 (v3 + (nI 1))).bind fun x3 =>
  (ldS M1 v0 (v3 + (nI 2))).bind fun x4 =>
  (ldS M1 v0 (v3 + (nI 3))).bind fun x5 =>
  (ldS M1 v0 (v3 + (nI 4))).bind fun x6 =>
  if x6 = 0 then
    j_L_law_331 k18 v0 v1 v2 v3 x2 v2 x3 x4 x5 (nI 0) M1
  else
    j_L_law_331 k18 v0 v1 v2 v3 x2 v2 x3 x4 x5 (nI 1) M1
theorem t_L_law_299 {G : jG} {d : Nat} (hd_ : 208 ≤ d) {k18 : Nat → Nat → Nat → Int32 → jM → jO Int32} (hk18 : ∀ (w0 : Nat) (w1 : Nat) (w2 : Nat) (w3 : Int32) (M : jM) (b : Int32 × jM), k18 w0 w1 w2 w3 M = some b → V G m_L_law d 18 [(0, .ref w0), (1, .ref w1), (2, .ref w2), (3, .int w3)] [] M (jQb cI b)) {v0 : Nat} {v1 : Nat} {v2 : Nat} {v3 : Int32} {s0 : Nat} {s1 : Int32} {s2 : Int32} {s3 : Int32} {s4 : Int32} {M : jM} {b : Int32 × jM} (h : j_L_law_299 k18 v0 v1 v2 v3 s0 s1 s2 s3 s4 M = some b) : V G m_L_law d 299 [(0, .ref v0), (1, .ref v1), (2, .ref v2), (3, .int v3)] [.int s4, .int s3, .int s2, .int s1, .ref s0] M (jQb cI b) := by
  unfold j_L_law_299 at h
  refine x_inv (cv := cI) (As := [.int s1, .int s2, .int s3, .int s4]) (rest := []) (ls2 := [(0, .ref s0), (1, .int s1), (2, .int s2), (3, .int s3), (4, .int s4)]) (ci := 10) (by omega) dL_law_299 ke_X11_tie kv_L_23 rfl rfl (by decide) (Nat.le_of_ble_eq_true rfl) rfl rfl rfl rfl h (fun _ hq => s_X11_tie (by omega) hq) (fun x2 M1 h => ?_)
  refine v_aload_n dL_law_302 rfl 2 rfl ?_
  refine v_aload_n dL_law_303 rfl 0 rfl ?_
  refine v_iload_n dL_law_304 rfl 3 rfl ?_
  refine v_iconst dL_law_305 ic_1 ?_
  refine v_iadd dL_law_306 ?_
  refine x_ldS dL_law_307 h (fun x3 h => ?_)
  refine v_aload_n dL_law_308 rfl 0 rfl ?_
  refine v_iload_n dL_law_309 rfl 3 rfl ?_
  refine v_iconst dL_law_310 ic_2 ?_
  refine v_iadd dL_law_311 ?_
  refine x_ldS dL_law_312 h (fun x4 h => ?_)
  refine v_aload_n dL_law_313 rfl 0 rfl ?_
  refine v_iload_n dL_law_314 rfl 3 rfl ?_
  refine v_iconst dL_law_315 ic_3 ?_
  refine v_iadd dL_law_316 ?_
  refine x_ldS dL_law_317 h (fun x5 h => ?_)
  refine v_aload_n dL_law_318 rfl 0 rfl ?_
  refine v_iload_n dL_law_319 rfl 3 rfl ?_
  refine v_iconst dL_law_320 ic_4 ?_
  refine v_iadd dL_law_321 ?_
  refine x_ldS dL_law_322 h (fun x6 h => ?_)
  refine x_if_eq (tgt := 330) dL_law_323 (by decide) h (fun h => ?_) (fun h => ?_)
  · refine v_iconst dL_law_330 ic_0 ?_
    exact t_L_law_331 hd_ hk18 h
  · refine v_iconst dL_law_326 ic_1 ?_
    refine v_goto (tgt := 331) dL_law_327 (by decide) ?_
    exact t_L_law_331 hd_ hk18 h
def b_L_law_18  (k18 : Nat → Nat → Nat → Int32 → jM → jO Int32) (v0 : Nat) (v1 : Nat) (v2 : Nat) (v3 : Int32) (M : jM) : jO Int32 :=
  (lnS M v0).bind fun x1 =>
  if (x1 - (nI 6)) < v3 then
    rZ (nI 1) M
  else
    (ldS M v0 v3).bind fun x2 =>
    if (x2 &&& (nI 31)) = (nI 0) then
      (ldS M v0 (v3 + (nI 1))).bind fun x3 =>
      (ldS M v0 (v3 + (nI 2))).bind fun x4 =>
      jb2 (jiv 10 M v1 (f_X11_world v1 x3 x4 M)) fun x6 M5 =>
      (ldS M5 v0 (v3 + (nI 1))).bind fun x7 =>
      (ldS M5 v0 (v3 + (nI 2))).bind fun x8 =>
      jb2 (jiv 11 M5 v2 (f_X12_world v2 x7 x8 M5)) fun x10 M9 =>
      if x6 = x10 then
        j_L_law_1180 k18 v0 v1 v2 v3 M9
      else
        rZ (nI 0) M9
    else
    if (x2 &&& (nI 31)) = (nI 1) then
      (ldS M v0 (v3 + (nI 1))).bind fun x11 =>
      (ldS M v0 (v3 + (nI 2))).bind fun x12 =>
      (ldS M v0 (v3 + (nI 3))).bind fun x13 =>
      (ldS M v0 (v3 + (nI 4))).bind fun x14 =>
      if x14 = 0 then
        j_L_law_230 k18 v0 v1 v2 v3 v1 x11 x12 x13 (nI 0) M
      else
        j_L_law_230 k18 v0 v1 v2 v3 v1 x11 x12 x13 (nI 1) M
    else
    if (x2 &&& (nI 31)) = (nI 2) then
      (ldS M v0 (v3 + (nI 1))).bind fun x15 =>
      (ldS M v0 (v3 + (nI 2))).bind fun x16 =>
      (ldS M v0 (v3 + (nI 3))).bind fun x17 =>
      (ldS M v0 (v3 + (nI 4))).bind fun x18 =>
      if x18 = 0 then
        j_L_law_299 k18 v0 v1 v2 v3 v1 x15 x16 x17 (nI 0) M
      else
        j_L_law_299 k18 v0 v1 v2 v3 v1 x15 x16 x17 (nI 1) M
    else
    if (x2 &&& (nI 31)) = (nI 3) then
      (ldS M v0 (v3 + (nI 1))).bind fun x19 =>
      (ldS M v0 (v3 + (nI 2))).bind fun x20 =>
      (ldS M v0 (v3 + (nI 3))).bind fun x21 =>
      (ldS M v0 (v3 + (nI 4))).bind fun x22 =>
      jb2 (jiv 10 M v1 (f_X11_turn v1 x19 x20 x21 x22 M)) fun x24 M23 =>
      (ldS M23 v0 (v3 + (nI 1))).bind fun x25 =>
      (ldS M23 v0 (v3 + (nI 2))).bind fun x26 =>
      (ldS M23 v0 (v3 + (nI 3))).bind fun x27 =>
      (ldS M23 v0 (v3 + (nI 4))).bind fun x28 =>
      jb2 (jiv 11 M23 v2 (f_X12_turn v2 x25 x26 x27 x28 M23)) fun x30 M29 =>
      if x24 = x30 then
        j_L_law_1180 k18 v0 v1 v2 v3 M29
      else
        rZ (nI 0) M29
    else
    if (x2 &&& (nI 31)) = (nI 4) then
      (ldS M v0 (v3 + (nI 1))).bind fun x31 =>
      (ldS M v0 (v3 + (nI 2))).bind fun x32 =>
      (ldS M v0 (v3 + (nI 3))).bind fun x33 =>
      jb2 (jiv 10 M v1 (f_X11_join v1 x31 x32 x33 M)) fun x35 M34 =>
      (ldS M34 v0 (v3 + (nI 1))).bind fun x36 =>
      (ldS M34 v0 (v3 + (nI 2))).bind fun x37 =>
      (ldS M34 v0 (v3 + (nI 3))).bind fun x38 =>
      jb2 (jiv 11 M34 v2 (f_X12_join v2 x36 x37 x38 M34)) fun x40 M39 =>
      if x35 = x40 then
        j_L_law_1180 k18 v0 v1 v2 v3 M39
      else
        rZ (nI 0) M39
    else
    if (x2 &&& (nI 31)) = (nI 5) then
      (ldS M v0 (v3 + (nI 1))).bind fun x41 =>
      (ldS M v0 (v3 + (nI 2))).bind fun x42 =>
      jb2 (jiv 10 M v1 (f_X11_about v1 x41 x42 M)) fun x44 M43 =>
      (ldS M43 v0 (v3 + (nI 1))).bind fun x45 =>
      (ldS M43 v0 (v3 + (nI 2))).bind fun x46 =>
      jb2 (jiv 11 M43 v2 (f_X12_about v2 x45 x46 M43)) fun x48 M47 =>
      if x44 = x48 then
        j_L_law_1180 k18 v0 v1 v2 v3 M47
      else
        rZ (nI 0) M47
    else
    if (x2 &&& (nI 31)) = (nI 6) then
      (ldS M v0 (v3 + (nI 1))).bind fun x49 =>
      (ldS M v0 (v3 + (nI 2))).bind fun x50 =>
      (ldS M v0 (v3 + (nI 3))).bind fun x51 =>
      jb2 (jiv 10 M v1 (f_X11_tied v1 x49 x50 x51 M)) fun x53 M52 =>
      (ldS M52 v0 (v3 + (nI 1))).bind fun x54 =>
      (ldS M52 v0 (v3 + (nI 2))).bind fun x55 =>
      (ldS M52 v0 (v3 + (nI 3))).bind fun x56 =>
      jb2 (jiv 11 M52 v2 (f_X12_tied v2 x54 x55 x56 M52)) fun x58 M57 =>
      if x53 = x58 then
        j_L_law_1180 k18 v0 v1 v2 v3 M57
      else
        rZ (nI 0) M57
    else
    if (x2 &&& (nI 31)) = (nI 7) then
      (ldS M v0 (v3 + (nI 1))).bind fun x59 =>
      (ldS M v0 (v3 + (nI 2))).bind fun x60 =>
      (ldS M v0 (v3 + (nI 3))).bind fun x61 =>
      jb2 (jiv 10 M v1 (f_X11_game v1 x59 x60 x61 M)) fun x63 M62 =>
      (ldS M62 v0 (v3 + (nI 1))).bind fun x64 =>
      (ldS M62 v0 (v3 + (nI 2))).bind fun x65 =>
      (ldS M62 v0 (v3 + (nI 3))).bind fun x66 =>
      jb2 (jiv 11 M62 v2 (f_X12_game v2 x64 x65 x66 M62)) fun x68 M67 =>
      if x63 = x68 then
        j_L_law_1180 k18 v0 v1 v2 v3 M67
      else
        rZ (nI 0) M67
    else
    if (x2 &&& (nI 31)) = (nI 8) then
      (ldS M v0 (v3 + (nI 1))).bind fun x69 =>
      (ldS M v0 (v3 + (nI 2))).bind fun x70 =>
      jb2 (jiv 10 M v1 (f_X11_rank v1 x69 x70 M)) fun x72 M71 =>
      (ldS M71 v0 (v3 + (nI 1))).bind fun x73 =>
      (ldS M71 v0 (v3 + (nI 2))).bind fun x74 =>
      jb2 (jiv 11 M71 v2 (f_X12_rank v2 x73 x74 M71)) fun x76 M75 =>
      if x72 = x76 then
        j_L_law_1180 k18 v0 v1 v2 v3 M75
      else
        rZ (nI 0) M75
    else
    if (x2 &&& (nI 31)) = (nI 9) then
      (ldS M v0 (v3 + (nI 1))).bind fun x77 =>
      (ldS M v0 (v3 + (nI 2))).bind fun x78 =>
      (ldS M v0 (v3 + (nI 3))).bind fun x79 =>
      jb2 (jiv 10 M v1 (f_X11_play v1 x77 x78 x79 M)) fun x81 M80 =>
      (ldS M80 v0 (v3 + (nI 1))).bind fun x82 =>
      (ldS M80 v0 (v3 + (nI 2))).bind fun x83 =>
      (ldS M80 v0 (v3 + (nI 3))).bind fun x84 =>
      jb2 (jiv 11 M80 v2 (f_X12_play v2 x82 x83 x84 M80)) fun x86 M85 =>
      if x81 = x86 then
        j_L_law_1180 k18 v0 v1 v2 v3 M85
      else
        rZ (nI 0) M85
    else
    if (x2 &&& (nI 31)) = (nI 10) then
      (ldS M v0 (v3 + (nI 1))).bind fun x87 =>
      (ldS M v0 (v3 + (nI 2))).bind fun x88 =>
      jb2 (jiv 10 M v1 (f_X11_pick v1 x87 x88 M)) fun x90 M89 =>
      (ldS M89 v0 (v3 + (nI 1))).bind fun x91 =>
      (ldS M89 v0 (v3 + (nI 2))).bind fun x92 =>
      jb2 (jiv 11 M89 v2 (f_X12_pick v2 x91 x92 M89)) fun x94 M93 =>
      if x90 = x94 then
        j_L_law_1180 k18 v0 v1 v2 v3 M93
      else
        rZ (nI 0) M93
    else
    if (x2 &&& (nI 31)) = (nI 11) then
      (ldS M v0 (v3 + (nI 1))).bind fun x95 =>
      jb2 (jiv 10 M v1 (f_X11_answer v1 x95 M)) fun x97 M96 =>
      (ldS M96 v0 (v3 + (nI 1))).bind fun x98 =>
      jb2 (jiv 11 M96 v2 (f_X12_answer v2 x98 M96)) fun x100 M99 =>
      if x97 = x100 then
        j_L_law_1180 k18 v0 v1 v2 v3 M99
      else
        rZ (nI 0) M99
    else
    if (x2 &&& (nI 31)) = (nI 12) then
      jb2 (jiv 10 M v1 (f_X11_best v1 M)) fun x102 M101 =>
      jb2 (jiv 11 M101 v2 (f_X12_best v2 M101)) fun x104 M103 =>
      if x102 = x104 then
        j_L_law_1180 k18 v0 v1 v2 v3 M103
      else
        rZ (nI 0) M103
    else
    if (x2 &&& (nI 31)) = (nI 13) then
      jb2 (jiv 10 M v1 (f_X11_state v1 M)) fun x106 M105 =>
      jb2 (jiv 11 M105 v2 (f_X12_state v2 M105)) fun x108 M107 =>
      if x106 = x108 then
        j_L_law_1180 k18 v0 v1 v2 v3 M107
      else
        rZ (nI 0) M107
    else
    if (x2 &&& (nI 31)) = (nI 14) then
      jb2 (jiv 10 M v1 (f_X11_left v1 M)) fun x110 M109 =>
      jb2 (jiv 11 M109 v2 (f_X12_left v2 M109)) fun x112 M111 =>
      if x110 = x112 then
        j_L_law_1180 k18 v0 v1 v2 v3 M111
      else
        rZ (nI 0) M111
    else
    if (x2 &&& (nI 31)) = (nI 15) then
      (ldS M v0 (v3 + (nI 1))).bind fun x113 =>
      (ldS M v0 (v3 + (nI 2))).bind fun x114 =>
      (ldS M v0 (v3 + (nI 3))).bind fun x115 =>
      (ldS M v0 (v3 + (nI 4))).bind fun x116 =>
      (ldS M v0 (v3 + (nI 5))).bind fun x117 =>
      jb2 (jiv 10 M v1 (f_X11_feed v1 x113 x114 x115 x116 x117 M)) fun x119 M118 =>
      (ldS M118 v0 (v3 + (nI 1))).bind fun x120 =>
      (ldS M118 v0 (v3 + (nI 2))).bind fun x121 =>
      (ldS M118 v0 (v3 + (nI 3))).bind fun x122 =>
      (ldS M118 v0 (v3 + (nI 4))).bind fun x123 =>
      (ldS M118 v0 (v3 + (nI 5))).bind fun x124 =>
      jb2 (jiv 11 M118 v2 (f_X12_feed v2 x120 x121 x122 x123 x124 M118)) fun x126 M125 =>
      if x119 = x126 then
        j_L_law_1180 k18 v0 v1 v2 v3 M125
      else
        rZ (nI 0) M125
    else
    if (x2 &&& (nI 31)) = (nI 16) then
      (ldS M v0 (v3 + (nI 1))).bind fun x127 =>
      jb2 (jiv 10 M v1 (f_X11_trim v1 x127 M)) fun x129 M128 =>
      (ldS M128 v0 (v3 + (nI 1))).bind fun x130 =>
      jb2 (jiv 11 M128 v2 (f_X12_trim v2 x130 M128)) fun x132 M131 =>
      if x129 = x132 then
        j_L_law_1180 k18 v0 v1 v2 v3 M131
      else
        rZ (nI 0) M131
    else
    if (x2 &&& (nI 31)) = (nI 17) then
      jb2 (jiv 10 M v1 (f_X11_read v1 M)) fun x134 M133 =>
      jb2 (jiv 11 M133 v2 (f_X12_read v2 M133)) fun x136 M135 =>
      if x134 = x136 then
        j_L_law_1180 k18 v0 v1 v2 v3 M135
      else
        rZ (nI 0) M135
    else
    if (x2 &&& (nI 31)) = (nI 18) then
      (ldS M v0 (v3 + (nI 1))).bind fun x137 =>
      (ldS M v0 (v3 + (nI 2))).bind fun x138 =>
      jb2 (jiv 10 M v1 (f_X11_sentence v1 x137 x138 M)) fun x140 M139 =>
      (ldS M139 v0 (v3 + (nI 1))).bind fun x141 =>
      (ldS M139 v0 (v3 + (nI 2))).bind fun x142 =>
      jb2 (jiv 11 M139 v2 (f_X12_sentence v2 x141 x142 M139)) fun x144 M143 =>
      if x140 = x144 then
        j_L_law_1180 k18 v0 v1 v2 v3 M143
      else
        rZ (nI 0) M143
    else
    if (x2 &&& (nI 31)) = (nI 19) then
      (ldS M v0 (v3 + (nI 1))).bind fun x145 =>
      (ldS M v0 (v3 + (nI 2))).bind fun x146 =>
      jb2 (jiv 10 M v1 (f_X11_written v1 x145 x146 M)) fun x148 M147 =>
      (ldS M147 v0 (v3 + (nI 1))).bind fun x149 =>
      (ldS M147 v0 (v3 + (nI 2))).bind fun x150 =>
      jb2 (jiv 11 M147 v2 (f_X12_written v2 x149 x150 M147)) fun x152 M151 =>
      if x148 = x152 then
        j_L_law_1180 k18 v0 v1 v2 v3 M151
      else
        rZ (nI 0) M151
    else
    if (x2 &&& (nI 31)) = (nI 20) then
      (ldS M v0 (v3 + (nI 1))).bind fun x153 =>
      (ldS M v0 (v3 + (nI 2))).bind fun x154 =>
      jb2 (jiv 10 M v1 (f_X11_holds v1 x153 x154 M)) fun x156 M155 =>
      (ldS M155 v0 (v3 + (nI 1))).bind fun x157 =>
      (ldS M155 v0 (v3 + (nI 2))).bind fun x158 =>
      jb2 (jiv 11 M155 v2 (f_X12_holds v2 x157 x158 M155)) fun x160 M159 =>
      if x156 = x160 then
        j_L_law_1180 k18 v0 v1 v2 v3 M159
      else
        rZ (nI 0) M159
    else
    if (x2 &&& (nI 31)) = (nI 21) then
      jb2 (jiv 10 M v1 (f_X11_asked v1 M)) fun x162 M161 =>
      jb2 (jiv 11 M161 v2 (f_X12_asked v2 M161)) fun x164 M163 =>
      if x162 = x164 then
        j_L_law_1180 k18 v0 v1 v2 v3 M163
      else
        rZ (nI 0) M163
    else
    if (x2 &&& (nI 31)) = (nI 22) then
      (ldS M v0 (v3 + (nI 1))).bind fun x165 =>
      (ldS M v0 (v3 + (nI 2))).bind fun x166 =>
      jb2 (jiv 10 M v1 (f_X11_same v1 x165 x166 M)) fun x168 M167 =>
      (ldS M167 v0 (v3 + (nI 1))).bind fun x169 =>
      (ldS M167 v0 (v3 + (nI 2))).bind fun x170 =>
      jb2 (jiv 11 M167 v2 (f_X12_same v2 x169 x170 M167)) fun x172 M171 =>
      if x168 = x172 then
        j_L_law_1180 k18 v0 v1 v2 v3 M171
      else
        rZ (nI 0) M171
    else
    if (x2 &&& (nI 31)) = (nI 23) then
      (ldS M v0 (v3 + (nI 1))).bind fun x173 =>
      (ldS M v0 (v3 + (nI 2))).bind fun x174 =>
      jb2 (jiv 10 M v1 (f_X11_part v1 x173 x174 M)) fun x176 M175 =>
      (ldS M175 v0 (v3 + (nI 1))).bind fun x177 =>
      (ldS M175 v0 (v3 + (nI 2))).bind fun x178 =>
      jb2 (jiv 11 M175 v2 (f_X12_part v2 x177 x178 M175)) fun x180 M179 =>
      if x176 = x180 then
        j_L_law_1180 k18 v0 v1 v2 v3 M179
      else
        rZ (nI 0) M179
    else
    if (x2 &&& (nI 31)) = (nI 24) then
      (ldS M v0 (v3 + (nI 1))).bind fun x181 =>
      (ldS M v0 (v3 + (nI 2))).bind fun x182 =>
      (ldS M v0 (v3 + (nI 3))).bind fun x183 =>
      jb2 (jiv 10 M v1 (f_X11_kinds v1 x181 x182 x183 M)) fun x185 M184 =>
      (ldS M184 v0 (v3 + (nI 1))).bind fun x186 =>
      (ldS M184 v0 (v3 + (nI 2))).bind fun x187 =>
      (ldS M184 v0 (v3 + (nI 3))).bind fun x188 =>
      jb2 (jiv 11 M184 v2 (f_X12_kinds v2 x186 x187 x188 M184)) fun x190 M189 =>
      if x185 = x190 then
        j_L_law_1180 k18 v0 v1 v2 v3 M189
      else
        rZ (nI 0) M189
    else
    if (x2 &&& (nI 31)) = (nI 25) then
      (ldS M v0 (v3 + (nI 1))).bind fun x191 =>
      jb2 (jiv 10 M v1 (f_X11_kind v1 x191 M)) fun x193 M192 =>
      (ldS M192 v0 (v3 + (nI 1))).bind fun x194 =>
      jb2 (jiv 11 M192 v2 (f_X12_kind v2 x194 M192)) fun x196 M195 =>
      if x193 = x196 then
        j_L_law_1180 k18 v0 v1 v2 v3 M195
      else
        rZ (nI 0) M195
    else
    if (x2 &&& (nI 31)) = (nI 26) then
      (ldS M v0 (v3 + (nI 1))).bind fun x197 =>
      (ldS M v0 (v3 + (nI 2))).bind fun x198 =>
      (ldS M v0 (v3 + (nI 3))).bind fun x199 =>
      jb2 (jiv 10 M v1 (f_X11_colour v1 x197 x198 x199 M)) fun x201 M200 =>
      (ldS M200 v0 (v3 + (nI 1))).bind fun x202 =>
      (ldS M200 v0 (v3 + (nI 2))).bind fun x203 =>
      (ldS M200 v0 (v3 + (nI 3))).bind fun x204 =>
      jb2 (jiv 11 M200 v2 (f_X12_colour v2 x202 x203 x204 M200)) fun x206 M205 =>
      if x201 = x206 then
        j_L_law_1180 k18 v0 v1 v2 v3 M205
      else
        rZ (nI 0) M205
    else
    if (x2 &&& (nI 31)) = (nI 27) then
      (ldS M v0 (v3 + (nI 1))).bind fun x207 =>
      jb2 (jiv 10 M v1 (f_X11_coloured v1 x207 M)) fun x209 M208 =>
      (ldS M208 v0 (v3 + (nI 1))).bind fun x210 =>
      jb2 (jiv 11 M208 v2 (f_X12_coloured v2 x210 M208)) fun x212 M211 =>
      if x209 = x212 then
        j_L_law_1180 k18 v0 v1 v2 v3 M211
      else
        rZ (nI 0) M211
    else
    if (x2 &&& (nI 31)) = (nI 28) then
      (ldS M v0 (v3 + (nI 1))).bind fun x213 =>
      jb2 (jiv 10 M v1 (f_X11_still v1 x213 M)) fun x215 M214 =>
      (ldS M214 v0 (v3 + (nI 1))).bind fun x216 =>
      jb2 (jiv 11 M214 v2 (f_X12_still v2 x216 M214)) fun x218 M217 =>
      if x215 = x218 then
        j_L_law_1180 k18 v0 v1 v2 v3 M217
      else
        rZ (nI 0) M217
    else
    if (x2 &&& (nI 31)) = (nI 29) then
      (ldS M v0 (v3 + (nI 1))).bind fun x219 =>
      jb2 (jiv 10 M v1 (f_X11_told v1 x219 M)) fun x221 M220 =>
      (ldS M220 v0 (v3 + (nI 1))).bind fun x222 =>
      jb2 (jiv 11 M220 v2 (f_X12_told v2 x222 M220)) fun x224 M223 =>
      if x221 = x224 then
        j_L_law_1180 k18 v0 v1 v2 v3 M223
      else
        rZ (nI 0) M223
    else
      j_L_law_1180 k18 v0 v1 v2 v3 M
def l_L_law_18  : Nat → Nat → Nat → Nat → Int32 → jM → jO Int32
  | 0 => fun _ _ _ _ _ => none
  | n + 1 => b_L_law_18  (l_L_law_18  n)
theorem tb_L_law_18 {G : jG} {d : Nat} (hd_ : 208 ≤ d)  {k18 : Nat → Nat → Nat → Int32 → jM → jO Int32} (hk18 : ∀ (w0 : Nat) (w1 : Nat) (w2 : Nat) (w3 : Int32) (M : jM) (b : Int32 × jM), k18 w0 w1 w2 w3 M = some b → V G m_L_law d 18 [(0, .ref w0), (1, .ref w1), (2, .ref w2), (3, .int w3)] [] M (jQb cI b)) {v0 : Nat} {v1 : Nat} {v2 : Nat} {v3 : Int32} {M : jM} {b : Int32 × jM} (h : b_L_law_18  k18 v0 v1 v2 v3 M = some b) : V G m_L_law d 18 [(0, .ref v0), (1, .ref v1), (2, .ref v2), (3, .int v3)] [] M (jQb cI b) := by
  unfold b_L_law_18 at h
  refine v_iload_n dL_law_18 rfl 3 rfl ?_
  refine v_aload_n dL_law_19 rfl 0 rfl ?_
  refine x_lnS dL_law_20 h (fun x1 h => ?_)
  refine v_bipush dL_law_21 bp_6 ?_
  refine v_isub dL_law_23 ?_
  refine x_ic_gt (tgt := 1186) dL_law_24 (by decide) h (fun h => ?_) (fun h => ?_)
  · refine v_iconst dL_law_1186 ic_1 ?_
    exact x_zret dL_law_1187 rfl h
  · refine v_aload_n dL_law_27 rfl 0 rfl ?_
    refine v_iload_n dL_law_28 rfl 3 rfl ?_
    refine x_ldS dL_law_29 h (fun x2 h => ?_)
    refine v_bipush dL_law_30 bp_31 ?_
    refine v_iand dL_law_32 ?_
    rcases x_br h with ⟨hc, h⟩ | ⟨hc0, h⟩
    · refine v_table (off := 135) (tgt := 168) dL_law_33 (by decide) (by rw [hc]; decide +kernel) (by decide) ?_
      refine v_aload_n dL_law_168 rfl 1 rfl ?_
      refine v_aload_n dL_law_169 rfl 0 rfl ?_
      refine v_iload_n dL_law_170 rfl 3 rfl ?_
      refine v_iconst dL_law_171 ic_1 ?_
      refine v_iadd dL_law_172 ?_
      refine x_ldS dL_law_173 h (fun x3 h => ?_)
      refine v_aload_n dL_law_174 rfl 0 rfl ?_
      refine v_iload_n dL_law_175 rfl 3 rfl ?_
      refine v_iconst dL_law_176 ic_2 ?_
      refine v_iadd dL_law_177 ?_
      refine x_ldS dL_law_178 h (fun x4 h => ?_)
      refine x_inv (cv := cI) (As := [.int x3, .int x4]) (rest := []) (ls2 := [(0, .ref v1), (1, .int x3), (2, .int x4)]) (ci := 10) (by omega) dL_law_179 ke_X11_world kv_L_13 rfl rfl (by decide) (Nat.le_of_ble_eq_true rfl) rfl rfl rfl rfl h (fun _ hq => s_X11_world (by omega) hq) (fun x6 M5 h => ?_)
      refine v_aload_n dL_law_182 rfl 2 rfl ?_
      refine v_aload_n dL_law_183 rfl 0 rfl ?_
      refine v_iload_n dL_law_184 rfl 3 rfl ?_
      refine v_iconst dL_law_185 ic_1 ?_
      refine v_iadd dL_law_186 ?_
      refine x_ldS dL_law_187 h (fun x7 h => ?_)
      refine v_aload_n dL_law_188 rfl 0 rfl ?_
      refine v_iload_n dL_law_189 rfl 3 rfl ?_
      refine v_iconst dL_law_190 ic_2 ?_
      refine v_iadd dL_law_191 ?_
      refine x_ldS dL_law_192 h (fun x8 h => ?_)
      refine x_inv (cv := cI) (As := [.int x7, .int x8]) (rest := [.int x6]) (ls2 := [(0, .ref v2), (1, .int x7), (2, .int x8)]) (ci := 11) (by omega) dL_law_193 ke_X12_world kv_L_17 rfl rfl (by decide) (Nat.le_of_ble_eq_true rfl) rfl rfl rfl rfl h (fun _ hq => s_X12_world (by omega) hq) (fun x10 M9 h => ?_)
      refine x_ic_eq (tgt := 1180) dL_law_196 (by decide) h (fun h => ?_) (fun h => ?_)
      · exact t_L_law_1180 hd_ hk18 h
      · refine v_iconst dL_law_199 ic_0 ?_
        exact x_zret dL_law_200 rfl h
    rcases x_br h with ⟨hc, h⟩ | ⟨hc1, h⟩
    · refine v_table (off := 168) (tgt := 201) dL_law_33 (by decide) (by rw [hc]; decide +kernel) (by decide) ?_
      refine v_aload_n dL_law_201 rfl 1 rfl ?_
      refine v_aload_n dL_law_202 rfl 0 rfl ?_
      refine v_iload_n dL_law_203 rfl 3 rfl ?_
      refine v_iconst dL_law_204 ic_1 ?_
      refine v_iadd dL_law_205 ?_
      refine x_ldS dL_law_206 h (fun x11 h => ?_)
      refine v_aload_n dL_law_207 rfl 0 rfl ?_
      refine v_iload_n dL_law_208 rfl 3 rfl ?_
      refine v_iconst dL_law_209 ic_2 ?_
      refine v_iadd dL_law_210 ?_
      refine x_ldS dL_law_211 h (fun x12 h => ?_)
      refine v_aload_n dL_law_212 rfl 0 rfl ?_
      refine v_iload_n dL_law_213 rfl 3 rfl ?_
      refine v_iconst dL_law_214 ic_3 ?_
      refine v_iadd dL_law_215 ?_
      refine x_ldS dL_law_216 h (fun x13 h => ?_)
      refine v_aload_n dL_law_217 rfl 0 rfl ?_
      refine v_iload_n dL_law_218 rfl 3 rfl ?_
      refine v_iconst dL_law_219 ic_4 ?_
      refine v_iadd dL_law_220 ?_
      refine x_ldS dL_law_221 h (fun x14 h => ?_)
      refine x_if_eq (tgt := 229) dL_law_222 (by decide) h (fun h => ?_) (fun h => ?_)
      · refine v_iconst dL_law_229 ic_0 ?_
        exact t_L_law_230 hd_ hk18 h
      · refine v_iconst dL_law_225 ic_1 ?_
        refine v_goto (tgt := 230) dL_law_226 (by decide) ?_
        exact t_L_law_230 hd_ hk18 h
    rcases x_br h with ⟨hc, h⟩ | ⟨hc2, h⟩
    · refine v_table (off := 237) (tgt := 270) dL_law_33 (by decide) (by rw [hc]; decide +kernel) (by decide) ?_
      refine v_aload_n dL_law_270 rfl 1 rfl ?_
      refine v_aload_n dL_law_271 rfl 0 rfl ?_
      refine v_iload_n dL_law_272 rfl 3 rfl ?_
      refine v_iconst dL_law_273 ic_1 ?_
      refine v_iadd dL_law_274 ?_
      refine x_ldS dL_law_275 h (fun x15 h => ?_)
      refine v_aload_n dL_law_276 rfl 0 rfl ?_
      refine v_iload_n dL_law_277 rfl 3 rfl ?_
      refine v_iconst dL_law_278 ic_2 ?_
      refine v_iadd dL_law_279 ?_
      refine x_ldS dL_law_280 h (fun x16 h => ?_)
      refine v_aload_n dL_law_281 rfl 0 rfl ?_
      refine v_iload_n dL_law_282 rfl 3 rfl ?_
      refine v_iconst dL_law_283 ic_3 ?_
      refine v_iadd dL_law_284 ?_
      refine x_ldS dL_law_285 h (fun x17 h => ?_)
      refine v_aload_n dL_law_286 rfl 0 rfl ?_
      refine v_iload_n dL_law_287 rfl 3 rfl ?_
      refine v_iconst dL_law_288 ic_4 ?_
      refine v_iadd dL_law_289 ?_
      refine x_ldS dL_law_290 h (fun x18 h => ?_)
      refine x_if_eq (tgt := 298) dL_law_291 (by decide) h (fun h => ?_) (fun h => ?_)
      · refine v_iconst dL_law_298 ic_0 ?_
        exact t_L_law_299 hd_ hk18 h
      · refine v_iconst dL_law_294 ic_1 ?_
        refine v_goto (tgt := 299) dL_law_295 (by decide) ?_
        exact t_L_law_299 hd_ hk18 h
    rcases x_br h with ⟨hc, h⟩ | ⟨hc3, h⟩
    · refine v_table (off := 306) (tgt := 339) dL_law_33 (by decide) (by rw [hc]; decide +kernel) (by decide) ?_
      refine v_aload_n dL_law_339 rfl 1 rfl ?_
      refine v_aload_n dL_law_340 rfl 0 rfl ?_
      refine v_iload_n dL_law_341 rfl 3 rfl ?_
      refine v_iconst dL_law_342 ic_1 ?_
      refine v_iadd dL_law_343 ?_
      refine x_ldS dL_law_344 h (fun x19 h => ?_)
      refine v_aload_n dL_law_345 rfl 0 rfl ?_
      refine v_iload_n dL_law_346 rfl 3 rfl ?_
      refine v_iconst dL_law_347 ic_2 ?_
      refine v_iadd dL_law_348 ?_
      refine x_ldS dL_law_349 h (fun x20 h => ?_)
      refine v_aload_n dL_law_350 rfl 0 rfl ?_
      refine v_iload_n dL_law_351 rfl 3 rfl ?_
      refine v_iconst dL_law_352 ic_3 ?_
      refine v_iadd dL_law_353 ?_
      refine x_ldS dL_law_354 h (fun x21 h => ?_)
      refine v_aload_n dL_law_355 rfl 0 rfl ?_
      refine v_iload_n dL_law_356 rfl 3 rfl ?_
      refine v_iconst dL_law_357 ic_4 ?_
      refine v_iadd dL_law_358 ?_
      refine x_ldS dL_law_359 h (fun x22 h => ?_)
      refine x_inv (cv := cI) (As := [.int x19, .int x20, .int x21, .int x22]) (rest := []) (ls2 := [(0, .ref v1), (1, .int x19), (2, .int x20), (3, .int x21), (4, .int x22)]) (ci := 10) (by omega) dL_law_360 ke_X11_turn kv_L_27 rfl rfl (by decide) (Nat.le_of_ble_eq_true rfl) rfl rfl rfl rfl h (fun _ hq => s_X11_turn (by omega) hq) (fun x24 M23 h => ?_)
      refine v_aload_n dL_law_363 rfl 2 rfl ?_
      refine v_aload_n dL_law_364 rfl 0 rfl ?_
      refine v_iload_n dL_law_365 rfl 3 rfl ?_
      refine v_iconst dL_law_366 ic_1 ?_
      refine v_iadd dL_law_367 ?_
      refine x_ldS dL_law_368 h (fun x25 h => ?_)
      refine v_aload_n dL_law_369 rfl 0 rfl ?_
      refine v_iload_n dL_law_370 rfl 3 rfl ?_
      refine v_iconst dL_law_371 ic_2 ?_
      refine v_iadd dL_law_372 ?_
      refine x_ldS dL_law_373 h (fun x26 h => ?_)
      refine v_aload_n dL_law_374 rfl 0 rfl ?_
      refine v_iload_n dL_law_375 rfl 3 rfl ?_
      refine v_iconst dL_law_376 ic_3 ?_
      refine v_iadd dL_law_377 ?_
      refine x_ldS dL_law_378 h (fun x27 h => ?_)
      refine v_aload_n dL_law_379 rfl 0 rfl ?_
      refine v_iload_n dL_law_380 rfl 3 rfl ?_
      refine v_iconst dL_law_381 ic_4 ?_
      refine v_iadd dL_law_382 ?_
      refine x_ldS dL_law_383 h (fun x28 h => ?_)
      refine x_inv (cv := cI) (As := [.int x25, .int x26, .int x27, .int x28]) (rest := [.int x24]) (ls2 := [(0, .ref v2), (1, .int x25), (2, .int x26), (3, .int x27), (4, .int x28)]) (ci := 11) (by omega) dL_law_384 ke_X12_turn kv_L_31 rfl rfl (by decide) (Nat.le_of_ble_eq_true rfl) rfl rfl rfl rfl h (fun _ hq => s_X12_turn (by omega) hq) (fun x30 M29 h => ?_)
      refine x_ic_eq (tgt := 1180) dL_law_387 (by decide) h (fun h => ?_) (fun h => ?_)
      · exact t_L_law_1180 hd_ hk18 h
      · refine v_iconst dL_law_390 ic_0 ?_
        exact x_zret dL_law_391 rfl h
    rcases x_br h with ⟨hc, h⟩ | ⟨hc4, h⟩
    · refine v_table (off := 359) (tgt := 392) dL_law_33 (by decide) (by rw [hc]; decide +kernel) (by decide) ?_
      refine v_aload_n dL_law_392 rfl 1 rfl ?_
      refine v_aload_n dL_law_393 rfl 0 rfl ?_
      refine v_iload_n dL_law_394 rfl 3 rfl ?_
      refine v_iconst dL_law_395 ic_1 ?_
      refine v_iadd dL_law_396 ?_
      refine x_ldS dL_law_397 h (fun x31 h => ?_)
      refine v_aload_n dL_law_398 rfl 0 rfl ?_
      refine v_iload_n dL_law_399 rfl 3 rfl ?_
      refine v_iconst dL_law_400 ic_2 ?_
      refine v_iadd dL_law_401 ?_
      refine x_ldS dL_law_402 h (fun x32 h => ?_)
      refine v_aload_n dL_law_403 rfl 0 rfl ?_
      refine v_iload_n dL_law_404 rfl 3 rfl ?_
      refine v_iconst dL_law_405 ic_3 ?_
      refine v_iadd dL_law_406 ?_
      refine x_ldS dL_law_407 h (fun x33 h => ?_)
      refine x_inv (cv := cI) (As := [.int x31, .int x32, .int x33]) (rest := []) (ls2 := [(0, .ref v1), (1, .int x31), (2, .int x32), (3, .int x33)]) (ci := 10) (by omega) dL_law_408 ke_X11_join kv_L_32 rfl rfl (by decide) (Nat.le_of_ble_eq_true rfl) rfl rfl rfl rfl h (fun _ hq => s_X11_join (by omega) hq) (fun x35 M34 h => ?_)
      refine v_aload_n dL_law_411 rfl 2 rfl ?_
      refine v_aload_n dL_law_412 rfl 0 rfl ?_
      refine v_iload_n dL_law_413 rfl 3 rfl ?_
      refine v_iconst dL_law_414 ic_1 ?_
      refine v_iadd dL_law_415 ?_
      refine x_ldS dL_law_416 h (fun x36 h => ?_)
      refine v_aload_n dL_law_417 rfl 0 rfl ?_
      refine v_iload_n dL_law_418 rfl 3 rfl ?_
      refine v_iconst dL_law_419 ic_2 ?_
      refine v_iadd dL_law_420 ?_
      refine x_ldS dL_law_421 h (fun x37 h => ?_)
      refine v_aload_n dL_law_422 rfl 0 rfl ?_
      refine v_iload_n dL_law_423 rfl 3 rfl ?_
      refine v_iconst dL_law_424 ic_3 ?_
      refine v_iadd dL_law_425 ?_
      refine x_ldS dL_law_426 h (fun x38 h => ?_)
      refine x_inv (cv := cI) (As := [.int x36, .int x37, .int x38]) (rest := [.int x35]) (ls2 := [(0, .ref v2), (1, .int x36), (2, .int x37), (3, .int x38)]) (ci := 11) (by omega) dL_law_427 ke_X12_join kv_L_36 rfl rfl (by decide) (Nat.le_of_ble_eq_true rfl) rfl rfl rfl rfl h (fun _ hq => s_X12_join (by omega) hq) (fun x40 M39 h => ?_)
      refine x_ic_eq (tgt := 1180) dL_law_430 (by decide) h (fun h => ?_) (fun h => ?_)
      · exact t_L_law_1180 hd_ hk18 h
      · refine v_iconst dL_law_433 ic_0 ?_
        exact x_zret dL_law_434 rfl h
    rcases x_br h with ⟨hc, h⟩ | ⟨hc5, h⟩
    · refine v_table (off := 402) (tgt := 435) dL_law_33 (by decide) (by rw [hc]; decide +kernel) (by decide) ?_
      refine v_aload_n dL_law_435 rfl 1 rfl ?_
      refine v_aload_n dL_law_436 rfl 0 rfl ?_
      refine v_iload_n dL_law_437 rfl 3 rfl ?_
      refine v_iconst dL_law_438 ic_1 ?_
      refine v_iadd dL_law_439 ?_
      refine x_ldS dL_law_440 h (fun x41 h => ?_)
      refine v_aload_n dL_law_441 rfl 0 rfl ?_
      refine v_iload_n dL_law_442 rfl 3 rfl ?_
      refine v_iconst dL_law_443 ic_2 ?_
      refine v_iadd dL_law_444 ?_
      refine x_ldS dL_law_445 h (fun x42 h => ?_)
      refine x_inv (cv := cI) (As := [.int x41, .int x42]) (rest := []) (ls2 := [(0, .ref v1), (1, .int x41), (2, .int x42)]) (ci := 10) (by omega) dL_law_446 ke_X11_about kv_L_37 rfl rfl (by decide) (Nat.le_of_ble_eq_true rfl) rfl rfl rfl rfl h (fun _ hq => s_X11_about (by omega) hq) (fun x44 M43 h => ?_)
      refine v_aload_n dL_law_449 rfl 2 rfl ?_
      refine v_aload_n dL_law_450 rfl 0 rfl ?_
      refine v_iload_n dL_law_451 rfl 3 rfl ?_
      refine v_iconst dL_law_452 ic_1 ?_
      refine v_iadd dL_law_453 ?_
      refine x_ldS dL_law_454 h (fun x45 h => ?_)
      refine v_aload_n dL_law_455 rfl 0 rfl ?_
      refine v_iload_n dL_law_456 rfl 3 rfl ?_
      refine v_iconst dL_law_457 ic_2 ?_
      refine v_iadd dL_law_458 ?_
      refine x_ldS dL_law_459 h (fun x46 h => ?_)
      refine x_inv (cv := cI) (As := [.int x45, .int x46]) (rest := [.int x44]) (ls2 := [(0, .ref v2), (1, .int x45), (2, .int x46)]) (ci := 11) (by omega) dL_law_460 ke_X12_about kv_L_40 rfl rfl (by decide) (Nat.le_of_ble_eq_true rfl) rfl rfl rfl rfl h (fun _ hq => s_X12_about (by omega) hq) (fun x48 M47 h => ?_)
      refine x_ic_eq (tgt := 1180) dL_law_463 (by decide) h (fun h => ?_) (fun h => ?_)
      · exact t_L_law_1180 hd_ hk18 h
      · refine v_iconst dL_law_466 ic_0 ?_
        exact x_zret dL_law_467 rfl h
    rcases x_br h with ⟨hc, h⟩ | ⟨hc6, h⟩
    · refine v_table (off := 435) (tgt := 468) dL_law_33 (by decide) (by rw [hc]; decide +kernel) (by decide) ?_
      refine v_aload_n dL_law_468 rfl 1 rfl ?_
      refine v_aload_n dL_law_469 rfl 0 rfl ?_
      refine v_iload_n dL_law_470 rfl 3 rfl ?_
      refine v_iconst dL_law_471 ic_1 ?_
      refine v_iadd dL_law_472 ?_
      refine x_ldS dL_law_473 h (fun x49 h => ?_)
      refine v_aload_n dL_law_474 rfl 0 rfl ?_
      refine v_iload_n dL_law_475 rfl 3 rfl ?_
      refine v_iconst dL_law_476 ic_2 ?_
      refine v_iadd dL_law_477 ?_
      refine x_ldS dL_law_478 h (fun x50 h => ?_)
      refine v_aload_n dL_law_479 rfl 0 rfl ?_
      refine v_iload_n dL_law_480 rfl 3 rfl ?_
      refine v_iconst dL_law_481 ic_3 ?_
      refine v_iadd dL_law_482 ?_
      refine x_ldS dL_law_483 h (fun x51 h => ?_)
      refine x_inv (cv := cI) (As := [.int x49, .int x50, .int x51]) (rest := []) (ls2 := [(0, .ref v1), (1, .int x49), (2, .int x50), (3, .int x51)]) (ci := 10) (by omega) dL_law_484 ke_X11_tied kv_L_41 rfl rfl (by decide) (Nat.le_of_ble_eq_true rfl) rfl rfl rfl rfl h (fun _ hq => s_X11_tied (by omega) hq) (fun x53 M52 h => ?_)
      refine v_aload_n dL_law_487 rfl 2 rfl ?_
      refine v_aload_n dL_law_488 rfl 0 rfl ?_
      refine v_iload_n dL_law_489 rfl 3 rfl ?_
      refine v_iconst dL_law_490 ic_1 ?_
      refine v_iadd dL_law_491 ?_
      refine x_ldS dL_law_492 h (fun x54 h => ?_)
      refine v_aload_n dL_law_493 rfl 0 rfl ?_
      refine v_iload_n dL_law_494 rfl 3 rfl ?_
      refine v_iconst dL_law_495 ic_2 ?_
      refine v_iadd dL_law_496 ?_
      refine x_ldS dL_law_497 h (fun x55 h => ?_)
      refine v_aload_n dL_law_498 rfl 0 rfl ?_
      refine v_iload_n dL_law_499 rfl 3 rfl ?_
      refine v_iconst dL_law_500 ic_3 ?_
      refine v_iadd dL_law_501 ?_
      refine x_ldS dL_law_502 h (fun x56 h => ?_)
      refine x_inv (cv := cI) (As := [.int x54, .int x55, .int x56]) (rest := [.int x53]) (ls2 := [(0, .ref v2), (1, .int x54), (2, .int x55), (3, .int x56)]) (ci := 11) (by omega) dL_law_503 ke_X12_tied kv_L_44 rfl rfl (by decide) (Nat.le_of_ble_eq_true rfl) rfl rfl rfl rfl h (fun _ hq => s_X12_tied (by omega) hq) (fun x58 M57 h => ?_)
      refine x_ic_eq (tgt := 1180) dL_law_506 (by decide) h (fun h => ?_) (fun h => ?_)
      · exact t_L_law_1180 hd_ hk18 h
      · refine v_iconst dL_law_509 ic_0 ?_
        exact x_zret dL_law_510 rfl h
    rcases x_br h with ⟨hc, h⟩ | ⟨hc7, h⟩
    · refine v_table (off := 478) (tgt := 511) dL_law_33 (by decide) (by rw [hc]; decide +kernel) (by decide) ?_
      refine v_aload_n dL_law_511 rfl 1 rfl ?_
      refine v_aload_n dL_law_512 rfl 0 rfl ?_
      refine v_iload_n dL_law_513 rfl 3 rfl ?_
      refine v_iconst dL_law_514 ic_1 ?_
      refine v_iadd dL_law_515 ?_
      refine x_ldS dL_law_516 h (fun x59 h => ?_)
      refine v_aload_n dL_law_517 rfl 0 rfl ?_
      refine v_iload_n dL_law_518 rfl 3 rfl ?_
      refine v_iconst dL_law_519 ic_2 ?_
      refine v_iadd dL_law_520 ?_
      refine x_ldS dL_law_521 h (fun x60 h => ?_)
      refine v_aload_n dL_law_522 rfl 0 rfl ?_
      refine v_iload_n dL_law_523 rfl 3 rfl ?_
      refine v_iconst dL_law_524 ic_3 ?_
      refine v_iadd dL_law_525 ?_
      refine x_ldS dL_law_526 h (fun x61 h => ?_)
      refine x_inv (cv := cI) (As := [.int x59, .int x60, .int x61]) (rest := []) (ls2 := [(0, .ref v1), (1, .int x59), (2, .int x60), (3, .int x61)]) (ci := 10) (by omega) dL_law_527 ke_X11_game kv_L_45 rfl rfl (by decide) (Nat.le_of_ble_eq_true rfl) rfl rfl rfl rfl h (fun _ hq => s_X11_game (by omega) hq) (fun x63 M62 h => ?_)
      refine v_aload_n dL_law_530 rfl 2 rfl ?_
      refine v_aload_n dL_law_531 rfl 0 rfl ?_
      refine v_iload_n dL_law_532 rfl 3 rfl ?_
      refine v_iconst dL_law_533 ic_1 ?_
      refine v_iadd dL_law_534 ?_
      refine x_ldS dL_law_535 h (fun x64 h => ?_)
      refine v_aload_n dL_law_536 rfl 0 rfl ?_
      refine v_iload_n dL_law_537 rfl 3 rfl ?_
      refine v_iconst dL_law_538 ic_2 ?_
      refine v_iadd dL_law_539 ?_
      refine x_ldS dL_law_540 h (fun x65 h => ?_)
      refine v_aload_n dL_law_541 rfl 0 rfl ?_
      refine v_iload_n dL_law_542 rfl 3 rfl ?_
      refine v_iconst dL_law_543 ic_3 ?_
      refine v_iadd dL_law_544 ?_
      refine x_ldS dL_law_545 h (fun x66 h => ?_)
      refine x_inv (cv := cI) (As := [.int x64, .int x65, .int x66]) (rest := [.int x63]) (ls2 := [(0, .ref v2), (1, .int x64), (2, .int x65), (3, .int x66)]) (ci := 11) (by omega) dL_law_546 ke_X12_game kv_L_48 rfl rfl (by decide) (Nat.le_of_ble_eq_true rfl) rfl rfl rfl rfl h (fun _ hq => s_X12_game (by omega) hq) (fun x68 M67 h => ?_)
      refine x_ic_eq (tgt := 1180) dL_law_549 (by decide) h (fun h => ?_) (fun h => ?_)
      · exact t_L_law_1180 hd_ hk18 h
      · refine v_iconst dL_law_552 ic_0 ?_
        exact x_zret dL_law_553 rfl h
    rcases x_br h with ⟨hc, h⟩ | ⟨hc8, h⟩
    · refine v_table (off := 521) (tgt := 554) dL_law_33 (by decide) (by rw [hc]; decide +kernel) (by decide) ?_
      refine v_aload_n dL_law_554 rfl 1 rfl ?_
      refine v_aload_n dL_law_555 rfl 0 rfl ?_
      refine v_iload_n dL_law_556 rfl 3 rfl ?_
      refine v_iconst dL_law_557 ic_1 ?_
      refine v_iadd dL_law_558 ?_
      refine x_ldS dL_law_559 h (fun x69 h => ?_)
      refine v_aload_n dL_law_560 rfl 0 rfl ?_
      refine v_iload_n dL_law_561 rfl 3 rfl ?_
      refine v_iconst dL_law_562 ic_2 ?_
      refine v_iadd dL_law_563 ?_
      refine x_ldS dL_law_564 h (fun x70 h => ?_)
      refine x_inv (cv := cI) (As := [.int x69, .int x70]) (rest := []) (ls2 := [(0, .ref v1), (1, .int x69), (2, .int x70)]) (ci := 10) (by omega) dL_law_565 ke_X11_rank kv_L_49 rfl rfl (by decide) (Nat.le_of_ble_eq_true rfl) rfl rfl rfl rfl h (fun _ hq => s_X11_rank (by omega) hq) (fun x72 M71 h => ?_)
      refine v_aload_n dL_law_568 rfl 2 rfl ?_
      refine v_aload_n dL_law_569 rfl 0 rfl ?_
      refine v_iload_n dL_law_570 rfl 3 rfl ?_
      refine v_iconst dL_law_571 ic_1 ?_
      refine v_iadd dL_law_572 ?_
      refine x_ldS dL_law_573 h (fun x73 h => ?_)
      refine v_aload_n dL_law_574 rfl 0 rfl ?_
      refine v_iload_n dL_law_575 rfl 3 rfl ?_
      refine v_iconst dL_law_576 ic_2 ?_
      refine v_iadd dL_law_577 ?_
      refine x_ldS dL_law_578 h (fun x74 h => ?_)
      refine x_inv (cv := cI) (As := [.int x73, .int x74]) (rest := [.int x72]) (ls2 := [(0, .ref v2), (1, .int x73), (2, .int x74)]) (ci := 11) (by omega) dL_law_579 ke_X12_rank kv_L_52 rfl rfl (by decide) (Nat.le_of_ble_eq_true rfl) rfl rfl rfl rfl h (fun _ hq => s_X12_rank (by omega) hq) (fun x76 M75 h => ?_)
      refine x_ic_eq (tgt := 1180) dL_law_582 (by decide) h (fun h => ?_) (fun h => ?_)
      · exact t_L_law_1180 hd_ hk18 h
      · refine v_iconst dL_law_585 ic_0 ?_
        exact x_zret dL_law_586 rfl h
    rcases x_br h with ⟨hc, h⟩ | ⟨hc9, h⟩
    · refine v_table (off := 554) (tgt := 587) dL_law_33 (by decide) (by rw [hc]; decide +kernel) (by decide) ?_
      refine v_aload_n dL_law_587 rfl 1 rfl ?_
      refine v_aload_n dL_law_588 rfl 0 rfl ?_
      refine v_iload_n dL_law_589 rfl 3 rfl ?_
      refine v_iconst dL_law_590 ic_1 ?_
      refine v_iadd dL_law_591 ?_
      refine x_ldS dL_law_592 h (fun x77 h => ?_)
      refine v_aload_n dL_law_593 rfl 0 rfl ?_
      refine v_iload_n dL_law_594 rfl 3 rfl ?_
      refine v_iconst dL_law_595 ic_2 ?_
      refine v_iadd dL_law_596 ?_
      refine x_ldS dL_law_597 h (fun x78 h => ?_)
      refine v_aload_n dL_law_598 rfl 0 rfl ?_
      refine v_iload_n dL_law_599 rfl 3 rfl ?_
      refine v_iconst dL_law_600 ic_3 ?_
      refine v_iadd dL_law_601 ?_
      refine x_ldS dL_law_602 h (fun x79 h => ?_)
      refine x_inv (cv := cI) (As := [.int x77, .int x78, .int x79]) (rest := []) (ls2 := [(0, .ref v1), (1, .int x77), (2, .int x78), (3, .int x79)]) (ci := 10) (by omega) dL_law_603 ke_X11_play kv_L_53 rfl rfl (by decide) (Nat.le_of_ble_eq_true rfl) rfl rfl rfl rfl h (fun _ hq => s_X11_play (by omega) hq) (fun x81 M80 h => ?_)
      refine v_aload_n dL_law_606 rfl 2 rfl ?_
      refine v_aload_n dL_law_607 rfl 0 rfl ?_
      refine v_iload_n dL_law_608 rfl 3 rfl ?_
      refine v_iconst dL_law_609 ic_1 ?_
      refine v_iadd dL_law_610 ?_
      refine x_ldS dL_law_611 h (fun x82 h => ?_)
      refine v_aload_n dL_law_612 rfl 0 rfl ?_
      refine v_iload_n dL_law_613 rfl 3 rfl ?_
      refine v_iconst dL_law_614 ic_2 ?_
      refine v_iadd dL_law_615 ?_
      refine x_ldS dL_law_616 h (fun x83 h => ?_)
      refine v_aload_n dL_law_617 rfl 0 rfl ?_
      refine v_iload_n dL_law_618 rfl 3 rfl ?_
      refine v_iconst dL_law_619 ic_3 ?_
      refine v_iadd dL_law_620 ?_
      refine x_ldS dL_law_621 h (fun x84 h => ?_)
      refine x_inv (cv := cI) (As := [.int x82, .int x83, .int x84]) (rest := [.int x81]) (ls2 := [(0, .ref v2), (1, .int x82), (2, .int x83), (3, .int x84)]) (ci := 11) (by omega) dL_law_622 ke_X12_play kv_L_56 rfl rfl (by decide) (Nat.le_of_ble_eq_true rfl) rfl rfl rfl rfl h (fun _ hq => s_X12_play (by omega) hq) (fun x86 M85 h => ?_)
      refine x_ic_eq (tgt := 1180) dL_law_625 (by decide) h (fun h => ?_) (fun h => ?_)
      · exact t_L_law_1180 hd_ hk18 h
      · refine v_iconst dL_law_628 ic_0 ?_
        exact x_zret dL_law_629 rfl h
    rcases x_br h with ⟨hc, h⟩ | ⟨hc10, h⟩
    · refine v_table (off := 597) (tgt := 630) dL_law_33 (by decide) (by rw [hc]; decide +kernel) (by decide) ?_
      refine v_aload_n dL_law_630 rfl 1 rfl ?_
      refine v_aload_n dL_law_631 rfl 0 rfl ?_
      refine v_iload_n dL_law_632 rfl 3 rfl ?_
      refine v_iconst dL_law_633 ic_1 ?_
      refine v_iadd dL_law_634 ?_
      refine x_ldS dL_law_635 h (fun x87 h => ?_)
      refine v_aload_n dL_law_636 rfl 0 rfl ?_
      refine v_iload_n dL_law_637 rfl 3 rfl ?_
      refine v_iconst dL_law_638 ic_2 ?_
      refine v_iadd dL_law_639 ?_
      refine x_ldS dL_law_640 h (fun x88 h => ?_)
      refine x_inv (cv := cI) (As := [.int x87, .int x88]) (rest := []) (ls2 := [(0, .ref v1), (1, .int x87), (2, .int x88)]) (ci := 10) (by omega) dL_law_641 ke_X11_pick kv_L_57 rfl rfl (by decide) (Nat.le_of_ble_eq_true rfl) rfl rfl rfl rfl h (fun _ hq => s_X11_pick (by omega) hq) (fun x90 M89 h => ?_)
      refine v_aload_n dL_law_644 rfl 2 rfl ?_
      refine v_aload_n dL_law_645 rfl 0 rfl ?_
      refine v_iload_n dL_law_646 rfl 3 rfl ?_
      refine v_iconst dL_law_647 ic_1 ?_
      refine v_iadd dL_law_648 ?_
      refine x_ldS dL_law_649 h (fun x91 h => ?_)
      refine v_aload_n dL_law_650 rfl 0 rfl ?_
      refine v_iload_n dL_law_651 rfl 3 rfl ?_
      refine v_iconst dL_law_652 ic_2 ?_
      refine v_iadd dL_law_653 ?_
      refine x_ldS dL_law_654 h (fun x92 h => ?_)
      refine x_inv (cv := cI) (As := [.int x91, .int x92]) (rest := [.int x90]) (ls2 := [(0, .ref v2), (1, .int x91), (2, .int x92)]) (ci := 11) (by omega) dL_law_655 ke_X12_pick kv_L_60 rfl rfl (by decide) (Nat.le_of_ble_eq_true rfl) rfl rfl rfl rfl h (fun _ hq => s_X12_pick (by omega) hq) (fun x94 M93 h => ?_)
      refine x_ic_eq (tgt := 1180) dL_law_658 (by decide) h (fun h => ?_) (fun h => ?_)
      · exact t_L_law_1180 hd_ hk18 h
      · refine v_iconst dL_law_661 ic_0 ?_
        exact x_zret dL_law_662 rfl h
    rcases x_br h with ⟨hc, h⟩ | ⟨hc11, h⟩
    · refine v_table (off := 630) (tgt := 663) dL_law_33 (by decide) (by rw [hc]; decide +kernel) (by decide) ?_
      refine v_aload_n dL_law_663 rfl 1 rfl ?_
      refine v_aload_n dL_law_664 rfl 0 rfl ?_
      refine v_iload_n dL_law_665 rfl 3 rfl ?_
      refine v_iconst dL_law_666 ic_1 ?_
      refine v_iadd dL_law_667 ?_
      refine x_ldS dL_law_668 h (fun x95 h => ?_)
      refine x_inv (cv := cI) (As := [.int x95]) (rest := []) (ls2 := [(0, .ref v1), (1, .int x95)]) (ci := 10) (by omega) dL_law_669 ke_X11_answer kv_L_61 rfl rfl (by decide) (Nat.le_of_ble_eq_true rfl) rfl rfl rfl rfl h (fun _ hq => s_X11_answer (by omega) hq) (fun x97 M96 h => ?_)
      refine v_aload_n dL_law_672 rfl 2 rfl ?_
      refine v_aload_n dL_law_673 rfl 0 rfl ?_
      refine v_iload_n dL_law_674 rfl 3 rfl ?_
      refine v_iconst dL_law_675 ic_1 ?_
      refine v_iadd dL_law_676 ?_
      refine x_ldS dL_law_677 h (fun x98 h => ?_)
      refine x_inv (cv := cI) (As := [.int x98]) (rest := [.int x97]) (ls2 := [(0, .ref v2), (1, .int x98)]) (ci := 11) (by omega) dL_law_678 ke_X12_answer kv_L_65 rfl rfl (by decide) (Nat.le_of_ble_eq_true rfl) rfl rfl rfl rfl h (fun _ hq => s_X12_answer (by omega) hq) (fun x100 M99 h => ?_)
      refine x_ic_eq (tgt := 1180) dL_law_681 (by decide) h (fun h => ?_) (fun h => ?_)
      · exact t_L_law_1180 hd_ hk18 h
      · refine v_iconst dL_law_684 ic_0 ?_
        exact x_zret dL_law_685 rfl h
    rcases x_br h with ⟨hc, h⟩ | ⟨hc12, h⟩
    · refine v_table (off := 653) (tgt := 686) dL_law_33 (by decide) (by rw [hc]; decide +kernel) (by decide) ?_
      refine v_aload_n dL_law_686 rfl 1 rfl ?_
      refine x_inv (cv := cI) (As := []) (rest := []) (ls2 := [(0, .ref v1)]) (ci := 10) (by omega) dL_law_687 ke_X11_best kv_L_66 rfl rfl (by decide) (Nat.le_of_ble_eq_true rfl) rfl rfl rfl rfl h (fun _ hq => s_X11_best (by omega) hq) (fun x102 M101 h => ?_)
      refine v_aload_n dL_law_690 rfl 2 rfl ?_
      refine x_inv (cv := cI) (As := []) (rest := [.int x102]) (ls2 := [(0, .ref v2)]) (ci := 11) (by omega) dL_law_691 ke_X12_best kv_L_70 rfl rfl (by decide) (Nat.le_of_ble_eq_true rfl) rfl rfl rfl rfl h (fun _ hq => s_X12_best (by omega) hq) (fun x104 M103 h => ?_)
      refine x_ic_eq (tgt := 1180) dL_law_694 (by decide) h (fun h => ?_) (fun h => ?_)
      · exact t_L_law_1180 hd_ hk18 h
      · refine v_iconst dL_law_697 ic_0 ?_
        exact x_zret dL_law_698 rfl h
    rcases x_br h with ⟨hc, h⟩ | ⟨hc13, h⟩
    · refine v_table (off := 666) (tgt := 699) dL_law_33 (by decide) (by rw [hc]; decide +kernel) (by decide) ?_
      refine v_aload_n dL_law_699 rfl 1 rfl ?_
      refine x_inv (cv := cI) (As := []) (rest := []) (ls2 := [(0, .ref v1)]) (ci := 10) (by omega) dL_law_700 ke_X11_state kv_L_71 rfl rfl (by decide) (Nat.le_of_ble_eq_true rfl) rfl rfl rfl rfl h (fun _ hq => s_X11_state (by omega) hq) (fun x106 M105 h => ?_)
      refine v_aload_n dL_law_703 rfl 2 rfl ?_
      refine x_inv (cv := cI) (As := []) (rest := [.int x106]) (ls2 := [(0, .ref v2)]) (ci := 11) (by omega) dL_law_704 ke_X12_state kv_L_74 rfl rfl (by decide) (Nat.le_of_ble_eq_true rfl) rfl rfl rfl rfl h (fun _ hq => s_X12_state (by omega) hq) (fun x108 M107 h => ?_)
      refine x_ic_eq (tgt := 1180) dL_law_707 (by decide) h (fun h => ?_) (fun h => ?_)
      · exact t_L_law_1180 hd_ hk18 h
      · refine v_iconst dL_law_710 ic_0 ?_
        exact x_zret dL_law_711 rfl h
    rcases x_br h with ⟨hc, h⟩ | ⟨hc14, h⟩
    · refine v_table (off := 679) (tgt := 712) dL_law_33 (by decide) (by rw [hc]; decide +kernel) (by decide) ?_
      refine v_aload_n dL_law_712 rfl 1 rfl ?_
      refine x_inv (cv := cI) (As := []) (rest := []) (ls2 := [(0, .ref v1)]) (ci := 10) (by omega) dL_law_713 ke_X11_left kv_L_75 rfl rfl (by decide) (Nat.le_of_ble_eq_true rfl) rfl rfl rfl rfl h (fun _ hq => s_X11_left (by omega) hq) (fun x110 M109 h => ?_)
      refine v_aload_n dL_law_716 rfl 2 rfl ?_
      refine x_inv (cv := cI) (As := []) (rest := [.int x110]) (ls2 := [(0, .ref v2)]) (ci := 11) (by omega) dL_law_717 ke_X12_left kv_L_78 rfl rfl (by decide) (Nat.le_of_ble_eq_true rfl) rfl rfl rfl rfl h (fun _ hq => s_X12_left (by omega) hq) (fun x112 M111 h => ?_)
      refine x_ic_eq (tgt := 1180) dL_law_720 (by decide) h (fun h => ?_) (fun h => ?_)
      · exact t_L_law_1180 hd_ hk18 h
      · refine v_iconst dL_law_723 ic_0 ?_
        exact x_zret dL_law_724 rfl h
    rcases x_br h with ⟨hc, h⟩ | ⟨hc15, h⟩
    · refine v_table (off := 692) (tgt := 725) dL_law_33 (by decide) (by rw [hc]; decide +kernel) (by decide) ?_
      refine v_aload_n dL_law_725 rfl 1 rfl ?_
      refine v_aload_n dL_law_726 rfl 0 rfl ?_
      refine v_iload_n dL_law_727 rfl 3 rfl ?_
      refine v_iconst dL_law_728 ic_1 ?_
      refine v_iadd dL_law_729 ?_
      refine x_ldS dL_law_730 h (fun x113 h => ?_)
      refine v_aload_n dL_law_731 rfl 0 rfl ?_
      refine v_iload_n dL_law_732 rfl 3 rfl ?_
      refine v_iconst dL_law_733 ic_2 ?_
      refine v_iadd dL_law_734 ?_
      refine x_ldS dL_law_735 h (fun x114 h => ?_)
      refine v_aload_n dL_law_736 rfl 0 rfl ?_
      refine v_iload_n dL_law_737 rfl 3 rfl ?_
      refine v_iconst dL_law_738 ic_3 ?_
      refine v_iadd dL_law_739 ?_
      refine x_ldS dL_law_740 h (fun x115 h => ?_)
      refine v_aload_n dL_law_741 rfl 0 rfl ?_
      refine v_iload_n dL_law_742 rfl 3 rfl ?_
      refine v_iconst dL_law_743 ic_4 ?_
      refine v_iadd dL_law_744 ?_
      refine x_ldS dL_law_745 h (fun x116 h => ?_)
      refine v_aload_n dL_law_746 rfl 0 rfl ?_
      refine v_iload_n dL_law_747 rfl 3 rfl ?_
      refine v_iconst dL_law_748 ic_5 ?_
      refine v_iadd dL_law_749 ?_
      refine x_ldS dL_law_750 h (fun x117 h => ?_)
      refine x_inv (cv := cI) (As := [.int x113, .int x114, .int x115, .int x116, .int x117]) (rest := []) (ls2 := [(0, .ref v1), (1, .int x113), (2, .int x114), (3, .int x115), (4, .int x116), (5, .int x117)]) (ci := 10) (by omega) dL_law_751 ke_X11_feed kv_L_79 rfl rfl (by decide) (Nat.le_of_ble_eq_true rfl) rfl rfl rfl rfl h (fun _ hq => s_X11_feed (by omega) hq) (fun x119 M118 h => ?_)
      refine v_aload_n dL_law_754 rfl 2 rfl ?_
      refine v_aload_n dL_law_755 rfl 0 rfl ?_
      refine v_iload_n dL_law_756 rfl 3 rfl ?_
      refine v_iconst dL_law_757 ic_1 ?_
      refine v_iadd dL_law_758 ?_
      refine x_ldS dL_law_759 h (fun x120 h => ?_)
      refine v_aload_n dL_law_760 rfl 0 rfl ?_
      refine v_iload_n dL_law_761 rfl 3 rfl ?_
      refine v_iconst dL_law_762 ic_2 ?_
      refine v_iadd dL_law_763 ?_
      refine x_ldS dL_law_764 h (fun x121 h => ?_)
      refine v_aload_n dL_law_765 rfl 0 rfl ?_
      refine v_iload_n dL_law_766 rfl 3 rfl ?_
      refine v_iconst dL_law_767 ic_3 ?_
      refine v_iadd dL_law_768 ?_
      refine x_ldS dL_law_769 h (fun x122 h => ?_)
      refine v_aload_n dL_law_770 rfl 0 rfl ?_
      refine v_iload_n dL_law_771 rfl 3 rfl ?_
      refine v_iconst dL_law_772 ic_4 ?_
      refine v_iadd dL_law_773 ?_
      refine x_ldS dL_law_774 h (fun x123 h => ?_)
      refine v_aload_n dL_law_775 rfl 0 rfl ?_
      refine v_iload_n dL_law_776 rfl 3 rfl ?_
      refine v_iconst dL_law_777 ic_5 ?_
      refine v_iadd dL_law_778 ?_
      refine x_ldS dL_law_779 h (fun x124 h => ?_)
      refine x_inv (cv := cI) (As := [.int x120, .int x121, .int x122, .int x123, .int x124]) (rest := [.int x119]) (ls2 := [(0, .ref v2), (1, .int x120), (2, .int x121), (3, .int x122), (4, .int x123), (5, .int x124)]) (ci := 11) (by omega) dL_law_780 ke_X12_feed kv_L_83 rfl rfl (by decide) (Nat.le_of_ble_eq_true rfl) rfl rfl rfl rfl h (fun _ hq => s_X12_feed (by omega) hq) (fun x126 M125 h => ?_)
      refine x_ic_eq (tgt := 1180) dL_law_783 (by decide) h (fun h => ?_) (fun h => ?_)
      · exact t_L_law_1180 hd_ hk18 h
      · refine v_iconst dL_law_786 ic_0 ?_
        exact x_zret dL_law_787 rfl h
    rcases x_br h with ⟨hc, h⟩ | ⟨hc16, h⟩
    · refine v_table (off := 755) (tgt := 788) dL_law_33 (by decide) (by rw [hc]; decide +kernel) (by decide) ?_
      refine v_aload_n dL_law_788 rfl 1 rfl ?_
      refine v_aload_n dL_law_789 rfl 0 rfl ?_
      refine v_iload_n dL_law_790 rfl 3 rfl ?_
      refine v_iconst dL_law_791 ic_1 ?_
      refine v_iadd dL_law_792 ?_
      refine x_ldS dL_law_793 h (fun x127 h => ?_)
      refine x_inv (cv := cI) (As := [.int x127]) (rest := []) (ls2 := [(0, .ref v1), (1, .int x127)]) (ci := 10) (by omega) dL_law_794 ke_X11_trim kv_L_84 rfl rfl (by decide) (Nat.le_of_ble_eq_true rfl) rfl rfl rfl rfl h (fun _ hq => s_X11_trim (by omega) hq) (fun x129 M128 h => ?_)
      refine v_aload_n dL_law_797 rfl 2 rfl ?_
      refine v_aload_n dL_law_798 rfl 0 rfl ?_
      refine v_iload_n dL_law_799 rfl 3 rfl ?_
      refine v_iconst dL_law_800 ic_1 ?_
      refine v_iadd dL_law_801 ?_
      refine x_ldS dL_law_802 h (fun x130 h => ?_)
      refine x_inv (cv := cI) (As := [.int x130]) (rest := [.int x129]) (ls2 := [(0, .ref v2), (1, .int x130)]) (ci := 11) (by omega) dL_law_803 ke_X12_trim kv_L_87 rfl rfl (by decide) (Nat.le_of_ble_eq_true rfl) rfl rfl rfl rfl h (fun _ hq => s_X12_trim (by omega) hq) (fun x132 M131 h => ?_)
      refine x_ic_eq (tgt := 1180) dL_law_806 (by decide) h (fun h => ?_) (fun h => ?_)
      · exact t_L_law_1180 hd_ hk18 h
      · refine v_iconst dL_law_809 ic_0 ?_
        exact x_zret dL_law_810 rfl h
    rcases x_br h with ⟨hc, h⟩ | ⟨hc17, h⟩
    · refine v_table (off := 778) (tgt := 811) dL_law_33 (by decide) (by rw [hc]; decide +kernel) (by decide) ?_
      refine v_aload_n dL_law_811 rfl 1 rfl ?_
      refine x_inv (cv := cI) (As := []) (rest := []) (ls2 := [(0, .ref v1)]) (ci := 10) (by omega) dL_law_812 ke_X11_read kv_L_88 rfl rfl (by decide) (Nat.le_of_ble_eq_true rfl) rfl rfl rfl rfl h (fun _ hq => s_X11_read (by omega) hq) (fun x134 M133 h => ?_)
      refine v_aload_n dL_law_815 rfl 2 rfl ?_
      refine x_inv (cv := cI) (As := []) (rest := [.int x134]) (ls2 := [(0, .ref v2)]) (ci := 11) (by omega) dL_law_816 ke_X12_read kv_L_91 rfl rfl (by decide) (Nat.le_of_ble_eq_true rfl) rfl rfl rfl rfl h (fun _ hq => s_X12_read (by omega) hq) (fun x136 M135 h => ?_)
      refine x_ic_eq (tgt := 1180) dL_law_819 (by decide) h (fun h => ?_) (fun h => ?_)
      · exact t_L_law_1180 hd_ hk18 h
      · refine v_iconst dL_law_822 ic_0 ?_
        exact x_zret dL_law_823 rfl h
    rcases x_br h with ⟨hc, h⟩ | ⟨hc18, h⟩
    · refine v_table (off := 791) (tgt := 824) dL_law_33 (by decide) (by rw [hc]; decide +kernel) (by decide) ?_
      refine v_aload_n dL_law_824 rfl 1 rfl ?_
      refine v_aload_n dL_law_825 rfl 0 rfl ?_
      refine v_iload_n dL_law_826 rfl 3 rfl ?_
      refine v_iconst dL_law_827 ic_1 ?_
      refine v_iadd dL_law_828 ?_
      refine x_ldS dL_law_829 h (fun x137 h => ?_)
      refine v_aload_n dL_law_830 rfl 0 rfl ?_
      refine v_iload_n dL_law_831 rfl 3 rfl ?_
      refine v_iconst dL_law_832 ic_2 ?_
      refine v_iadd dL_law_833 ?_
      refine x_ldS dL_law_834 h (fun x138 h => ?_)
      refine x_inv (cv := cI) (As := [.int x137, .int x138]) (rest := []) (ls2 := [(0, .ref v1), (1, .int x137), (2, .int x138)]) (ci := 10) (by omega) dL_law_835 ke_X11_sentence kv_L_92 rfl rfl (by decide) (Nat.le_of_ble_eq_true rfl) rfl rfl rfl rfl h (fun _ hq => s_X11_sentence (by omega) hq) (fun x140 M139 h => ?_)
      refine v_aload_n dL_law_838 rfl 2 rfl ?_
      refine v_aload_n dL_law_839 rfl 0 rfl ?_
      refine v_iload_n dL_law_840 rfl 3 rfl ?_
      refine v_iconst dL_law_841 ic_1 ?_
      refine v_iadd dL_law_842 ?_
      refine x_ldS dL_law_843 h (fun x141 h => ?_)
      refine v_aload_n dL_law_844 rfl 0 rfl ?_
      refine v_iload_n dL_law_845 rfl 3 rfl ?_
      refine v_iconst dL_law_846 ic_2 ?_
      refine v_iadd dL_law_847 ?_
      refine x_ldS dL_law_848 h (fun x142 h => ?_)
      refine x_inv (cv := cI) (As := [.int x141, .int x142]) (rest := [.int x140]) (ls2 := [(0, .ref v2), (1, .int x141), (2, .int x142)]) (ci := 11) (by omega) dL_law_849 ke_X12_sentence kv_L_95 rfl rfl (by decide) (Nat.le_of_ble_eq_true rfl) rfl rfl rfl rfl h (fun _ hq => s_X12_sentence (by omega) hq) (fun x144 M143 h => ?_)
      refine x_ic_eq (tgt := 1180) dL_law_852 (by decide) h (fun h => ?_) (fun h => ?_)
      · exact t_L_law_1180 hd_ hk18 h
      · refine v_iconst dL_law_855 ic_0 ?_
        exact x_zret dL_law_856 rfl h
    rcases x_br h with ⟨hc, h⟩ | ⟨hc19, h⟩
    · refine v_table (off := 824) (tgt := 857) dL_law_33 (by decide) (by rw [hc]; decide +kernel) (by decide) ?_
      refine v_aload_n dL_law_857 rfl 1 rfl ?_
      refine v_aload_n dL_law_858 rfl 0 rfl ?_
      refine v_iload_n dL_law_859 rfl 3 rfl ?_
      refine v_iconst dL_law_860 ic_1 ?_
      refine v_iadd dL_law_861 ?_
      refine x_ldS dL_law_862 h (fun x145 h => ?_)
      refine v_aload_n dL_law_863 rfl 0 rfl ?_
      refine v_iload_n dL_law_864 rfl 3 rfl ?_
      refine v_iconst dL_law_865 ic_2 ?_
      refine v_iadd dL_law_866 ?_
      refine x_ldS dL_law_867 h (fun x146 h => ?_)
      refine x_inv (cv := cI) (As := [.int x145, .int x146]) (rest := []) (ls2 := [(0, .ref v1), (1, .int x145), (2, .int x146)]) (ci := 10) (by omega) dL_law_868 ke_X11_written kv_L_96 rfl rfl (by decide) (Nat.le_of_ble_eq_true rfl) rfl rfl rfl rfl h (fun _ hq => s_X11_written (by omega) hq) (fun x148 M147 h => ?_)
      refine v_aload_n dL_law_871 rfl 2 rfl ?_
      refine v_aload_n dL_law_872 rfl 0 rfl ?_
      refine v_iload_n dL_law_873 rfl 3 rfl ?_
      refine v_iconst dL_law_874 ic_1 ?_
      refine v_iadd dL_law_875 ?_
      refine x_ldS dL_law_876 h (fun x149 h => ?_)
      refine v_aload_n dL_law_877 rfl 0 rfl ?_
      refine v_iload_n dL_law_878 rfl 3 rfl ?_
      refine v_iconst dL_law_879 ic_2 ?_
      refine v_iadd dL_law_880 ?_
      refine x_ldS dL_law_881 h (fun x150 h => ?_)
      refine x_inv (cv := cI) (As := [.int x149, .int x150]) (rest := [.int x148]) (ls2 := [(0, .ref v2), (1, .int x149), (2, .int x150)]) (ci := 11) (by omega) dL_law_882 ke_X12_written kv_L_99 rfl rfl (by decide) (Nat.le_of_ble_eq_true rfl) rfl rfl rfl rfl h (fun _ hq => s_X12_written (by omega) hq) (fun x152 M151 h => ?_)
      refine x_ic_eq (tgt := 1180) dL_law_885 (by decide) h (fun h => ?_) (fun h => ?_)
      · exact t_L_law_1180 hd_ hk18 h
      · refine v_iconst dL_law_888 ic_0 ?_
        exact x_zret dL_law_889 rfl h
    rcases x_br h with ⟨hc, h⟩ | ⟨hc20, h⟩
    · refine v_table (off := 857) (tgt := 890) dL_law_33 (by decide) (by rw [hc]; decide +kernel) (by decide) ?_
      refine v_aload_n dL_law_890 rfl 1 rfl ?_
      refine v_aload_n dL_law_891 rfl 0 rfl ?_
      refine v_iload_n dL_law_892 rfl 3 rfl ?_
      refine v_iconst dL_law_893 ic_1 ?_
      refine v_iadd dL_law_894 ?_
      refine x_ldS dL_law_895 h (fun x153 h => ?_)
      refine v_aload_n dL_law_896 rfl 0 rfl ?_
      refine v_iload_n dL_law_897 rfl 3 rfl ?_
      refine v_iconst dL_law_898 ic_2 ?_
      refine v_iadd dL_law_899 ?_
      refine x_ldS dL_law_900 h (fun x154 h => ?_)
      refine x_inv (cv := cI) (As := [.int x153, .int x154]) (rest := []) (ls2 := [(0, .ref v1), (1, .int x153), (2, .int x154)]) (ci := 10) (by omega) dL_law_901 ke_X11_holds kv_L_100 rfl rfl (by decide) (Nat.le_of_ble_eq_true rfl) rfl rfl rfl rfl h (fun _ hq => s_X11_holds (by omega) hq) (fun x156 M155 h => ?_)
      refine v_aload_n dL_law_904 rfl 2 rfl ?_
      refine v_aload_n dL_law_905 rfl 0 rfl ?_
      refine v_iload_n dL_law_906 rfl 3 rfl ?_
      refine v_iconst dL_law_907 ic_1 ?_
      refine v_iadd dL_law_908 ?_
      refine x_ldS dL_law_909 h (fun x157 h => ?_)
      refine v_aload_n dL_law_910 rfl 0 rfl ?_
      refine v_iload_n dL_law_911 rfl 3 rfl ?_
      refine v_iconst dL_law_912 ic_2 ?_
      refine v_iadd dL_law_913 ?_
      refine x_ldS dL_law_914 h (fun x158 h => ?_)
      refine x_inv (cv := cI) (As := [.int x157, .int x158]) (rest := [.int x156]) (ls2 := [(0, .ref v2), (1, .int x157), (2, .int x158)]) (ci := 11) (by omega) dL_law_915 ke_X12_holds kv_L_103 rfl rfl (by decide) (Nat.le_of_ble_eq_true rfl) rfl rfl rfl rfl h (fun _ hq => s_X12_holds (by omega) hq) (fun x160 M159 h => ?_)
      refine x_ic_eq (tgt := 1180) dL_law_918 (by decide) h (fun h => ?_) (fun h => ?_)
      · exact t_L_law_1180 hd_ hk18 h
      · refine v_iconst dL_law_921 ic_0 ?_
        exact x_zret dL_law_922 rfl h
    rcases x_br h with ⟨hc, h⟩ | ⟨hc21, h⟩
    · refine v_table (off := 890) (tgt := 923) dL_law_33 (by decide) (by rw [hc]; decide +kernel) (by decide) ?_
      refine v_aload_n dL_law_923 rfl 1 rfl ?_
      refine x_inv (cv := cI) (As := []) (rest := []) (ls2 := [(0, .ref v1)]) (ci := 10) (by omega) dL_law_924 ke_X11_asked kv_L_104 rfl rfl (by decide) (Nat.le_of_ble_eq_true rfl) rfl rfl rfl rfl h (fun _ hq => s_X11_asked (by omega) hq) (fun x162 M161 h => ?_)
      refine v_aload_n dL_law_927 rfl 2 rfl ?_
      refine x_inv (cv := cI) (As := []) (rest := [.int x162]) (ls2 := [(0, .ref v2)]) (ci := 11) (by omega) dL_law_928 ke_X12_asked kv_L_107 rfl rfl (by decide) (Nat.le_of_ble_eq_true rfl) rfl rfl rfl rfl h (fun _ hq => s_X12_asked (by omega) hq) (fun x164 M163 h => ?_)
      refine x_ic_eq (tgt := 1180) dL_law_931 (by decide) h (fun h => ?_) (fun h => ?_)
      · exact t_L_law_1180 hd_ hk18 h
      · refine v_iconst dL_law_934 ic_0 ?_
        exact x_zret dL_law_935 rfl h
    rcases x_br h with ⟨hc, h⟩ | ⟨hc22, h⟩
    · refine v_table (off := 903) (tgt := 936) dL_law_33 (by decide) (by rw [hc]; decide +kernel) (by decide) ?_
      refine v_aload_n dL_law_936 rfl 1 rfl ?_
      refine v_aload_n dL_law_937 rfl 0 rfl ?_
      refine v_iload_n dL_law_938 rfl 3 rfl ?_
      refine v_iconst dL_law_939 ic_1 ?_
      refine v_iadd dL_law_940 ?_
      refine x_ldS dL_law_941 h (fun x165 h => ?_)
      refine v_aload_n dL_law_942 rfl 0 rfl ?_
      refine v_iload_n dL_law_943 rfl 3 rfl ?_
      refine v_iconst dL_law_944 ic_2 ?_
      refine v_iadd dL_law_945 ?_
      refine x_ldS dL_law_946 h (fun x166 h => ?_)
      refine x_inv (cv := cI) (As := [.int x165, .int x166]) (rest := []) (ls2 := [(0, .ref v1), (1, .int x165), (2, .int x166)]) (ci := 10) (by omega) dL_law_947 ke_X11_same kv_L_108 rfl rfl (by decide) (Nat.le_of_ble_eq_true rfl) rfl rfl rfl rfl h (fun _ hq => s_X11_same (by omega) hq) (fun x168 M167 h => ?_)
      refine v_aload_n dL_law_950 rfl 2 rfl ?_
      refine v_aload_n dL_law_951 rfl 0 rfl ?_
      refine v_iload_n dL_law_952 rfl 3 rfl ?_
      refine v_iconst dL_law_953 ic_1 ?_
      refine v_iadd dL_law_954 ?_
      refine x_ldS dL_law_955 h (fun x169 h => ?_)
      refine v_aload_n dL_law_956 rfl 0 rfl ?_
      refine v_iload_n dL_law_957 rfl 3 rfl ?_
      refine v_iconst dL_law_958 ic_2 ?_
      refine v_iadd dL_law_959 ?_
      refine x_ldS dL_law_960 h (fun x170 h => ?_)
      refine x_inv (cv := cI) (As := [.int x169, .int x170]) (rest := [.int x168]) (ls2 := [(0, .ref v2), (1, .int x169), (2, .int x170)]) (ci := 11) (by omega) dL_law_961 ke_X12_same kv_L_111 rfl rfl (by decide) (Nat.le_of_ble_eq_true rfl) rfl rfl rfl rfl h (fun _ hq => s_X12_same (by omega) hq) (fun x172 M171 h => ?_)
      refine x_ic_eq (tgt := 1180) dL_law_964 (by decide) h (fun h => ?_) (fun h => ?_)
      · exact t_L_law_1180 hd_ hk18 h
      · refine v_iconst dL_law_967 ic_0 ?_
        exact x_zret dL_law_968 rfl h
    rcases x_br h with ⟨hc, h⟩ | ⟨hc23, h⟩
    · refine v_table (off := 936) (tgt := 969) dL_law_33 (by decide) (by rw [hc]; decide +kernel) (by decide) ?_
      refine v_aload_n dL_law_969 rfl 1 rfl ?_
      refine v_aload_n dL_law_970 rfl 0 rfl ?_
      refine v_iload_n dL_law_971 rfl 3 rfl ?_
      refine v_iconst dL_law_972 ic_1 ?_
      refine v_iadd dL_law_973 ?_
      refine x_ldS dL_law_974 h (fun x173 h => ?_)
      refine v_aload_n dL_law_975 rfl 0 rfl ?_
      refine v_iload_n dL_law_976 rfl 3 rfl ?_
      refine v_iconst dL_law_977 ic_2 ?_
      refine v_iadd dL_law_978 ?_
      refine x_ldS dL_law_979 h (fun x174 h => ?_)
      refine x_inv (cv := cI) (As := [.int x173, .int x174]) (rest := []) (ls2 := [(0, .ref v1), (1, .int x173), (2, .int x174)]) (ci := 10) (by omega) dL_law_980 ke_X11_part kv_L_112 rfl rfl (by decide) (Nat.le_of_ble_eq_true rfl) rfl rfl rfl rfl h (fun _ hq => s_X11_part (by omega) hq) (fun x176 M175 h => ?_)
      refine v_aload_n dL_law_983 rfl 2 rfl ?_
      refine v_aload_n dL_law_984 rfl 0 rfl ?_
      refine v_iload_n dL_law_985 rfl 3 rfl ?_
      refine v_iconst dL_law_986 ic_1 ?_
      refine v_iadd dL_law_987 ?_
      refine x_ldS dL_law_988 h (fun x177 h => ?_)
      refine v_aload_n dL_law_989 rfl 0 rfl ?_
      refine v_iload_n dL_law_990 rfl 3 rfl ?_
      refine v_iconst dL_law_991 ic_2 ?_
      refine v_iadd dL_law_992 ?_
      refine x_ldS dL_law_993 h (fun x178 h => ?_)
      refine x_inv (cv := cI) (As := [.int x177, .int x178]) (rest := [.int x176]) (ls2 := [(0, .ref v2), (1, .int x177), (2, .int x178)]) (ci := 11) (by omega) dL_law_994 ke_X12_part kv_L_115 rfl rfl (by decide) (Nat.le_of_ble_eq_true rfl) rfl rfl rfl rfl h (fun _ hq => s_X12_part (by omega) hq) (fun x180 M179 h => ?_)
      refine x_ic_eq (tgt := 1180) dL_law_997 (by decide) h (fun h => ?_) (fun h => ?_)
      · exact t_L_law_1180 hd_ hk18 h
      · refine v_iconst dL_law_1000 ic_0 ?_
        exact x_zret dL_law_1001 rfl h
    rcases x_br h with ⟨hc, h⟩ | ⟨hc24, h⟩
    · refine v_table (off := 969) (tgt := 1002) dL_law_33 (by decide) (by rw [hc]; decide +kernel) (by decide) ?_
      refine v_aload_n dL_law_1002 rfl 1 rfl ?_
      refine v_aload_n dL_law_1003 rfl 0 rfl ?_
      refine v_iload_n dL_law_1004 rfl 3 rfl ?_
      refine v_iconst dL_law_1005 ic_1 ?_
      refine v_iadd dL_law_1006 ?_
      refine x_ldS dL_law_1007 h (fun x181 h => ?_)
      refine v_aload_n dL_law_1008 rfl 0 rfl ?_
      refine v_iload_n dL_law_1009 rfl 3 rfl ?_
      refine v_iconst dL_law_1010 ic_2 ?_
      refine v_iadd dL_law_1011 ?_
      refine x_ldS dL_law_1012 h (fun x182 h => ?_)
      refine v_aload_n dL_law_1013 rfl 0 rfl ?_
      refine v_iload_n dL_law_1014 rfl 3 rfl ?_
      refine v_iconst dL_law_1015 ic_3 ?_
      refine v_iadd dL_law_1016 ?_
      refine x_ldS dL_law_1017 h (fun x183 h => ?_)
      refine x_inv (cv := cI) (As := [.int x181, .int x182, .int x183]) (rest := []) (ls2 := [(0, .ref v1), (1, .int x181), (2, .int x182), (3, .int x183)]) (ci := 10) (by omega) dL_law_1018 ke_X11_kinds kv_L_116 rfl rfl (by decide) (Nat.le_of_ble_eq_true rfl) rfl rfl rfl rfl h (fun _ hq => s_X11_kinds (by omega) hq) (fun x185 M184 h => ?_)
      refine v_aload_n dL_law_1021 rfl 2 rfl ?_
      refine v_aload_n dL_law_1022 rfl 0 rfl ?_
      refine v_iload_n dL_law_1023 rfl 3 rfl ?_
      refine v_iconst dL_law_1024 ic_1 ?_
      refine v_iadd dL_law_1025 ?_
      refine x_ldS dL_law_1026 h (fun x186 h => ?_)
      refine v_aload_n dL_law_1027 rfl 0 rfl ?_
      refine v_iload_n dL_law_1028 rfl 3 rfl ?_
      refine v_iconst dL_law_1029 ic_2 ?_
      refine v_iadd dL_law_1030 ?_
      refine x_ldS dL_law_1031 h (fun x187 h => ?_)
      refine v_aload_n dL_law_1032 rfl 0 rfl ?_
      refine v_iload_n dL_law_1033 rfl 3 rfl ?_
      refine v_iconst dL_law_1034 ic_3 ?_
      refine v_iadd dL_law_1035 ?_
      refine x_ldS dL_law_1036 h (fun x188 h => ?_)
      refine x_inv (cv := cI) (As := [.int x186, .int x187, .int x188]) (rest := [.int x185]) (ls2 := [(0, .ref v2), (1, .int x186), (2, .int x187), (3, .int x188)]) (ci := 11) (by omega) dL_law_1037 ke_X12_kinds kv_L_119 rfl rfl (by decide) (Nat.le_of_ble_eq_true rfl) rfl rfl rfl rfl h (fun _ hq => s_X12_kinds (by omega) hq) (fun x190 M189 h => ?_)
      refine x_ic_eq (tgt := 1180) dL_law_1040 (by decide) h (fun h => ?_) (fun h => ?_)
      · exact t_L_law_1180 hd_ hk18 h
      · refine v_iconst dL_law_1043 ic_0 ?_
        exact x_zret dL_law_1044 rfl h
    rcases x_br h with ⟨hc, h⟩ | ⟨hc25, h⟩
    · refine v_table (off := 1012) (tgt := 1045) dL_law_33 (by decide) (by rw [hc]; decide +kernel) (by decide) ?_
      refine v_aload_n dL_law_1045 rfl 1 rfl ?_
      refine v_aload_n dL_law_1046 rfl 0 rfl ?_
      refine v_iload_n dL_law_1047 rfl 3 rfl ?_
      refine v_iconst dL_law_1048 ic_1 ?_
      refine v_iadd dL_law_1049 ?_
      refine x_ldS dL_law_1050 h (fun x191 h => ?_)
      refine x_inv (cv := cI) (As := [.int x191]) (rest := []) (ls2 := [(0, .ref v1), (1, .int x191)]) (ci := 10) (by omega) dL_law_1051 ke_X11_kind kv_L_120 rfl rfl (by decide) (Nat.le_of_ble_eq_true rfl) rfl rfl rfl rfl h (fun _ hq => s_X11_kind (by omega) hq) (fun x193 M192 h => ?_)
      refine v_aload_n dL_law_1054 rfl 2 rfl ?_
      refine v_aload_n dL_law_1055 rfl 0 rfl ?_
      refine v_iload_n dL_law_1056 rfl 3 rfl ?_
      refine v_iconst dL_law_1057 ic_1 ?_
      refine v_iadd dL_law_1058 ?_
      refine x_ldS dL_law_1059 h (fun x194 h => ?_)
      refine x_inv (cv := cI) (As := [.int x194]) (rest := [.int x193]) (ls2 := [(0, .ref v2), (1, .int x194)]) (ci := 11) (by omega) dL_law_1060 ke_X12_kind kv_L_123 rfl rfl (by decide) (Nat.le_of_ble_eq_true rfl) rfl rfl rfl rfl h (fun _ hq => s_X12_kind (by omega) hq) (fun x196 M195 h => ?_)
      refine x_ic_eq (tgt := 1180) dL_law_1063 (by decide) h (fun h => ?_) (fun h => ?_)
      · exact t_L_law_1180 hd_ hk18 h
      · refine v_iconst dL_law_1066 ic_0 ?_
        exact x_zret dL_law_1067 rfl h
    rcases x_br h with ⟨hc, h⟩ | ⟨hc26, h⟩
    · refine v_table (off := 1035) (tgt := 1068) dL_law_33 (by decide) (by rw [hc]; decide +kernel) (by decide) ?_
      refine v_aload_n dL_law_1068 rfl 1 rfl ?_
      refine v_aload_n dL_law_1069 rfl 0 rfl ?_
      refine v_iload_n dL_law_1070 rfl 3 rfl ?_
      refine v_iconst dL_law_1071 ic_1 ?_
      refine v_iadd dL_law_1072 ?_
      refine x_ldS dL_law_1073 h (fun x197 h => ?_)
      refine v_aload_n dL_law_1074 rfl 0 rfl ?_
      refine v_iload_n dL_law_1075 rfl 3 rfl ?_
      refine v_iconst dL_law_1076 ic_2 ?_
      refine v_iadd dL_law_1077 ?_
      refine x_ldS dL_law_1078 h (fun x198 h => ?_)
      refine v_aload_n dL_law_1079 rfl 0 rfl ?_
      refine v_iload_n dL_law_1080 rfl 3 rfl ?_
      refine v_iconst dL_law_1081 ic_3 ?_
      refine v_iadd dL_law_1082 ?_
      refine x_ldS dL_law_1083 h (fun x199 h => ?_)
      refine x_inv (cv := cI) (As := [.int x197, .int x198, .int x199]) (rest := []) (ls2 := [(0, .ref v1), (1, .int x197), (2, .int x198), (3, .int x199)]) (ci := 10) (by omega) dL_law_1084 ke_X11_colour kv_L_124 rfl rfl (by decide) (Nat.le_of_ble_eq_true rfl) rfl rfl rfl rfl h (fun _ hq => s_X11_colour (by omega) hq) (fun x201 M200 h => ?_)
      refine v_aload_n dL_law_1087 rfl 2 rfl ?_
      refine v_aload_n dL_law_1088 rfl 0 rfl ?_
      refine v_iload_n dL_law_1089 rfl 3 rfl ?_
      refine v_iconst dL_law_1090 ic_1 ?_
      refine v_iadd dL_law_1091 ?_
      refine x_ldS dL_law_1092 h (fun x202 h => ?_)
      refine v_aload_n dL_law_1093 rfl 0 rfl ?_
      refine v_iload_n dL_law_1094 rfl 3 rfl ?_
      refine v_iconst dL_law_1095 ic_2 ?_
      refine v_iadd dL_law_1096 ?_
      refine x_ldS dL_law_1097 h (fun x203 h => ?_)
      refine v_aload_n dL_law_1098 rfl 0 rfl ?_
      refine v_iload_n dL_law_1099 rfl 3 rfl ?_
      refine v_iconst dL_law_1100 ic_3 ?_
      refine v_iadd dL_law_1101 ?_
      refine x_ldS dL_law_1102 h (fun x204 h => ?_)
      refine x_inv (cv := cI) (As := [.int x202, .int x203, .int x204]) (rest := [.int x201]) (ls2 := [(0, .ref v2), (1, .int x202), (2, .int x203), (3, .int x204)]) (ci := 11) (by omega) dL_law_1103 ke_X12_colour kv_L_127 rfl rfl (by decide) (Nat.le_of_ble_eq_true rfl) rfl rfl rfl rfl h (fun _ hq => s_X12_colour (by omega) hq) (fun x206 M205 h => ?_)
      refine x_ic_eq (tgt := 1180) dL_law_1106 (by decide) h (fun h => ?_) (fun h => ?_)
      · exact t_L_law_1180 hd_ hk18 h
      · refine v_iconst dL_law_1109 ic_0 ?_
        exact x_zret dL_law_1110 rfl h
    rcases x_br h with ⟨hc, h⟩ | ⟨hc27, h⟩
    · refine v_table (off := 1078) (tgt := 1111) dL_law_33 (by decide) (by rw [hc]; decide +kernel) (by decide) ?_
      refine v_aload_n dL_law_1111 rfl 1 rfl ?_
      refine v_aload_n dL_law_1112 rfl 0 rfl ?_
      refine v_iload_n dL_law_1113 rfl 3 rfl ?_
      refine v_iconst dL_law_1114 ic_1 ?_
      refine v_iadd dL_law_1115 ?_
      refine x_ldS dL_law_1116 h (fun x207 h => ?_)
      refine x_inv (cv := cI) (As := [.int x207]) (rest := []) (ls2 := [(0, .ref v1), (1, .int x207)]) (ci := 10) (by omega) dL_law_1117 ke_X11_coloured kv_L_128 rfl rfl (by decide) (Nat.le_of_ble_eq_true rfl) rfl rfl rfl rfl h (fun _ hq => s_X11_coloured (by omega) hq) (fun x209 M208 h => ?_)
      refine v_aload_n dL_law_1120 rfl 2 rfl ?_
      refine v_aload_n dL_law_1121 rfl 0 rfl ?_
      refine v_iload_n dL_law_1122 rfl 3 rfl ?_
      refine v_iconst dL_law_1123 ic_1 ?_
      refine v_iadd dL_law_1124 ?_
      refine x_ldS dL_law_1125 h (fun x210 h => ?_)
      refine x_inv (cv := cI) (As := [.int x210]) (rest := [.int x209]) (ls2 := [(0, .ref v2), (1, .int x210)]) (ci := 11) (by omega) dL_law_1126 ke_X12_coloured kv_L_131 rfl rfl (by decide) (Nat.le_of_ble_eq_true rfl) rfl rfl rfl rfl h (fun _ hq => s_X12_coloured (by omega) hq) (fun x212 M211 h => ?_)
      refine x_ic_eq (tgt := 1180) dL_law_1129 (by decide) h (fun h => ?_) (fun h => ?_)
      · exact t_L_law_1180 hd_ hk18 h
      · refine v_iconst dL_law_1132 ic_0 ?_
        exact x_zret dL_law_1133 rfl h
    rcases x_br h with ⟨hc, h⟩ | ⟨hc28, h⟩
    · refine v_table (off := 1101) (tgt := 1134) dL_law_33 (by decide) (by rw [hc]; decide +kernel) (by decide) ?_
      refine v_aload_n dL_law_1134 rfl 1 rfl ?_
      refine v_aload_n dL_law_1135 rfl 0 rfl ?_
      refine v_iload_n dL_law_1136 rfl 3 rfl ?_
      refine v_iconst dL_law_1137 ic_1 ?_
      refine v_iadd dL_law_1138 ?_
      refine x_ldS dL_law_1139 h (fun x213 h => ?_)
      refine x_inv (cv := cI) (As := [.int x213]) (rest := []) (ls2 := [(0, .ref v1), (1, .int x213)]) (ci := 10) (by omega) dL_law_1140 ke_X11_still kv_L_132 rfl rfl (by decide) (Nat.le_of_ble_eq_true rfl) rfl rfl rfl rfl h (fun _ hq => s_X11_still (by omega) hq) (fun x215 M214 h => ?_)
      refine v_aload_n dL_law_1143 rfl 2 rfl ?_
      refine v_aload_n dL_law_1144 rfl 0 rfl ?_
      refine v_iload_n dL_law_1145 rfl 3 rfl ?_
      refine v_iconst dL_law_1146 ic_1 ?_
      refine v_iadd dL_law_1147 ?_
      refine x_ldS dL_law_1148 h (fun x216 h => ?_)
      refine x_inv (cv := cI) (As := [.int x216]) (rest := [.int x215]) (ls2 := [(0, .ref v2), (1, .int x216)]) (ci := 11) (by omega) dL_law_1149 ke_X12_still kv_L_135 rfl rfl (by decide) (Nat.le_of_ble_eq_true rfl) rfl rfl rfl rfl h (fun _ hq => s_X12_still (by omega) hq) (fun x218 M217 h => ?_)
      refine x_ic_eq (tgt := 1180) dL_law_1152 (by decide) h (fun h => ?_) (fun h => ?_)
      · exact t_L_law_1180 hd_ hk18 h
      · refine v_iconst dL_law_1155 ic_0 ?_
        exact x_zret dL_law_1156 rfl h
    rcases x_br h with ⟨hc, h⟩ | ⟨hc29, h⟩
    · refine v_table (off := 1124) (tgt := 1157) dL_law_33 (by decide) (by rw [hc]; decide +kernel) (by decide) ?_
      refine v_aload_n dL_law_1157 rfl 1 rfl ?_
      refine v_aload_n dL_law_1158 rfl 0 rfl ?_
      refine v_iload_n dL_law_1159 rfl 3 rfl ?_
      refine v_iconst dL_law_1160 ic_1 ?_
      refine v_iadd dL_law_1161 ?_
      refine x_ldS dL_law_1162 h (fun x219 h => ?_)
      refine x_inv (cv := cI) (As := [.int x219]) (rest := []) (ls2 := [(0, .ref v1), (1, .int x219)]) (ci := 10) (by omega) dL_law_1163 ke_X11_told kv_L_136 rfl rfl (by decide) (Nat.le_of_ble_eq_true rfl) rfl rfl rfl rfl h (fun _ hq => s_X11_told (by omega) hq) (fun x221 M220 h => ?_)
      refine v_aload_n dL_law_1166 rfl 2 rfl ?_
      refine v_aload_n dL_law_1167 rfl 0 rfl ?_
      refine v_iload_n dL_law_1168 rfl 3 rfl ?_
      refine v_iconst dL_law_1169 ic_1 ?_
      refine v_iadd dL_law_1170 ?_
      refine x_ldS dL_law_1171 h (fun x222 h => ?_)
      refine x_inv (cv := cI) (As := [.int x222]) (rest := [.int x221]) (ls2 := [(0, .ref v2), (1, .int x222)]) (ci := 11) (by omega) dL_law_1172 ke_X12_told kv_L_139 rfl rfl (by decide) (Nat.le_of_ble_eq_true rfl) rfl rfl rfl rfl h (fun _ hq => s_X12_told (by omega) hq) (fun x224 M223 h => ?_)
      refine x_ic_eq (tgt := 1180) dL_law_1175 (by decide) h (fun h => ?_) (fun h => ?_)
      · exact t_L_law_1180 hd_ hk18 h
      · refine v_iconst dL_law_1178 ic_0 ?_
        exact x_zret dL_law_1179 rfl h
    have he0 := x_ne hc0 (z := 0) (by decide +kernel)
    have he1 := x_ne hc1 (z := 1) (by decide +kernel)
    have he2 := x_ne hc2 (z := 2) (by decide +kernel)
    have he3 := x_ne hc3 (z := 3) (by decide +kernel)
    have he4 := x_ne hc4 (z := 4) (by decide +kernel)
    have he5 := x_ne hc5 (z := 5) (by decide +kernel)
    have he6 := x_ne hc6 (z := 6) (by decide +kernel)
    have he7 := x_ne hc7 (z := 7) (by decide +kernel)
    have he8 := x_ne hc8 (z := 8) (by decide +kernel)
    have he9 := x_ne hc9 (z := 9) (by decide +kernel)
    have he10 := x_ne hc10 (z := 10) (by decide +kernel)
    have he11 := x_ne hc11 (z := 11) (by decide +kernel)
    have he12 := x_ne hc12 (z := 12) (by decide +kernel)
    have he13 := x_ne hc13 (z := 13) (by decide +kernel)
    have he14 := x_ne hc14 (z := 14) (by decide +kernel)
    have he15 := x_ne hc15 (z := 15) (by decide +kernel)
    have he16 := x_ne hc16 (z := 16) (by decide +kernel)
    have he17 := x_ne hc17 (z := 17) (by decide +kernel)
    have he18 := x_ne hc18 (z := 18) (by decide +kernel)
    have he19 := x_ne hc19 (z := 19) (by decide +kernel)
    have he20 := x_ne hc20 (z := 20) (by decide +kernel)
    have he21 := x_ne hc21 (z := 21) (by decide +kernel)
    have he22 := x_ne hc22 (z := 22) (by decide +kernel)
    have he23 := x_ne hc23 (z := 23) (by decide +kernel)
    have he24 := x_ne hc24 (z := 24) (by decide +kernel)
    have he25 := x_ne hc25 (z := 25) (by decide +kernel)
    have he26 := x_ne hc26 (z := 26) (by decide +kernel)
    have he27 := x_ne hc27 (z := 27) (by decide +kernel)
    have he28 := x_ne hc28 (z := 28) (by decide +kernel)
    have he29 := x_ne hc29 (z := 29) (by decide +kernel)
    have hj_ : jtab (1147) (0) (29) #[135, 168, 237, 306, 359, 402, 435, 478, 521, 554, 597, 630, 653, 666, 679, 692, 755, 778, 791, 824, 857, 890, 903, 936, 969, 1012, 1035, 1078, 1101, 1124] (x2 &&& (nI 31)).toInt = 1147 := by
      unfold jtab
      split
      · rfl
      · exfalso; omega
    refine v_table (off := 1147) (tgt := 1180) dL_law_33 (by decide) hj_ (by decide) ?_
    exact t_L_law_1180 hd_ hk18 h
theorem t_L_law_18 {G : jG} {d : Nat} (hd_ : 208 ≤ d)  : ∀ (n : Nat) (v0 : Nat) (v1 : Nat) (v2 : Nat) (v3 : Int32) (M : jM) (b : Int32 × jM), l_L_law_18  n v0 v1 v2 v3 M = some b → V G m_L_law d 18 [(0, .ref v0), (1, .ref v1), (2, .ref v2), (3, .int v3)] [] M (jQb cI b) := by
  intro n
  induction n with
  | zero => intro v0 v1 v2 v3 M b h; exact nomatch (show (none : jO Int32) = some b from h)
  | succ n ih => intro v0 v1 v2 v3 M b h; exact tb_L_law_18 hd_  ih h
def f_L_law (v0 : Nat) (M : jM) : jO Int32 :=
  jb2 (nO 10 M) fun a1 M2 =>
  jb2 (f_X11_init a1 M2) fun _ M3 =>
  jb2 (nO 11 M3) fun a4 M5 =>
  jb2 (f_X12_init a4 M5) fun _ M6 =>
  l_L_law_18 jF0 v0 a1 a4 (nI 0) M6
theorem s_L_law {G : jG} {d : Nat} (hd_ : 208 ≤ d) {v0 : Nat} {M : jM} {b : Int32 × jM} (h : f_L_law  v0 M = some b) : V G m_L_law d 0 [(0, .ref v0)] [] M (jQb cI b) := by
  unfold f_L_law at h
  refine x_nO dL_law_0 kc_L_7 h (fun a1 M2 h => ?_)
  refine v_dup dL_law_3 rfl ?_
  refine x_invI (cv := cU) (As := []) (rest := [.ref a1]) (ls2 := [(0, .ref a1)]) (by omega) dL_law_4 ke_X11_init rfl rfl ki_L_9.1 ki_L_9.2 (Nat.le_of_ble_eq_true rfl) rfl rfl rfl rfl h (fun _ hq => s_X11_init (by omega) hq) (fun _ M3 h => ?_)
  refine v_astore_n (ls2 := [(1, .ref a1), (0, .ref v0)]) dL_law_7 rfl (by decide) rfl ?_
  refine x_nO dL_law_8 kc_L_10 h (fun a4 M5 h => ?_)
  refine v_dup dL_law_11 rfl ?_
  refine x_invI (cv := cU) (As := []) (rest := [.ref a4]) (ls2 := [(0, .ref a4)]) (by omega) dL_law_12 ke_X12_init rfl rfl ki_L_12.1 ki_L_12.2 (Nat.le_of_ble_eq_true rfl) rfl rfl rfl rfl h (fun _ hq => s_X12_init (by omega) hq) (fun _ M6 h => ?_)
  refine v_astore_n (ls2 := [(2, .ref a4), (1, .ref a1), (0, .ref v0)]) dL_law_15 rfl (by decide) rfl ?_
  refine v_iconst dL_law_16 ic_0 ?_
  refine v_istore_n (ls2 := [(3, .int (nI 0)), (2, .ref a4), (1, .ref a1), (0, .ref v0)]) dL_law_17 rfl (by decide) rfl ?_
  exact V.pick [3, 2, 1, 0] rfl (t_L_law_18 hd_ _ _ _ _ _ _ _ h)
