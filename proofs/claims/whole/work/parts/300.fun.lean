theorem jcatQ (o : Option Nat) : (va_rf o).category = 1 := by cases o <;> rfl
theorem ic_m8 : Int32.ofInt (-8) = (-8 : Int32) := by decide
theorem ic_m1 : Int32.ofInt (-1) = (-1 : Int32) := by decide
theorem ic_0 : Int32.ofInt (0) = (nI 0) := by decide
theorem ic_1 : Int32.ofInt (1) = (nI 1) := by decide
theorem ic_2 : Int32.ofInt (2) = (nI 2) := by decide
theorem ic_3 : Int32.ofInt (3) = (nI 3) := by decide
theorem ic_4 : Int32.ofInt (4) = (nI 4) := by decide
theorem ic_5 : Int32.ofInt (5) = (nI 5) := by decide
theorem ic_6 : Int32.ofInt (6) = (nI 6) := by decide
theorem bp_m20 : (Int8.ofInt (-20)).toInt32 = (-20 : Int32) := by decide
theorem bp_m9 : (Int8.ofInt (-9)).toInt32 = (-9 : Int32) := by decide
theorem bp_m6 : (Int8.ofInt (-6)).toInt32 = (-6 : Int32) := by decide
theorem bp_m4 : (Int8.ofInt (-4)).toInt32 = (-4 : Int32) := by decide
theorem bp_m3 : (Int8.ofInt (-3)).toInt32 = (-3 : Int32) := by decide
theorem bp_m2 : (Int8.ofInt (-2)).toInt32 = (-2 : Int32) := by decide
theorem bp_6 : (Int8.ofInt (6)).toInt32 = (nI 6) := by decide
theorem bp_7 : (Int8.ofInt (7)).toInt32 = (nI 7) := by decide
theorem bp_8 : (Int8.ofInt (8)).toInt32 = (nI 8) := by decide
theorem bp_9 : (Int8.ofInt (9)).toInt32 = (nI 9) := by decide
theorem bp_10 : (Int8.ofInt (10)).toInt32 = (nI 10) := by decide
theorem bp_11 : (Int8.ofInt (11)).toInt32 = (nI 11) := by decide
theorem bp_12 : (Int8.ofInt (12)).toInt32 = (nI 12) := by decide
theorem bp_15 : (Int8.ofInt (15)).toInt32 = (nI 15) := by decide
theorem bp_16 : (Int8.ofInt (16)).toInt32 = (nI 16) := by decide
theorem bp_20 : (Int8.ofInt (20)).toInt32 = (nI 20) := by decide
theorem bp_24 : (Int8.ofInt (24)).toInt32 = (nI 24) := by decide
theorem bp_30 : (Int8.ofInt (30)).toInt32 = (nI 30) := by decide
theorem bp_31 : (Int8.ofInt (31)).toInt32 = (nI 31) := by decide
theorem bp_32 : (Int8.ofInt (32)).toInt32 = (nI 32) := by decide
theorem bp_36 : (Int8.ofInt (36)).toInt32 = (nI 36) := by decide
theorem bp_38 : (Int8.ofInt (38)).toInt32 = (nI 38) := by decide
theorem bp_40 : (Int8.ofInt (40)).toInt32 = (nI 40) := by decide
theorem bp_41 : (Int8.ofInt (41)).toInt32 = (nI 41) := by decide
theorem bp_45 : (Int8.ofInt (45)).toInt32 = (nI 45) := by decide
theorem bp_48 : (Int8.ofInt (48)).toInt32 = (nI 48) := by decide
theorem bp_61 : (Int8.ofInt (61)).toInt32 = (nI 61) := by decide
theorem bp_63 : (Int8.ofInt (63)).toInt32 = (nI 63) := by decide
theorem bp_64 : (Int8.ofInt (64)).toInt32 = (nI 64) := by decide
theorem bp_65 : (Int8.ofInt (65)).toInt32 = (nI 65) := by decide
theorem bp_66 : (Int8.ofInt (66)).toInt32 = (nI 66) := by decide
theorem bp_69 : (Int8.ofInt (69)).toInt32 = (nI 69) := by decide
theorem bp_70 : (Int8.ofInt (70)).toInt32 = (nI 70) := by decide
theorem bp_72 : (Int8.ofInt (72)).toInt32 = (nI 72) := by decide
theorem bp_84 : (Int8.ofInt (84)).toInt32 = (nI 84) := by decide
theorem bp_97 : (Int8.ofInt (97)).toInt32 = (nI 97) := by decide
theorem bp_104 : (Int8.ofInt (104)).toInt32 = (nI 104) := by decide
theorem bp_124 : (Int8.ofInt (124)).toInt32 = (nI 124) := by decide
theorem sp_255 : (Int16.ofInt (255)).toInt32 = (nI 255) := by decide
theorem sp_288 : (Int16.ofInt (288)).toInt32 = (nI 288) := by decide
theorem sp_600 : (Int16.ofInt (600)).toInt32 = (nI 600) := by decide
theorem sp_800 : (Int16.ofInt (800)).toInt32 = (nI 800) := by decide
theorem sp_1000 : (Int16.ofInt (1000)).toInt32 = (nI 1000) := by decide
theorem sp_1300 : (Int16.ofInt (1300)).toInt32 = (nI 1300) := by decide
theorem sp_8000 : (Int16.ofInt (8000)).toInt32 = (nI 8000) := by decide
theorem sp_12000 : (Int16.ofInt (12000)).toInt32 = (nI 12000) := by decide
theorem lc_0 : Int64.ofNat ((0 : Fin 2) : Nat) = (0 : Int64) := by decide
theorem lc_1 : Int64.ofNat ((1 : Fin 2) : Nat) = (1 : Int64) := by decide
def f_J6_bitCount_0f7a4 (v0 : Int32) (M : jM) : jO Int32 :=
  (jv (v0 - (((Int32.toUInt32 v0 >>> (Int32.toUInt32 (nI 1) &&& Int32.toUInt32 31)).toInt32) &&& (nI 1431655765)))).bind fun y1 =>
  (jv ((y1 &&& (nI 858993459)) + (((Int32.toUInt32 y1 >>> (Int32.toUInt32 (nI 2) &&& Int32.toUInt32 31)).toInt32) &&& (nI 858993459)))).bind fun y2 =>
  (jv ((y2 + ((Int32.toUInt32 y2 >>> (Int32.toUInt32 (nI 4) &&& Int32.toUInt32 31)).toInt32)) &&& (nI 252645135))).bind fun y3 =>
  (jv (y3 + ((Int32.toUInt32 y3 >>> (Int32.toUInt32 (nI 8) &&& Int32.toUInt32 31)).toInt32))).bind fun y4 =>
  (jv (y4 + ((Int32.toUInt32 y4 >>> (Int32.toUInt32 (nI 16) &&& Int32.toUInt32 31)).toInt32))).bind fun y5 =>
  rt (y5 &&& (nI 63)) M
theorem s_J6_bitCount_0f7a4 {G : jG} {d : Nat} (hd_ : 0 ≤ d) {v0 : Int32} {M : jM} {b : Int32 × jM} (h : f_J6_bitCount_0f7a4  v0 M = some b) : V G m_J6_bitCount_0f7a4 d 0 [(0, .int v0)] [] M (jQb cI b) := by
  unfold f_J6_bitCount_0f7a4 at h
  refine v_iload_n dJ6_bitCount_0f7a4_0 rfl 0 rfl ?_
  refine v_iload_n dJ6_bitCount_0f7a4_1 rfl 0 rfl ?_
  refine v_iconst dJ6_bitCount_0f7a4_2 ic_1 ?_
  refine v_iushr dJ6_bitCount_0f7a4_3 ?_
  refine v_ldcw (v := (nI 1431655765)) dJ6_bitCount_0f7a4_4 (jw2 106 (by decide +kernel) (by decide +kernel)) ?_
  refine v_iand dJ6_bitCount_0f7a4_7 ?_
  refine v_isub dJ6_bitCount_0f7a4_8 ?_
  refine x_jvI h (fun y1 h => ?_)
  refine v_istore_n (ls2 := [(0, .int y1)]) dJ6_bitCount_0f7a4_9 rfl (by decide) rfl ?_
  refine v_iload_n dJ6_bitCount_0f7a4_10 rfl 0 rfl ?_
  refine v_ldcw (v := (nI 858993459)) dJ6_bitCount_0f7a4_11 (jw2 107 (by decide +kernel) (by decide +kernel)) ?_
  refine v_iand dJ6_bitCount_0f7a4_14 ?_
  refine v_iload_n dJ6_bitCount_0f7a4_15 rfl 0 rfl ?_
  refine v_iconst dJ6_bitCount_0f7a4_16 ic_2 ?_
  refine v_iushr dJ6_bitCount_0f7a4_17 ?_
  refine v_ldcw (v := (nI 858993459)) dJ6_bitCount_0f7a4_18 (jw2 107 (by decide +kernel) (by decide +kernel)) ?_
  refine v_iand dJ6_bitCount_0f7a4_21 ?_
  refine v_iadd dJ6_bitCount_0f7a4_22 ?_
  refine x_jvI h (fun y2 h => ?_)
  refine v_istore_n (ls2 := [(0, .int y2)]) dJ6_bitCount_0f7a4_23 rfl (by decide) rfl ?_
  refine v_iload_n dJ6_bitCount_0f7a4_24 rfl 0 rfl ?_
  refine v_iload_n dJ6_bitCount_0f7a4_25 rfl 0 rfl ?_
  refine v_iconst dJ6_bitCount_0f7a4_26 ic_4 ?_
  refine v_iushr dJ6_bitCount_0f7a4_27 ?_
  refine v_iadd dJ6_bitCount_0f7a4_28 ?_
  refine v_ldcw (v := (nI 252645135)) dJ6_bitCount_0f7a4_29 (jw2 108 (by decide +kernel) (by decide +kernel)) ?_
  refine v_iand dJ6_bitCount_0f7a4_32 ?_
  refine x_jvI h (fun y3 h => ?_)
  refine v_istore_n (ls2 := [(0, .int y3)]) dJ6_bitCount_0f7a4_33 rfl (by decide) rfl ?_
  refine v_iload_n dJ6_bitCount_0f7a4_34 rfl 0 rfl ?_
  refine v_iload_n dJ6_bitCount_0f7a4_35 rfl 0 rfl ?_
  refine v_bipush dJ6_bitCount_0f7a4_36 bp_8 ?_
  refine v_iushr dJ6_bitCount_0f7a4_38 ?_
  refine v_iadd dJ6_bitCount_0f7a4_39 ?_
  refine x_jvI h (fun y4 h => ?_)
  refine v_istore_n (ls2 := [(0, .int y4)]) dJ6_bitCount_0f7a4_40 rfl (by decide) rfl ?_
  refine v_iload_n dJ6_bitCount_0f7a4_41 rfl 0 rfl ?_
  refine v_iload_n dJ6_bitCount_0f7a4_42 rfl 0 rfl ?_
  refine v_bipush dJ6_bitCount_0f7a4_43 bp_16 ?_
  refine v_iushr dJ6_bitCount_0f7a4_45 ?_
  refine v_iadd dJ6_bitCount_0f7a4_46 ?_
  refine x_jvI h (fun y5 h => ?_)
  refine v_istore_n (ls2 := [(0, .int y5)]) dJ6_bitCount_0f7a4_47 rfl (by decide) rfl ?_
  refine v_iload_n dJ6_bitCount_0f7a4_48 rfl 0 rfl ?_
  refine v_bipush dJ6_bitCount_0f7a4_49 bp_63 ?_
  refine v_iand dJ6_bitCount_0f7a4_51 ?_
  exact x_iret dJ6_bitCount_0f7a4_52 rfl h
def f_J7_copyOf_59c91 (v0 : Nat) (v1 : Int32) (M : jM) : jO Nat :=
  (ln M v0).bind fun x1 =>
  if v1 = x1 then
    none
  else
    jb2 (nA 100 M v1) fun a2 M3 =>
    (ln M3 v0).bind fun x4 =>
    (cpI 100 M3 v0 (nI 0) a2 (nI 0) (jmn x4 v1)).bind fun M5 =>
    rt a2 M5
theorem s_J7_copyOf_59c91 {G : jG} {d : Nat} (hd_ : 1 ≤ d) {v0 : Nat} {v1 : Int32} {M : jM} {b : Nat × jM} (h : f_J7_copyOf_59c91  v0 v1 M = some b) : V G m_J7_copyOf_59c91 d 0 [(0, .ref v0), (1, .int v1)] [] M (jQb cR b) := by
  unfold f_J7_copyOf_59c91 at h
  refine v_iload_n dJ7_copyOf_59c91_0 rfl 1 rfl ?_
  refine v_aload_n dJ7_copyOf_59c91_1 rfl 0 rfl ?_
  refine x_ln dJ7_copyOf_59c91_2 h (fun x1 h => ?_)
  refine x_ic_ne (tgt := 14) dJ7_copyOf_59c91_3 (by decide) h (fun h => ?_) (fun h => ?_)
  · refine v_aload_n dJ7_copyOf_59c91_6 rfl 0 rfl ?_
    exact nomatch h
  · refine v_iload_n dJ7_copyOf_59c91_14 rfl 1 rfl ?_
    refine x_nI dJ7_copyOf_59c91_15 ka_int h (fun a2 M3 h => ?_)
    refine v_astore_n (ls2 := [(2, .ref a2), (0, .ref v0), (1, .int v1)]) dJ7_copyOf_59c91_17 rfl (by decide) rfl ?_
    refine v_aload_n dJ7_copyOf_59c91_18 rfl 1 rfl ?_
    refine v_iconst dJ7_copyOf_59c91_19 ic_0 ?_
    refine v_aload_n dJ7_copyOf_59c91_20 rfl 0 rfl ?_
    refine v_iconst dJ7_copyOf_59c91_21 ic_0 ?_
    refine v_aload_n dJ7_copyOf_59c91_22 rfl 1 rfl ?_
    refine x_ln dJ7_copyOf_59c91_23 h (fun x4 h => ?_)
    refine v_iload_n dJ7_copyOf_59c91_24 rfl 2 rfl ?_
    refine v_mmin (by omega) dJ7_copyOf_59c91_25 kh_J7_304 rfl ?_
    refine x_cp (by omega) (by decide) dJ7_copyOf_59c91_28 kp_J7_150 rfl h (fun M5 h => ?_)
    refine v_aload_n dJ7_copyOf_59c91_31 rfl 0 rfl ?_
    exact x_aret dJ7_copyOf_59c91_32 rfl (Or.inr ⟨_, rfl⟩) h
def f_J7_copyOf_9075b (v0 : Nat) (v1 : Int32) (M : jM) : jO Nat :=
  (ln M v0).bind fun x1 =>
  if v1 = x1 then
    none
  else
    jb2 (nA 101 M v1) fun a2 M3 =>
    (ln M3 v0).bind fun x4 =>
    (cpI 101 M3 v0 (nI 0) a2 (nI 0) (jmn x4 v1)).bind fun M5 =>
    rt a2 M5
theorem s_J7_copyOf_9075b {G : jG} {d : Nat} (hd_ : 1 ≤ d) {v0 : Nat} {v1 : Int32} {M : jM} {b : Nat × jM} (h : f_J7_copyOf_9075b  v0 v1 M = some b) : V G m_J7_copyOf_9075b d 0 [(0, .ref v0), (1, .int v1)] [] M (jQb cR b) := by
  unfold f_J7_copyOf_9075b at h
  refine v_iload_n dJ7_copyOf_9075b_0 rfl 1 rfl ?_
  refine v_aload_n dJ7_copyOf_9075b_1 rfl 0 rfl ?_
  refine x_ln dJ7_copyOf_9075b_2 h (fun x1 h => ?_)
  refine x_ic_ne (tgt := 14) dJ7_copyOf_9075b_3 (by decide) h (fun h => ?_) (fun h => ?_)
  · refine v_aload_n dJ7_copyOf_9075b_6 rfl 0 rfl ?_
    exact nomatch h
  · refine v_iload_n dJ7_copyOf_9075b_14 rfl 1 rfl ?_
    refine x_nB dJ7_copyOf_9075b_15 ka_byte h (fun a2 M3 h => ?_)
    refine v_astore_n (ls2 := [(2, .ref a2), (0, .ref v0), (1, .int v1)]) dJ7_copyOf_9075b_17 rfl (by decide) rfl ?_
    refine v_aload_n dJ7_copyOf_9075b_18 rfl 1 rfl ?_
    refine v_iconst dJ7_copyOf_9075b_19 ic_0 ?_
    refine v_aload_n dJ7_copyOf_9075b_20 rfl 0 rfl ?_
    refine v_iconst dJ7_copyOf_9075b_21 ic_0 ?_
    refine v_aload_n dJ7_copyOf_9075b_22 rfl 1 rfl ?_
    refine x_ln dJ7_copyOf_9075b_23 h (fun x4 h => ?_)
    refine v_iload_n dJ7_copyOf_9075b_24 rfl 2 rfl ?_
    refine v_mmin (by omega) dJ7_copyOf_9075b_25 kh_J7_304 rfl ?_
    refine x_cp (by omega) (by decide) dJ7_copyOf_9075b_28 kp_J7_150 rfl h (fun M5 h => ?_)
    refine v_aload_n dJ7_copyOf_9075b_31 rfl 0 rfl ?_
    exact x_aret dJ7_copyOf_9075b_32 rfl (Or.inr ⟨_, rfl⟩) h
def b_J7_fill_53178_5  (k5 : Nat → Int32 → Int32 → Int32 → jM → jO Unit) (v0 : Nat) (v1 : Int32) (v2 : Int32) (v3 : Int32) (M : jM) : jO Unit :=
  if v3 ≤ v2 then
    rt () M
  else
    (stI M v0 v2 v1).bind fun M1 =>
    k5 v0 v1 (v2 + (nI 1)) v3 M1
def l_J7_fill_53178_5  : Nat → Nat → Int32 → Int32 → Int32 → jM → jO Unit
  | 0 => fun _ _ _ _ _ => none
  | n + 1 => b_J7_fill_53178_5  (l_J7_fill_53178_5  n)
theorem tb_J7_fill_53178_5 {G : jG} {d : Nat} (hd_ : 0 ≤ d)  {k5 : Nat → Int32 → Int32 → Int32 → jM → jO Unit} (hk5 : ∀ (w0 : Nat) (w1 : Int32) (w2 : Int32) (w3 : Int32) (M : jM) (b : Unit × jM), k5 w0 w1 w2 w3 M = some b → V G m_J7_fill_53178 d 5 [(0, .ref w0), (1, .int w1), (2, .int w2), (3, .int w3)] [] M (jQb cU b)) {v0 : Nat} {v1 : Int32} {v2 : Int32} {v3 : Int32} {M : jM} {b : Unit × jM} (h : b_J7_fill_53178_5  k5 v0 v1 v2 v3 M = some b) : V G m_J7_fill_53178 d 5 [(0, .ref v0), (1, .int v1), (2, .int v2), (3, .int v3)] [] M (jQb cU b) := by
  unfold b_J7_fill_53178_5 at h
  refine v_iload_n dJ7_fill_53178_5 rfl 2 rfl ?_
  refine v_iload_n dJ7_fill_53178_6 rfl 3 rfl ?_
  refine x_ic_ge (tgt := 20) dJ7_fill_53178_7 (by decide) h (fun h => ?_) (fun h => ?_)
  · exact x_vret dJ7_fill_53178_20 rfl h
  · refine v_aload_n dJ7_fill_53178_10 rfl 0 rfl ?_
    refine v_iload_n dJ7_fill_53178_11 rfl 2 rfl ?_
    refine v_iload_n dJ7_fill_53178_12 rfl 1 rfl ?_
    refine x_stI dJ7_fill_53178_13 h (fun M1 h => ?_)
    refine v_iincC (ls2 := [(2, .int (v2 + (nI 1))), (0, .ref v0), (1, .int v1), (3, .int v3)]) dJ7_fill_53178_14 ic_1 2 rfl (by decide) rfl ?_
    refine v_goto (tgt := 5) dJ7_fill_53178_17 (by decide) ?_
    exact V.pick [1, 2, 0, 3] rfl (hk5 _ _ _ _ _ _ h)
theorem t_J7_fill_53178_5 {G : jG} {d : Nat} (hd_ : 0 ≤ d)  : ∀ (n : Nat) (v0 : Nat) (v1 : Int32) (v2 : Int32) (v3 : Int32) (M : jM) (b : Unit × jM), l_J7_fill_53178_5  n v0 v1 v2 v3 M = some b → V G m_J7_fill_53178 d 5 [(0, .ref v0), (1, .int v1), (2, .int v2), (3, .int v3)] [] M (jQb cU b) := by
  intro n
  induction n with
  | zero => intro v0 v1 v2 v3 M b h; exact nomatch (show (none : jO Unit) = some b from h)
  | succ n ih => intro v0 v1 v2 v3 M b h; exact tb_J7_fill_53178_5 hd_  ih h
def f_J7_fill_53178 (v0 : Nat) (v1 : Int32) (M : jM) : jO Unit :=
  (ln M v0).bind fun x1 =>
  l_J7_fill_53178_5 jF0 v0 v1 (nI 0) x1 M
theorem s_J7_fill_53178 {G : jG} {d : Nat} (hd_ : 0 ≤ d) {v0 : Nat} {v1 : Int32} {M : jM} {b : Unit × jM} (h : f_J7_fill_53178  v0 v1 M = some b) : V G m_J7_fill_53178 d 0 [(0, .ref v0), (1, .int v1)] [] M (jQb cU b) := by
  unfold f_J7_fill_53178 at h
  refine v_iconst dJ7_fill_53178_0 ic_0 ?_
  refine v_istore_n (ls2 := [(2, .int (nI 0)), (0, .ref v0), (1, .int v1)]) dJ7_fill_53178_1 rfl (by decide) rfl ?_
  refine v_aload_n dJ7_fill_53178_2 rfl 1 rfl ?_
  refine x_ln dJ7_fill_53178_3 h (fun x1 h => ?_)
  refine v_istore_n (ls2 := [(3, .int x1), (2, .int (nI 0)), (0, .ref v0), (1, .int v1)]) dJ7_fill_53178_4 rfl (by decide) rfl ?_
  exact V.pick [2, 3, 1, 0] rfl (t_J7_fill_53178_5 hd_ _ _ _ _ _ _ _ h)
def b_J7_fill_d0a16_6  (k6 : Nat → Int64 → Int32 → Int32 → jM → jO Unit) (v0 : Nat) (v1 : Int64) (v3 : Int32) (v4 : Int32) (M : jM) : jO Unit :=
  if v4 ≤ v3 then
    rt () M
  else
    (stJ M v0 v3 v1).bind fun M1 =>
    k6 v0 v1 (v3 + (nI 1)) v4 M1
def l_J7_fill_d0a16_6  : Nat → Nat → Int64 → Int32 → Int32 → jM → jO Unit
  | 0 => fun _ _ _ _ _ => none
  | n + 1 => b_J7_fill_d0a16_6  (l_J7_fill_d0a16_6  n)
theorem tb_J7_fill_d0a16_6 {G : jG} {d : Nat} (hd_ : 0 ≤ d)  {k6 : Nat → Int64 → Int32 → Int32 → jM → jO Unit} (hk6 : ∀ (w0 : Nat) (w1 : Int64) (w3 : Int32) (w4 : Int32) (M : jM) (b : Unit × jM), k6 w0 w1 w3 w4 M = some b → V G m_J7_fill_d0a16 d 6 [(0, .ref w0), (1, .long w1), (3, .int w3), (4, .int w4)] [] M (jQb cU b)) {v0 : Nat} {v1 : Int64} {v3 : Int32} {v4 : Int32} {M : jM} {b : Unit × jM} (h : b_J7_fill_d0a16_6  k6 v0 v1 v3 v4 M = some b) : V G m_J7_fill_d0a16 d 6 [(0, .ref v0), (1, .long v1), (3, .int v3), (4, .int v4)] [] M (jQb cU b) := by
  unfold b_J7_fill_d0a16_6 at h
  refine v_iload_n dJ7_fill_d0a16_6 rfl 2 rfl ?_
  refine v_iload dJ7_fill_d0a16_7 3 rfl ?_
  refine x_ic_ge (tgt := 22) dJ7_fill_d0a16_9 (by decide) h (fun h => ?_) (fun h => ?_)
  · exact x_vret dJ7_fill_d0a16_22 rfl h
  · refine v_aload_n dJ7_fill_d0a16_12 rfl 0 rfl ?_
    refine v_iload_n dJ7_fill_d0a16_13 rfl 2 rfl ?_
    refine v_lload_n dJ7_fill_d0a16_14 rfl 1 rfl ?_
    refine x_stJ dJ7_fill_d0a16_15 h (fun M1 h => ?_)
    refine v_iincC (ls2 := [(3, .int (v3 + (nI 1))), (0, .ref v0), (1, .long v1), (4, .int v4)]) dJ7_fill_d0a16_16 ic_1 2 rfl (by decide) rfl ?_
    refine v_goto (tgt := 6) dJ7_fill_d0a16_19 (by decide) ?_
    exact V.pick [1, 2, 0, 3] rfl (hk6 _ _ _ _ _ _ h)
theorem t_J7_fill_d0a16_6 {G : jG} {d : Nat} (hd_ : 0 ≤ d)  : ∀ (n : Nat) (v0 : Nat) (v1 : Int64) (v3 : Int32) (v4 : Int32) (M : jM) (b : Unit × jM), l_J7_fill_d0a16_6  n v0 v1 v3 v4 M = some b → V G m_J7_fill_d0a16 d 6 [(0, .ref v0), (1, .long v1), (3, .int v3), (4, .int v4)] [] M (jQb cU b) := by
  intro n
  induction n with
  | zero => intro v0 v1 v3 v4 M b h; exact nomatch (show (none : jO Unit) = some b from h)
  | succ n ih => intro v0 v1 v3 v4 M b h; exact tb_J7_fill_d0a16_6 hd_  ih h
def f_J7_fill_d0a16 (v0 : Nat) (v1 : Int64) (M : jM) : jO Unit :=
  (ln M v0).bind fun x1 =>
  l_J7_fill_d0a16_6 jF0 v0 v1 (nI 0) x1 M
theorem s_J7_fill_d0a16 {G : jG} {d : Nat} (hd_ : 0 ≤ d) {v0 : Nat} {v1 : Int64} {M : jM} {b : Unit × jM} (h : f_J7_fill_d0a16  v0 v1 M = some b) : V G m_J7_fill_d0a16 d 0 [(0, .ref v0), (1, .long v1)] [] M (jQb cU b) := by
  unfold f_J7_fill_d0a16 at h
  refine v_iconst dJ7_fill_d0a16_0 ic_0 ?_
  refine v_istore_n (ls2 := [(3, .int (nI 0)), (0, .ref v0), (1, .long v1)]) dJ7_fill_d0a16_1 rfl (by decide) rfl ?_
  refine v_aload_n dJ7_fill_d0a16_2 rfl 1 rfl ?_
  refine x_ln dJ7_fill_d0a16_3 h (fun x1 h => ?_)
  refine v_istore (ls2 := [(4, .int x1), (3, .int (nI 0)), (0, .ref v0), (1, .long v1)]) dJ7_fill_d0a16_4 (by decide) rfl ?_
  exact V.pick [2, 3, 1, 0] rfl (t_J7_fill_d0a16_6 hd_ _ _ _ _ _ _ _ h)
def f_X11_placeOf (v0 : Nat) (v1 : Int32) (M : jM) : jO (Option Nat) :=
  if v1 < 0 then
    rt none M
  else
    (gR 10 M v0 0).bind fun r1 =>
    (ln M r1).bind fun x2 =>
    if x2 ≤ v1 then
      rt none M
    else
      (gR 10 M v0 0).bind fun r3 =>
      (ldA 103 M r3 v1).bind fun r4 =>
      rt (some r4) M
theorem s_X11_placeOf {G : jG} {d : Nat} (hd_ : 0 ≤ d) {v0 : Nat} {v1 : Int32} {M : jM} {b : (Option Nat) × jM} (h : f_X11_placeOf  v0 v1 M = some b) : V G m_X11_placeOf d 0 [(0, .ref v0), (1, .int v1)] [] M (jQb cN b) := by
  unfold f_X11_placeOf at h
  refine v_iload_n dX11_placeOf_0 rfl 1 rfl ?_
  refine x_if_lt (tgt := 22) dX11_placeOf_1 (by decide) h (fun h => ?_) (fun h => ?_)
  · refine v_null dX11_placeOf_22 ?_
    exact x_aretQ (a := none) dX11_placeOf_23 rfl (Or.inl ⟨_, rfl⟩) h
  · refine v_iload_n dX11_placeOf_4 rfl 1 rfl ?_
    refine v_aload_n dX11_placeOf_5 rfl 0 rfl ?_
    refine x_gR dX11_placeOf_6 kf_X11_11 rfl h (fun r1 h => ?_)
    refine x_ln dX11_placeOf_9 h (fun x2 h => ?_)
    refine x_ic_ge (tgt := 22) dX11_placeOf_10 (by decide) h (fun h => ?_) (fun h => ?_)
    · refine v_null dX11_placeOf_22 ?_
      exact x_aretQ (a := none) dX11_placeOf_23 rfl (Or.inl ⟨_, rfl⟩) h
    · refine v_aload_n dX11_placeOf_13 rfl 0 rfl ?_
      refine x_gR dX11_placeOf_14 kf_X11_11 rfl h (fun r3 h => ?_)
      refine v_iload_n dX11_placeOf_17 rfl 1 rfl ?_
      refine x_ldA dX11_placeOf_18 (by decide) h (fun r4 h => ?_)
      refine v_goto (tgt := 23) dX11_placeOf_19 (by decide) ?_
      exact x_aretQ (a := (some r4)) dX11_placeOf_23 rfl (Or.inl ⟨_, rfl⟩) h
def f_X9_size (v0 : Nat) (M : jM) : jO Int32 :=
  (gI 8 M v0 0).bind fun x1 =>
  rt x1 M
theorem s_X9_size {G : jG} {d : Nat} (hd_ : 0 ≤ d) {v0 : Nat} {M : jM} {b : Int32 × jM} (h : f_X9_size  v0 M = some b) : V G m_X9_size d 0 [(0, .ref v0)] [] M (jQb cI b) := by
  unfold f_X9_size at h
  refine v_aload_n dX9_size_0 rfl 0 rfl ?_
  refine x_gI dX9_size_1 kf_X9_9 rfl h (fun x1 h => ?_)
  exact x_iret dX9_size_4 rfl h
def f_X11_worldOf (v0 : Nat) (v1 : Int32) (M : jM) : jO (Option Nat) :=
  jb2 (jiv 10 M v0 (f_X11_placeOf v0 v1 M)) fun o2 M1 =>
  jnl o2 (
    rt none M1
    ) fun a3 =>
    jb2 (jiv 8 M1 a3 (f_X9_size a3 M1)) fun x5 M4 =>
    if x5 ≤ 0 then
      rt none M4
    else
      rt (some a3) M4
theorem s_X11_worldOf {G : jG} {d : Nat} (hd_ : 1 ≤ d) {v0 : Nat} {v1 : Int32} {M : jM} {b : (Option Nat) × jM} (h : f_X11_worldOf  v0 v1 M = some b) : V G m_X11_worldOf d 0 [(0, .ref v0), (1, .int v1)] [] M (jQb cN b) := by
  unfold f_X11_worldOf at h
  refine v_aload_n dX11_worldOf_0 rfl 0 rfl ?_
  refine v_iload_n dX11_worldOf_1 rfl 1 rfl ?_
  refine x_inv (cv := cN) (As := [.int v1]) (rest := []) (ls2 := [(0, .ref v0), (1, .int v1)]) (ci := 10) (by omega) dX11_worldOf_2 ke_X11_placeOf kv_X11_86 rfl rfl (by decide) (Nat.le_of_ble_eq_true rfl) rfl rfl rfl rfl h (fun _ hq => s_X11_placeOf (by omega) hq) (fun o2 M1 h => ?_)
  refine v_astore_nQ (ls2 := [(2, va_rf o2), (0, .ref v0), (1, .int v1)]) dX11_worldOf_5 rfl (by decide) rfl ?_
  refine v_aload_nQ dX11_worldOf_6 rfl 0 rfl ?_
  cases o2 with
  | none =>
    replace h := x_nN h
    refine v_ifnullN (tgt := 21) dX11_worldOf_7 (by decide) ?_
    refine v_null dX11_worldOf_21 ?_
    exact x_aretQ (a := none) dX11_worldOf_22 rfl (Or.inl ⟨_, rfl⟩) h
  | some a3 =>
    replace h := x_nS h
    refine v_ifnull dX11_worldOf_7 ?_
    refine v_aload_n dX11_worldOf_10 rfl 0 rfl ?_
    refine x_inv (cv := cI) (As := []) (rest := []) (ls2 := [(0, .ref a3)]) (ci := 8) (by omega) dX11_worldOf_11 ke_X9_size kv_X11_116 rfl rfl (by decide) (Nat.le_of_ble_eq_true rfl) rfl rfl rfl rfl h (fun _ hq => s_X9_size (by omega) hq) (fun x5 M4 h => ?_)
    refine x_if_le (tgt := 21) dX11_worldOf_14 (by decide) h (fun h => ?_) (fun h => ?_)
    · refine v_null dX11_worldOf_21 ?_
      exact x_aretQ (a := none) dX11_worldOf_22 rfl (Or.inl ⟨_, rfl⟩) h
    · refine v_aload_n dX11_worldOf_17 rfl 0 rfl ?_
      refine v_goto (tgt := 22) dX11_worldOf_18 (by decide) ?_
      exact x_aretQ (a := (some a3)) dX11_worldOf_22 rfl (Or.inl ⟨_, rfl⟩) h
def f_X9_has (v0 : Nat) (v1 : Int32) (M : jM) : jO Int32 :=
  if v1 < 0 then
    rZ (nI 0) M
  else
    (gI 8 M v0 0).bind fun x1 =>
    if x1 ≤ v1 then
      rZ (nI 0) M
    else
      if (nI 6) ≤ v1 then
        rZ (nI 0) M
      else
        rZ (nI 1) M
theorem s_X9_has {G : jG} {d : Nat} (hd_ : 0 ≤ d) {v0 : Nat} {v1 : Int32} {M : jM} {b : Int32 × jM} (h : f_X9_has  v0 v1 M = some b) : V G m_X9_has d 0 [(0, .ref v0), (1, .int v1)] [] M (jQb cI b) := by
  unfold f_X9_has at h
  refine v_iload_n dX9_has_0 rfl 1 rfl ?_
  refine x_if_lt (tgt := 22) dX9_has_1 (by decide) h (fun h => ?_) (fun h => ?_)
  · refine v_iconst dX9_has_22 ic_0 ?_
    exact x_zret dX9_has_23 rfl h
  · refine v_iload_n dX9_has_4 rfl 1 rfl ?_
    refine v_aload_n dX9_has_5 rfl 0 rfl ?_
    refine x_gI dX9_has_6 kf_X9_9 rfl h (fun x1 h => ?_)
    refine x_ic_ge (tgt := 22) dX9_has_9 (by decide) h (fun h => ?_) (fun h => ?_)
    · refine v_iconst dX9_has_22 ic_0 ?_
      exact x_zret dX9_has_23 rfl h
    · refine v_iload_n dX9_has_12 rfl 1 rfl ?_
      refine v_bipush dX9_has_13 bp_6 ?_
      refine x_ic_ge (tgt := 22) dX9_has_15 (by decide) h (fun h => ?_) (fun h => ?_)
      · refine v_iconst dX9_has_22 ic_0 ?_
        exact x_zret dX9_has_23 rfl h
      · refine v_iconst dX9_has_18 ic_1 ?_
        refine v_goto (tgt := 23) dX9_has_19 (by decide) ?_
        exact x_zret dX9_has_23 rfl h
def f_X9_marksOf (v0 : Nat) (v1 : Int32) (M : jM) : jO Int32 :=
  jb2 (jiv 8 M v0 (f_X9_has v0 v1 M)) fun x2 M1 =>
  if x2 = 0 then
    rt (nI 0) M1
  else
    (gR 8 M1 v0 1).bind fun r3 =>
    (ldI M1 r3 v1).bind fun x4 =>
    rt x4 M1
theorem s_X9_marksOf {G : jG} {d : Nat} (hd_ : 1 ≤ d) {v0 : Nat} {v1 : Int32} {M : jM} {b : Int32 × jM} (h : f_X9_marksOf  v0 v1 M = some b) : V G m_X9_marksOf d 0 [(0, .ref v0), (1, .int v1)] [] M (jQb cI b) := by
  unfold f_X9_marksOf at h
  refine v_aload_n dX9_marksOf_0 rfl 0 rfl ?_
  refine v_iload_n dX9_marksOf_1 rfl 1 rfl ?_
  refine x_inv (cv := cI) (As := [.int v1]) (rest := []) (ls2 := [(0, .ref v0), (1, .int v1)]) (ci := 8) (by omega) dX9_marksOf_2 ke_X9_has kv_X9_37 rfl rfl (by decide) (Nat.le_of_ble_eq_true rfl) rfl rfl rfl rfl h (fun _ hq => s_X9_has (by omega) hq) (fun x2 M1 h => ?_)
  refine x_if_eq (tgt := 17) dX9_marksOf_5 (by decide) h (fun h => ?_) (fun h => ?_)
  · refine v_iconst dX9_marksOf_17 ic_0 ?_
    exact x_iret dX9_marksOf_18 rfl h
  · refine v_aload_n dX9_marksOf_8 rfl 0 rfl ?_
    refine x_gR dX9_marksOf_9 kf_X9_15 rfl h (fun r3 h => ?_)
    refine v_iload_n dX9_marksOf_12 rfl 1 rfl ?_
    refine x_ldI dX9_marksOf_13 h (fun x4 h => ?_)
    refine v_goto (tgt := 18) dX9_marksOf_14 (by decide) ?_
    exact x_iret dX9_marksOf_18 rfl h
def b_X9_countMarked_4  (k4 : Nat → Int32 → Int32 → Int32 → jM → jO Int32) (v0 : Nat) (v1 : Int32) (v2 : Int32) (v3 : Int32) (M : jM) : jO Int32 :=
  (gI 8 M v0 0).bind fun x1 =>
  if x1 ≤ v3 then
    rt v2 M
  else
    jb2 (jiv 8 M v0 (f_X9_marksOf v0 v3 M)) fun x3 M2 =>
    (jv (v2 + ((x3 >>> (v1 &&& 31)) &&& (nI 1)))).bind fun y4 =>
    k4 v0 v1 y4 (v3 + (nI 1)) M2
def l_X9_countMarked_4  : Nat → Nat → Int32 → Int32 → Int32 → jM → jO Int32
  | 0 => fun _ _ _ _ _ => none
  | n + 1 => b_X9_countMarked_4  (l_X9_countMarked_4  n)
theorem tb_X9_countMarked_4 {G : jG} {d : Nat} (hd_ : 2 ≤ d)  {k4 : Nat → Int32 → Int32 → Int32 → jM → jO Int32} (hk4 : ∀ (w0 : Nat) (w1 : Int32) (w2 : Int32) (w3 : Int32) (M : jM) (b : Int32 × jM), k4 w0 w1 w2 w3 M = some b → V G m_X9_countMarked d 4 [(0, .ref w0), (1, .int w1), (2, .int w2), (3, .int w3)] [] M (jQb cI b)) {v0 : Nat} {v1 : Int32} {v2 : Int32} {v3 : Int32} {M : jM} {b : Int32 × jM} (h : b_X9_countMarked_4  k4 v0 v1 v2 v3 M = some b) : V G m_X9_countMarked d 4 [(0, .ref v0), (1, .int v1), (2, .int v2), (3, .int v3)] [] M (jQb cI b) := by
  unfold b_X9_countMarked_4 at h
  refine v_iload_n dX9_countMarked_4 rfl 3 rfl ?_
  refine v_aload_n dX9_countMarked_5 rfl 0 rfl ?_
  refine x_gI dX9_countMarked_6 kf_X9_9 rfl h (fun x1 h => ?_)
  refine x_ic_ge (tgt := 30) dX9_countMarked_9 (by decide) h (fun h => ?_) (fun h => ?_)
  · refine v_iload_n dX9_countMarked_30 rfl 2 rfl ?_
    exact x_iret dX9_countMarked_31 rfl h
  · refine v_iload_n dX9_countMarked_12 rfl 2 rfl ?_
    refine v_aload_n dX9_countMarked_13 rfl 0 rfl ?_
    refine v_iload_n dX9_countMarked_14 rfl 3 rfl ?_
    refine x_inv (cv := cI) (As := [.int v3]) (rest := [.int v2]) (ls2 := [(0, .ref v0), (1, .int v3)]) (ci := 8) (by omega) dX9_countMarked_15 ke_X9_marksOf kv_X9_41 rfl rfl (by decide) (Nat.le_of_ble_eq_true rfl) rfl rfl rfl rfl h (fun _ hq => s_X9_marksOf (by omega) hq) (fun x3 M2 h => ?_)
    refine v_iload_n dX9_countMarked_18 rfl 1 rfl ?_
    refine v_ishr dX9_countMarked_19 ?_
    refine v_iconst dX9_countMarked_20 ic_1 ?_
    refine v_iand dX9_countMarked_21 ?_
    refine v_iadd dX9_countMarked_22 ?_
    refine x_jvI h (fun y4 h => ?_)
    refine v_istore_n (ls2 := [(2, .int y4), (0, .ref v0), (1, .int v1), (3, .int v3)]) dX9_countMarked_23 rfl (by decide) rfl ?_
    refine v_iincC (ls2 := [(3, .int (v3 + (nI 1))), (2, .int y4), (0, .ref v0), (1, .int v1)]) dX9_countMarked_24 ic_1 3 rfl (by decide) rfl ?_
    refine v_goto (tgt := 4) dX9_countMarked_27 (by decide) ?_
    exact V.pick [2, 3, 1, 0] rfl (hk4 _ _ _ _ _ _ h)
theorem t_X9_countMarked_4 {G : jG} {d : Nat} (hd_ : 2 ≤ d)  : ∀ (n : Nat) (v0 : Nat) (v1 : Int32) (v2 : Int32) (v3 : Int32) (M : jM) (b : Int32 × jM), l_X9_countMarked_4  n v0 v1 v2 v3 M = some b → V G m_X9_countMarked d 4 [(0, .ref v0), (1, .int v1), (2, .int v2), (3, .int v3)] [] M (jQb cI b) := by
  intro n
  induction n with
  | zero => intro v0 v1 v2 v3 M b h; exact nomatch (show (none : jO Int32) = some b from h)
  | succ n ih => intro v0 v1 v2 v3 M b h; exact tb_X9_countMarked_4 hd_  ih h
def f_X9_countMarked (v0 : Nat) (v1 : Int32) (M : jM) : jO Int32 :=
  l_X9_countMarked_4 jF0 v0 v1 (nI 0) (nI 0) M
theorem s_X9_countMarked {G : jG} {d : Nat} (hd_ : 2 ≤ d) {v0 : Nat} {v1 : Int32} {M : jM} {b : Int32 × jM} (h : f_X9_countMarked  v0 v1 M = some b) : V G m_X9_countMarked d 0 [(0, .ref v0), (1, .int v1)] [] M (jQb cI b) := by
  unfold f_X9_countMarked at h
  refine v_iconst dX9_countMarked_0 ic_0 ?_
  refine v_istore_n (ls2 := [(2, .int (nI 0)), (0, .ref v0), (1, .int v1)]) dX9_countMarked_1 rfl (by decide) rfl ?_
  refine v_iconst dX9_countMarked_2 ic_0 ?_
  refine v_istore_n (ls2 := [(3, .int (nI 0)), (2, .int (nI 0)), (0, .ref v0), (1, .int v1)]) dX9_countMarked_3 rfl (by decide) rfl ?_
  exact V.pick [2, 3, 1, 0] rfl (t_X9_countMarked_4 hd_ _ _ _ _ _ _ _ h)
def f_X9_tiesOf (v0 : Nat) (v1 : Int32) (M : jM) : jO Int32 :=
  jb2 (jiv 8 M v0 (f_X9_has v0 v1 M)) fun x2 M1 =>
  if x2 = 0 then
    rt (nI 0) M1
  else
    (gR 8 M1 v0 2).bind fun r3 =>
    (ldI M1 r3 v1).bind fun x4 =>
    rt x4 M1
theorem s_X9_tiesOf {G : jG} {d : Nat} (hd_ : 1 ≤ d) {v0 : Nat} {v1 : Int32} {M : jM} {b : Int32 × jM} (h : f_X9_tiesOf  v0 v1 M = some b) : V G m_X9_tiesOf d 0 [(0, .ref v0), (1, .int v1)] [] M (jQb cI b) := by
  unfold f_X9_tiesOf at h
  refine v_aload_n dX9_tiesOf_0 rfl 0 rfl ?_
  refine v_iload_n dX9_tiesOf_1 rfl 1 rfl ?_
  refine x_inv (cv := cI) (As := [.int v1]) (rest := []) (ls2 := [(0, .ref v0), (1, .int v1)]) (ci := 8) (by omega) dX9_tiesOf_2 ke_X9_has kv_X9_37 rfl rfl (by decide) (Nat.le_of_ble_eq_true rfl) rfl rfl rfl rfl h (fun _ hq => s_X9_has (by omega) hq) (fun x2 M1 h => ?_)
  refine x_if_eq (tgt := 17) dX9_tiesOf_5 (by decide) h (fun h => ?_) (fun h => ?_)
  · refine v_iconst dX9_tiesOf_17 ic_0 ?_
    exact x_iret dX9_tiesOf_18 rfl h
  · refine v_aload_n dX9_tiesOf_8 rfl 0 rfl ?_
    refine x_gR dX9_tiesOf_9 kf_X9_19 rfl h (fun r3 h => ?_)
    refine v_iload_n dX9_tiesOf_12 rfl 1 rfl ?_
    refine x_ldI dX9_tiesOf_13 h (fun x4 h => ?_)
    refine v_goto (tgt := 18) dX9_tiesOf_14 (by decide) ?_
    exact x_iret dX9_tiesOf_18 rfl h
def b_X9_countTies_4  (k4 : Nat → Int32 → Int32 → jM → jO Int32) (v0 : Nat) (v1 : Int32) (v2 : Int32) (M : jM) : jO Int32 :=
  (gI 8 M v0 0).bind fun x1 =>
  if x1 ≤ v2 then
    rt v1 M
  else
    jb2 (jiv 8 M v0 (f_X9_tiesOf v0 v2 M)) fun x3 M2 =>
    jb2 (f_J6_bitCount_0f7a4 x3 M2) fun x5 M4 =>
    (jv (v1 + x5)).bind fun y6 =>
    k4 v0 y6 (v2 + (nI 1)) M4
def l_X9_countTies_4  : Nat → Nat → Int32 → Int32 → jM → jO Int32
  | 0 => fun _ _ _ _ => none
  | n + 1 => b_X9_countTies_4  (l_X9_countTies_4  n)
theorem tb_X9_countTies_4 {G : jG} {d : Nat} (hd_ : 2 ≤ d)  {k4 : Nat → Int32 → Int32 → jM → jO Int32} (hk4 : ∀ (w0 : Nat) (w1 : Int32) (w2 : Int32) (M : jM) (b : Int32 × jM), k4 w0 w1 w2 M = some b → V G m_X9_countTies d 4 [(0, .ref w0), (1, .int w1), (2, .int w2)] [] M (jQb cI b)) {v0 : Nat} {v1 : Int32} {v2 : Int32} {M : jM} {b : Int32 × jM} (h : b_X9_countTies_4  k4 v0 v1 v2 M = some b) : V G m_X9_countTies d 4 [(0, .ref v0), (1, .int v1), (2, .int v2)] [] M (jQb cI b) := by
  unfold b_X9_countTies_4 at h
  refine v_iload_n dX9_countTies_4 rfl 2 rfl ?_
  refine v_aload_n dX9_countTies_5 rfl 0 rfl ?_
  refine x_gI dX9_countTies_6 kf_X9_9 rfl h (fun x1 h => ?_)
  refine x_ic_ge (tgt := 29) dX9_countTies_9 (by decide) h (fun h => ?_) (fun h => ?_)
  · refine v_iload_n dX9_countTies_29 rfl 1 rfl ?_
    exact x_iret dX9_countTies_30 rfl h
  · refine v_iload_n dX9_countTies_12 rfl 1 rfl ?_
    refine v_aload_n dX9_countTies_13 rfl 0 rfl ?_
    refine v_iload_n dX9_countTies_14 rfl 2 rfl ?_
    refine x_inv (cv := cI) (As := [.int v2]) (rest := [.int v1]) (ls2 := [(0, .ref v0), (1, .int v2)]) (ci := 8) (by omega) dX9_countTies_15 ke_X9_tiesOf kv_X9_45 rfl rfl (by decide) (Nat.le_of_ble_eq_true rfl) rfl rfl rfl rfl h (fun _ hq => s_X9_tiesOf (by omega) hq) (fun x3 M2 h => ?_)
    refine x_invs (cv := cI) (As := [.int x3]) (rest := [.int v1]) (ls2 := [(0, .int x3)]) (by omega) dX9_countTies_18 ke_J6_bitCount_0f7a4 ks_X9_52 (Nat.le_of_ble_eq_true rfl) rfl rfl rfl rfl h (fun _ hq => s_J6_bitCount_0f7a4 (by omega) hq) (fun x5 M4 h => ?_)
    refine v_iadd dX9_countTies_21 ?_
    refine x_jvI h (fun y6 h => ?_)
    refine v_istore_n (ls2 := [(1, .int y6), (0, .ref v0), (2, .int v2)]) dX9_countTies_22 rfl (by decide) rfl ?_
    refine v_iincC (ls2 := [(2, .int (v2 + (nI 1))), (1, .int y6), (0, .ref v0)]) dX9_countTies_23 ic_1 2 rfl (by decide) rfl ?_
    refine v_goto (tgt := 4) dX9_countTies_26 (by decide) ?_
    exact V.pick [2, 1, 0] rfl (hk4 _ _ _ _ _ h)
theorem t_X9_countTies_4 {G : jG} {d : Nat} (hd_ : 2 ≤ d)  : ∀ (n : Nat) (v0 : Nat) (v1 : Int32) (v2 : Int32) (M : jM) (b : Int32 × jM), l_X9_countTies_4  n v0 v1 v2 M = some b → V G m_X9_countTies d 4 [(0, .ref v0), (1, .int v1), (2, .int v2)] [] M (jQb cI b) := by
  intro n
  induction n with
  | zero => intro v0 v1 v2 M b h; exact nomatch (show (none : jO Int32) = some b from h)
  | succ n ih => intro v0 v1 v2 M b h; exact tb_X9_countTies_4 hd_  ih h
def f_X9_countTies (v0 : Nat) (M : jM) : jO Int32 :=
  l_X9_countTies_4 jF0 v0 (nI 0) (nI 0) M
theorem s_X9_countTies {G : jG} {d : Nat} (hd_ : 2 ≤ d) {v0 : Nat} {M : jM} {b : Int32 × jM} (h : f_X9_countTies  v0 M = some b) : V G m_X9_countTies d 0 [(0, .ref v0)] [] M (jQb cI b) := by
  unfold f_X9_countTies at h
  refine v_iconst dX9_countTies_0 ic_0 ?_
  refine v_istore_n (ls2 := [(1, .int (nI 0)), (0, .ref v0)]) dX9_countTies_1 rfl (by decide) rfl ?_
  refine v_iconst dX9_countTies_2 ic_0 ?_
  refine v_istore_n (ls2 := [(2, .int (nI 0)), (1, .int (nI 0)), (0, .ref v0)]) dX9_countTies_3 rfl (by decide) rfl ?_
  exact V.pick [2, 1, 0] rfl (t_X9_countTies_4 hd_ _ _ _ _ _ _ h)
def j_X11_about_31  (v2 : Int32) (v3 : Nat) (M : jM) : jO Int32 :=
  jb2 (jiv 8 M v3 (f_X9_countMarked v3 (v2 - (nI 1)) M)) fun x2 M1 =>
  rt x2 M1
theorem t_X11_about_31 {G : jG} {d : Nat} (hd_ : 3 ≤ d)  {v2 : Int32} {v3 : Nat} {M : jM} {b : Int32 × jM} (h : j_X11_about_31  v2 v3 M = some b) : V G m_X11_about d 31 [(2, .int v2), (3, .ref v3)] [] M (jQb cI b) := by
  unfold j_X11_about_31 at h
  refine v_aload_n dX11_about_31 rfl 1 rfl ?_
  refine v_iload_n dX11_about_32 rfl 0 rfl ?_
  refine v_iconst dX11_about_33 ic_1 ?_
  refine v_isub dX11_about_34 ?_
  refine x_inv (cv := cI) (As := [.int (v2 - (nI 1))]) (rest := []) (ls2 := [(0, .ref v3), (1, .int (v2 - (nI 1)))]) (ci := 8) (by omega) dX11_about_35 ke_X9_countMarked kv_X11_123 rfl rfl (by decide) (Nat.le_of_ble_eq_true rfl) rfl rfl rfl rfl h (fun _ hq => s_X9_countMarked (by omega) hq) (fun x2 M1 h => ?_)
  exact x_iret dX11_about_38 rfl h
def f_X11_about (v0 : Nat) (v1 : Int32) (v2 : Int32) (M : jM) : jO Int32 :=
  jb2 (jiv 10 M v0 (f_X11_worldOf v0 v1 M)) fun o2 M1 =>
  jnl o2 (
    rt (-1 : Int32) M1
    ) fun a3 =>
    if v2 = 0 then
      jb2 (jiv 8 M1 a3 (f_X9_size a3 M1)) fun x5 M4 =>
      rt x5 M4
    else
      if v2 = (nI 1) then
        j_X11_about_31 v2 a3 M1
      else
        if v2 = (nI 2) then
          j_X11_about_31 v2 a3 M1
        else
          if v2 = (nI 3) then
            jb2 (jiv 8 M1 a3 (f_X9_countTies a3 M1)) fun x7 M6 =>
            rt x7 M6
          else
            if v2 < (nI 10) then
              rt (-2 : Int32) M1
            else
              jb2 (jiv 8 M1 a3 (f_X9_has a3 (v2 - (nI 10)) M1)) fun x9 M8 =>
              if x9 = 0 then
                rt (-2 : Int32) M8
              else
                jb2 (jiv 8 M8 a3 (f_X9_marksOf a3 (v2 - (nI 10)) M8)) fun x11 M10 =>
                rt x11 M10
theorem s_X11_about {G : jG} {d : Nat} (hd_ : 3 ≤ d) {v0 : Nat} {v1 : Int32} {v2 : Int32} {M : jM} {b : Int32 × jM} (h : f_X11_about  v0 v1 v2 M = some b) : V G m_X11_about d 0 [(0, .ref v0), (1, .int v1), (2, .int v2)] [] M (jQb cI b) := by
  unfold f_X11_about at h
  refine v_aload_n dX11_about_0 rfl 0 rfl ?_
  refine v_iload_n dX11_about_1 rfl 1 rfl ?_
  refine x_inv (cv := cN) (As := [.int v1]) (rest := []) (ls2 := [(0, .ref v0), (1, .int v1)]) (ci := 10) (by omega) dX11_about_2 ke_X11_worldOf kv_X11_94 rfl rfl (by decide) (Nat.le_of_ble_eq_true rfl) rfl rfl rfl rfl h (fun _ hq => s_X11_worldOf (by omega) hq) (fun o2 M1 h => ?_)
  refine v_astore_nQ (ls2 := [(3, va_rf o2), (0, .ref v0), (1, .int v1), (2, .int v2)]) dX11_about_5 rfl (by decide) rfl ?_
  refine v_aload_nQ dX11_about_6 rfl 0 rfl ?_
  cases o2 with
  | none =>
    replace h := x_nN h
    refine v_ifnonnullN dX11_about_7 ?_
    refine v_iconst dX11_about_10 ic_m1 ?_
    exact x_iret dX11_about_11 rfl h
  | some a3 =>
    replace h := x_nS h
    refine v_ifnonnull (tgt := 12) dX11_about_7 (by decide) ?_
    refine v_iload_n dX11_about_12 rfl 3 rfl ?_
    refine x_if_ne (tgt := 21) dX11_about_13 (by decide) h (fun h => ?_) (fun h => ?_)
    · refine v_aload_n dX11_about_16 rfl 0 rfl ?_
      refine x_inv (cv := cI) (As := []) (rest := []) (ls2 := [(0, .ref a3)]) (ci := 8) (by omega) dX11_about_17 ke_X9_size kv_X11_116 rfl rfl (by decide) (Nat.le_of_ble_eq_true rfl) rfl rfl rfl rfl h (fun _ hq => s_X9_size (by omega) hq) (fun x5 M4 h => ?_)
      exact x_iret dX11_about_20 rfl h
    · refine v_iload_n dX11_about_21 rfl 3 rfl ?_
      refine v_iconst dX11_about_22 ic_1 ?_
      refine x_ic_eq (tgt := 31) dX11_about_23 (by decide) h (fun h => ?_) (fun h => ?_)
      · exact V.pick [3, 0] rfl (t_X11_about_31 hd_ h)
      · refine v_iload_n dX11_about_26 rfl 3 rfl ?_
        refine v_iconst dX11_about_27 ic_2 ?_
        refine x_ic_ne (tgt := 39) dX11_about_28 (by decide) h (fun h => ?_) (fun h => ?_)
        · exact V.pick [3, 0] rfl (t_X11_about_31 hd_ h)
        · refine v_iload_n dX11_about_39 rfl 3 rfl ?_
          refine v_iconst dX11_about_40 ic_3 ?_
          refine x_ic_ne (tgt := 49) dX11_about_41 (by decide) h (fun h => ?_) (fun h => ?_)
          · refine v_aload_n dX11_about_44 rfl 0 rfl ?_
            refine x_inv (cv := cI) (As := []) (rest := []) (ls2 := [(0, .ref a3)]) (ci := 8) (by omega) dX11_about_45 ke_X9_countTies kv_X11_127 rfl rfl (by decide) (Nat.le_of_ble_eq_true rfl) rfl rfl rfl rfl h (fun _ hq => s_X9_countTies (by omega) hq) (fun x7 M6 h => ?_)
            exact x_iret dX11_about_48 rfl h
          · refine v_iload_n dX11_about_49 rfl 3 rfl ?_
            refine v_bipush dX11_about_50 bp_10 ?_
            refine x_ic_lt (tgt := 75) dX11_about_52 (by decide) h (fun h => ?_) (fun h => ?_)
            · refine v_bipush dX11_about_75 bp_m2 ?_
              exact x_iret dX11_about_77 rfl h
            · refine v_aload_n dX11_about_55 rfl 0 rfl ?_
              refine v_iload_n dX11_about_56 rfl 3 rfl ?_
              refine v_bipush dX11_about_57 bp_10 ?_
              refine v_isub dX11_about_59 ?_
              refine x_inv (cv := cI) (As := [.int (v2 - (nI 10))]) (rest := []) (ls2 := [(0, .ref a3), (1, .int (v2 - (nI 10)))]) (ci := 8) (by omega) dX11_about_60 ke_X9_has kv_X11_97 rfl rfl (by decide) (Nat.le_of_ble_eq_true rfl) rfl rfl rfl rfl h (fun _ hq => s_X9_has (by omega) hq) (fun x9 M8 h => ?_)
              refine x_if_eq (tgt := 75) dX11_about_63 (by decide) h (fun h => ?_) (fun h => ?_)
              · refine v_bipush dX11_about_75 bp_m2 ?_
                exact x_iret dX11_about_77 rfl h
              · refine v_aload_n dX11_about_66 rfl 0 rfl ?_
                refine v_iload_n dX11_about_67 rfl 3 rfl ?_
                refine v_bipush dX11_about_68 bp_10 ?_
                refine v_isub dX11_about_70 ?_
                refine x_inv (cv := cI) (As := [.int (v2 - (nI 10))]) (rest := []) (ls2 := [(0, .ref a3), (1, .int (v2 - (nI 10)))]) (ci := 8) (by omega) dX11_about_71 ke_X9_marksOf kv_X11_130 rfl rfl (by decide) (Nat.le_of_ble_eq_true rfl) rfl rfl rfl rfl h (fun _ hq => s_X9_marksOf (by omega) hq) (fun x11 M10 h => ?_)
                exact x_iret dX11_about_74 rfl h
def j_X3_lengthen_54  (v0 : Nat) (s0 : Nat) (s1 : Int32) (s2 : Int32) (M : jM) : jO Int32 :=
  (stI M s0 s1 s2).bind fun M1 =>
  (gI 3 M1 v0 5).bind fun x2 =>
  (pI 3 M1 v0 5 (x2 + (nI 1))).bind fun M3 =>
  rZ (nI 1) M3
theorem t_X3_lengthen_54 {G : jG} {d : Nat} (hd_ : 0 ≤ d)  {v0 : Nat} {s0 : Nat} {s1 : Int32} {s2 : Int32} {M : jM} {b : Int32 × jM} (h : j_X3_lengthen_54  v0 s0 s1 s2 M = some b) : V G m_X3_lengthen d 54 [(0, .ref v0)] [.int s2, .int s1, .ref s0] M (jQb cI b) := by
  unfold j_X3_lengthen_54 at h
  refine x_stI dX3_lengthen_54 h (fun M1 h => ?_)
  refine v_aload_n dX3_lengthen_55 rfl 0 rfl ?_
  refine v_dup dX3_lengthen_56 rfl ?_
  refine x_gI dX3_lengthen_57 kf_X3_31 rfl h (fun x2 h => ?_)
  refine v_iconst dX3_lengthen_60 ic_1 ?_
  refine v_iadd dX3_lengthen_61 ?_
  refine x_pI dX3_lengthen_62 kf_X3_31 rfl (fun q => Bool.noConfusion q) h (fun M3 h => ?_)
  refine v_iconst dX3_lengthen_65 ic_1 ?_
  exact x_zret dX3_lengthen_66 rfl h
def j_X3_lengthen_34  (v0 : Nat) (v1 : Int32) (v2 : Int32) (v3 : Int32) (s0 : Nat) (s1 : Int32) (s2 : Int32) (M : jM) : jO Int32 :=
  (stI M s0 s1 s2).bind fun M1 =>
  (gR 3 M1 v0 4).bind fun r2 =>
  (gI 3 M1 v0 5).bind fun x3 =>
  if v1 = 0 then
    j_X3_lengthen_54 v0 r2 ((nI 3) + x3) v3 M1
  else
    j_X3_lengthen_54 v0 r2 ((nI 3) + x3) v2 M1
theorem t_X3_lengthen_34 {G : jG} {d : Nat} (hd_ : 0 ≤ d)  {v0 : Nat} {v1 : Int32} {v2 : Int32} {v3 : Int32} {s0 : Nat} {s1 : Int32} {s2 : Int32} {M : jM} {b : Int32 × jM} (h : j_X3_lengthen_34  v0 v1 v2 v3 s0 s1 s2 M = some b) : V G m_X3_lengthen d 34 [(0, .ref v0), (1, .int v1), (2, .int v2), (3, .int v3)] [.int s2, .int s1, .ref s0] M (jQb cI b) := by
  unfold j_X3_lengthen_34 at h
  refine x_stI dX3_lengthen_34 h (fun M1 h => ?_)
  refine v_aload_n dX3_lengthen_35 rfl 0 rfl ?_
  refine x_gR dX3_lengthen_36 kf_X3_28 rfl h (fun r2 h => ?_)
  refine v_iconst dX3_lengthen_39 ic_3 ?_
  refine v_aload_n dX3_lengthen_40 rfl 0 rfl ?_
  refine x_gI dX3_lengthen_41 kf_X3_31 rfl h (fun x3 h => ?_)
  refine v_iadd dX3_lengthen_44 ?_
  refine v_iload_n dX3_lengthen_45 rfl 1 rfl ?_
  refine x_if_ne (tgt := 53) dX3_lengthen_46 (by decide) h (fun h => ?_) (fun h => ?_)
  · refine v_iload_n dX3_lengthen_49 rfl 3 rfl ?_
    refine v_goto (tgt := 54) dX3_lengthen_50 (by decide) ?_
    exact V.pick [0] rfl (t_X3_lengthen_54 hd_ h)
  · refine v_iload_n dX3_lengthen_53 rfl 2 rfl ?_
    exact V.pick [0] rfl (t_X3_lengthen_54 hd_ h)
def f_X3_lengthen (v0 : Nat) (v1 : Int32) (v2 : Int32) (v3 : Int32) (M : jM) : jO Int32 :=
  (gI 3 M v0 5).bind fun x1 =>
  if x1 < 0 then
    rZ (nI 0) M
  else
    (gI 3 M v0 5).bind fun x2 =>
    if x2 < (nI 3) then
      (gR 3 M v0 4).bind fun r3 =>
      (gI 3 M v0 5).bind fun x4 =>
      if v1 = 0 then
        j_X3_lengthen_34 v0 v1 v2 v3 r3 x4 v2 M
      else
        j_X3_lengthen_34 v0 v1 v2 v3 r3 x4 v3 M
    else
      rZ (nI 0) M
theorem s_X3_lengthen {G : jG} {d : Nat} (hd_ : 0 ≤ d) {v0 : Nat} {v1 : Int32} {v2 : Int32} {v3 : Int32} {M : jM} {b : Int32 × jM} (h : f_X3_lengthen  v0 v1 v2 v3 M = some b) : V G m_X3_lengthen d 0 [(0, .ref v0), (1, .int v1), (2, .int v2), (3, .int v3)] [] M (jQb cI b) := by
  unfold f_X3_lengthen at h
  refine v_aload_n dX3_lengthen_0 rfl 0 rfl ?_
  refine x_gI dX3_lengthen_1 kf_X3_31 rfl h (fun x1 h => ?_)
  refine x_if_lt (tgt := 15) dX3_lengthen_4 (by decide) h (fun h => ?_) (fun h => ?_)
  · refine v_iconst dX3_lengthen_15 ic_0 ?_
    exact x_zret dX3_lengthen_16 rfl h
  · refine v_aload_n dX3_lengthen_7 rfl 0 rfl ?_
    refine x_gI dX3_lengthen_8 kf_X3_31 rfl h (fun x2 h => ?_)
    refine v_iconst dX3_lengthen_11 ic_3 ?_
    refine x_ic_lt (tgt := 17) dX3_lengthen_12 (by decide) h (fun h => ?_) (fun h => ?_)
    · refine v_aload_n dX3_lengthen_17 rfl 0 rfl ?_
      refine x_gR dX3_lengthen_18 kf_X3_28 rfl h (fun r3 h => ?_)
      refine v_aload_n dX3_lengthen_21 rfl 0 rfl ?_
      refine x_gI dX3_lengthen_22 kf_X3_31 rfl h (fun x4 h => ?_)
      refine v_iload_n dX3_lengthen_25 rfl 1 rfl ?_
      refine x_if_ne (tgt := 33) dX3_lengthen_26 (by decide) h (fun h => ?_) (fun h => ?_)
      · refine v_iload_n dX3_lengthen_29 rfl 2 rfl ?_
        refine v_goto (tgt := 34) dX3_lengthen_30 (by decide) ?_
        exact t_X3_lengthen_34 hd_ h
      · refine v_iload_n dX3_lengthen_33 rfl 3 rfl ?_
        exact t_X3_lengthen_34 hd_ h
    · refine v_iconst dX3_lengthen_15 ic_0 ?_
      exact x_zret dX3_lengthen_16 rfl h
def j_X3_typeOf_116 (k38 : Nat → Int32 → Int32 → Int32 → Int32 → jM → jO Int32) (v0 : Nat) (v3 : Int32) (v4 : Int32) (v5 : Int32) (v6 : Int32) (M : jM) : jO Int32 :=
  k38 v0 v3 v4 v5 (v6 + (nI 1)) M
theorem t_X3_typeOf_116 {G : jG} {d : Nat} (hd_ : 0 ≤ d) {k38 : Nat → Int32 → Int32 → Int32 → Int32 → jM → jO Int32} (hk38 : ∀ (w0 : Nat) (w3 : Int32) (w4 : Int32) (w5 : Int32) (w6 : Int32) (M : jM) (b : Int32 × jM), k38 w0 w3 w4 w5 w6 M = some b → V G m_X3_typeOf d 38 [(0, .ref w0), (3, .int w3), (4, .int w4), (5, .int w5), (6, .int w6)] [] M (jQb cI b)) {v0 : Nat} {v3 : Int32} {v4 : Int32} {v5 : Int32} {v6 : Int32} {M : jM} {b : Int32 × jM} (h : j_X3_typeOf_116 k38 v0 v3 v4 v5 v6 M = some b) : V G m_X3_typeOf d 116 [(0, .ref v0), (3, .int v3), (4, .int v4), (5, .int v5), (6, .int v6)] [] M (jQb cI b) := by
  unfold j_X3_typeOf_116 at h
  refine v_iincC (ls2 := [(6, .int (v6 + (nI 1))), (0, .ref v0), (3, .int v3), (4, .int v4), (5, .int v5)]) dX3_typeOf_116 ic_1 4 rfl (by decide) rfl ?_
  refine v_goto (tgt := 38) dX3_typeOf_119 (by decide) ?_
  exact V.pick [1, 2, 3, 4, 0] rfl (hk38 _ _ _ _ _ _ _ h)
def b_X3_typeOf_38  (k38 : Nat → Int32 → Int32 → Int32 → Int32 → jM → jO Int32) (v0 : Nat) (v3 : Int32) (v4 : Int32) (v5 : Int32) (v6 : Int32) (M : jM) : jO Int32 :=
  (gI 3 M v0 5).bind fun x1 =>
  if x1 ≤ v6 then
    rt v4 M
  else
    if v5 < 0 then
      rt v4 M
    else
      (gR 3 M v0 4).bind fun r2 =>
      (ln M r2).bind fun x3 =>
      if x3 ≤ (v5 + v6) then
        rt v4 M
      else
        (gR 3 M v0 4).bind fun r4 =>
        (ldI M r4 (v5 + v6)).bind fun x5 =>
        (jv ((v3 * (nI 6)) + x5)).bind fun y6 =>
        if y6 < 0 then
          j_X3_typeOf_116 k38 v0 v3 v4 v5 v6 M
        else
          (gR 3 M v0 3).bind fun r7 =>
          (ln M r7).bind fun x8 =>
          if x8 ≤ y6 then
            j_X3_typeOf_116 k38 v0 v3 v4 v5 v6 M
          else
            (gR 3 M v0 3).bind fun r9 =>
            (ldI M r9 y6).bind fun x10 =>
            (jv (v4 ||| (x10 <<< (((nI 3) * (v6 + (nI 1))) &&& 31)))).bind fun y11 =>
            j_X3_typeOf_116 k38 v0 v3 y11 v5 v6 M
def l_X3_typeOf_38  : Nat → Nat → Int32 → Int32 → Int32 → Int32 → jM → jO Int32
  | 0 => fun _ _ _ _ _ _ => none
  | n + 1 => b_X3_typeOf_38  (l_X3_typeOf_38  n)
theorem tb_X3_typeOf_38 {G : jG} {d : Nat} (hd_ : 0 ≤ d)  {k38 : Nat → Int32 → Int32 → Int32 → Int32 → jM → jO Int32} (hk38 : ∀ (w0 : Nat) (w3 : Int32) (w4 : Int32) (w5 : Int32) (w6 : Int32) (M : jM) (b : Int32 × jM), k38 w0 w3 w4 w5 w6 M = some b → V G m_X3_typeOf d 38 [(0, .ref w0), (3, .int w3), (4, .int w4), (5, .int w5), (6, .int w6)] [] M (jQb cI b)) {v0 : Nat} {v3 : Int32} {v4 : Int32} {v5 : Int32} {v6 : Int32} {M : jM} {b : Int32 × jM} (h : b_X3_typeOf_38  k38 v0 v3 v4 v5 v6 M = some b) : V G m_X3_typeOf d 38 [(0, .ref v0), (3, .int v3), (4, .int v4), (5, .int v5), (6, .int v6)] [] M (jQb cI b) := by
  unfold b_X3_typeOf_38 at h
  refine v_iload dX3_typeOf_38 4 rfl ?_
  refine v_aload_n dX3_typeOf_40 rfl 0 rfl ?_
  refine x_gI dX3_typeOf_41 kf_X3_31 rfl h (fun x1 h => ?_)
  refine x_ic_ge (tgt := 122) dX3_typeOf_44 (by decide) h (fun h => ?_) (fun h => ?_)
  · refine v_iload dX3_typeOf_122 2 rfl ?_
    exact x_iret dX3_typeOf_124 rfl h
  · refine v_iload dX3_typeOf_47 3 rfl ?_
    refine x_if_lt (tgt := 122) dX3_typeOf_49 (by decide) h (fun h => ?_) (fun h => ?_)
    · refine v_iload dX3_typeOf_122 2 rfl ?_
      exact x_iret dX3_typeOf_124 rfl h
    · refine v_iload dX3_typeOf_52 3 rfl ?_
      refine v_iload dX3_typeOf_54 4 rfl ?_
      refine v_iadd dX3_typeOf_56 ?_
      refine v_aload_n dX3_typeOf_57 rfl 0 rfl ?_
      refine x_gR dX3_typeOf_58 kf_X3_28 rfl h (fun r2 h => ?_)
      refine x_ln dX3_typeOf_61 h (fun x3 h => ?_)
      refine x_ic_ge (tgt := 122) dX3_typeOf_62 (by decide) h (fun h => ?_) (fun h => ?_)
      · refine v_iload dX3_typeOf_122 2 rfl ?_
        exact x_iret dX3_typeOf_124 rfl h
      · refine v_iload_n dX3_typeOf_65 rfl 1 rfl ?_
        refine v_bipush dX3_typeOf_66 bp_6 ?_
        refine v_imul dX3_typeOf_68 ?_
        refine v_aload_n dX3_typeOf_69 rfl 0 rfl ?_
        refine x_gR dX3_typeOf_70 kf_X3_28 rfl h (fun r4 h => ?_)
        refine v_iload dX3_typeOf_73 3 rfl ?_
        refine v_iload dX3_typeOf_75 4 rfl ?_
        refine v_iadd dX3_typeOf_77 ?_
        refine x_ldI dX3_typeOf_78 h (fun x5 h => ?_)
        refine v_iadd dX3_typeOf_79 ?_
        refine x_jvI h (fun y6 h => ?_)
        refine v_istore (ls2 := [(7, .int y6), (0, .ref v0), (3, .int v3), (4, .int v4), (5, .int v5), (6, .int v6)]) dX3_typeOf_80 (by decide) rfl ?_
        refine v_iload dX3_typeOf_82 0 rfl ?_
        refine x_if_lt (tgt := 116) dX3_typeOf_84 (by decide) h (fun h => ?_) (fun h => ?_)
        · exact V.pick [1, 2, 3, 4, 5] rfl (t_X3_typeOf_116 hd_ hk38 h)
        · refine v_iload dX3_typeOf_87 0 rfl ?_
          refine v_aload_n dX3_typeOf_89 rfl 1 rfl ?_
          refine x_gR dX3_typeOf_90 kf_X3_25 rfl h (fun r7 h => ?_)
          refine x_ln dX3_typeOf_93 h (fun x8 h => ?_)
          refine x_ic_ge (tgt := 116) dX3_typeOf_94 (by decide) h (fun h => ?_) (fun h => ?_)
          · exact V.pick [1, 2, 3, 4, 5] rfl (t_X3_typeOf_116 hd_ hk38 h)
          · refine v_iload dX3_typeOf_97 3 rfl ?_
            refine v_aload_n dX3_typeOf_99 rfl 1 rfl ?_
            refine x_gR dX3_typeOf_100 kf_X3_25 rfl h (fun r9 h => ?_)
            refine v_iload dX3_typeOf_103 0 rfl ?_
            refine x_ldI dX3_typeOf_105 h (fun x10 h => ?_)
            refine v_iconst dX3_typeOf_106 ic_3 ?_
            refine v_iload dX3_typeOf_107 5 rfl ?_
            refine v_iconst dX3_typeOf_109 ic_1 ?_
            refine v_iadd dX3_typeOf_110 ?_
            refine v_imul dX3_typeOf_111 ?_
            refine v_ishl dX3_typeOf_112 ?_
            refine v_ior dX3_typeOf_113 ?_
            refine x_jvI h (fun y11 h => ?_)
            refine v_istore (ls2 := [(4, .int y11), (7, .int y6), (0, .ref v0), (3, .int v3), (5, .int v5), (6, .int v6)]) dX3_typeOf_114 (by decide) rfl ?_
            exact V.pick [2, 3, 0, 4, 5] rfl (t_X3_typeOf_116 hd_ hk38 h)
theorem t_X3_typeOf_38 {G : jG} {d : Nat} (hd_ : 0 ≤ d)  : ∀ (n : Nat) (v0 : Nat) (v3 : Int32) (v4 : Int32) (v5 : Int32) (v6 : Int32) (M : jM) (b : Int32 × jM), l_X3_typeOf_38  n v0 v3 v4 v5 v6 M = some b → V G m_X3_typeOf d 38 [(0, .ref v0), (3, .int v3), (4, .int v4), (5, .int v5), (6, .int v6)] [] M (jQb cI b) := by
  intro n
  induction n with
  | zero => intro v0 v3 v4 v5 v6 M b h; exact nomatch (show (none : jO Int32) = some b from h)
  | succ n ih => intro v0 v3 v4 v5 v6 M b h; exact tb_X3_typeOf_38 hd_  ih h
def f_X3_typeOf (v0 : Nat) (v1 : Int32) (v2 : Int32) (M : jM) : jO Int32 :=
  (jv ((v1 * (nI 6)) + v2)).bind fun y1 =>
  if y1 < 0 then
    rt (nI 0) M
  else
    (gR 3 M v0 2).bind fun r2 =>
    (ln M r2).bind fun x3 =>
    if y1 < x3 then
      (gR 3 M v0 2).bind fun r4 =>
      (ldI M r4 y1).bind fun x5 =>
      (jv (v1 * (nI 3))).bind fun y6 =>
      l_X3_typeOf_38 jF0 v0 y1 x5 y6 (nI 0) M
    else
      rt (nI 0) M
theorem s_X3_typeOf {G : jG} {d : Nat} (hd_ : 0 ≤ d) {v0 : Nat} {v1 : Int32} {v2 : Int32} {M : jM} {b : Int32 × jM} (h : f_X3_typeOf  v0 v1 v2 M = some b) : V G m_X3_typeOf d 0 [(0, .ref v0), (1, .int v1), (2, .int v2)] [] M (jQb cI b) := by
  unfold f_X3_typeOf at h
  refine v_iload_n dX3_typeOf_0 rfl 1 rfl ?_
  refine v_bipush dX3_typeOf_1 bp_6 ?_
  refine v_imul dX3_typeOf_3 ?_
  refine v_iload_n dX3_typeOf_4 rfl 2 rfl ?_
  refine v_iadd dX3_typeOf_5 ?_
  refine x_jvI h (fun y1 h => ?_)
  refine v_istore_n (ls2 := [(3, .int y1), (0, .ref v0), (1, .int v1), (2, .int v2)]) dX3_typeOf_6 rfl (by decide) rfl ?_
  refine v_iload_n dX3_typeOf_7 rfl 0 rfl ?_
  refine x_if_lt (tgt := 20) dX3_typeOf_8 (by decide) h (fun h => ?_) (fun h => ?_)
  · refine v_iconst dX3_typeOf_20 ic_0 ?_
    exact x_iret dX3_typeOf_21 rfl h
  · refine v_iload_n dX3_typeOf_11 rfl 0 rfl ?_
    refine v_aload_n dX3_typeOf_12 rfl 1 rfl ?_
    refine x_gR dX3_typeOf_13 kf_X3_21 rfl h (fun r2 h => ?_)
    refine x_ln dX3_typeOf_16 h (fun x3 h => ?_)
    refine x_ic_lt (tgt := 22) dX3_typeOf_17 (by decide) h (fun h => ?_) (fun h => ?_)
    · refine v_aload_n dX3_typeOf_22 rfl 1 rfl ?_
      refine x_gR dX3_typeOf_23 kf_X3_21 rfl h (fun r4 h => ?_)
      refine v_iload_n dX3_typeOf_26 rfl 0 rfl ?_
      refine x_ldI dX3_typeOf_27 h (fun x5 h => ?_)
      refine v_istore (ls2 := [(4, .int x5), (3, .int y1), (0, .ref v0), (1, .int v1), (2, .int v2)]) dX3_typeOf_28 (by decide) rfl ?_
      refine v_iload_n dX3_typeOf_30 rfl 3 rfl ?_
      refine v_iconst dX3_typeOf_31 ic_3 ?_
      refine v_imul dX3_typeOf_32 ?_
      refine x_jvI h (fun y6 h => ?_)
      refine v_istore (ls2 := [(5, .int y6), (4, .int x5), (3, .int y1), (0, .ref v0), (1, .int v1), (2, .int v2)]) dX3_typeOf_33 (by decide) rfl ?_
      refine v_iconst dX3_typeOf_35 ic_0 ?_
      refine v_istore (ls2 := [(6, .int (nI 0)), (5, .int y6), (4, .int x5), (3, .int y1), (0, .ref v0), (1, .int v1), (2, .int v2)]) dX3_typeOf_36 (by decide) rfl ?_
      exact V.pick [4, 3, 2, 1, 0] rfl (t_X3_typeOf_38 hd_ _ _ _ _ _ _ _ _ h)
    · refine v_iconst dX3_typeOf_20 ic_0 ?_
      exact x_iret dX3_typeOf_21 rfl h
def f_X3_staysAlike (v0 : Nat) (v1 : Int32) (v2 : Int32) (v3 : Int32) (M : jM) : jO Int32 :=
  jb2 (jiv 3 M v0 (f_X3_typeOf v0 v1 v2 M)) fun x2 M1 =>
  jb2 (jiv 3 M1 v0 (f_X3_typeOf v0 ((nI 1) - v1) v3 M1)) fun x4 M3 =>
  if x2 = x4 then
    rZ (nI 1) M3
  else
    rZ (nI 0) M3
theorem s_X3_staysAlike {G : jG} {d : Nat} (hd_ : 1 ≤ d) {v0 : Nat} {v1 : Int32} {v2 : Int32} {v3 : Int32} {M : jM} {b : Int32 × jM} (h : f_X3_staysAlike  v0 v1 v2 v3 M = some b) : V G m_X3_staysAlike d 0 [(0, .ref v0), (1, .int v1), (2, .int v2), (3, .int v3)] [] M (jQb cI b) := by
  unfold f_X3_staysAlike at h
  refine v_aload_n dX3_staysAlike_0 rfl 0 rfl ?_
  refine v_iload_n dX3_staysAlike_1 rfl 1 rfl ?_
  refine v_iload_n dX3_staysAlike_2 rfl 2 rfl ?_
  refine x_inv (cv := cI) (As := [.int v1, .int v2]) (rest := []) (ls2 := [(0, .ref v0), (1, .int v1), (2, .int v2)]) (ci := 3) (by omega) dX3_staysAlike_3 ke_X3_typeOf kv_X3_58 rfl rfl (by decide) (Nat.le_of_ble_eq_true rfl) rfl rfl rfl rfl h (fun _ hq => s_X3_typeOf (by omega) hq) (fun x2 M1 h => ?_)
  refine v_aload_n dX3_staysAlike_6 rfl 0 rfl ?_
  refine v_iconst dX3_staysAlike_7 ic_1 ?_
  refine v_iload_n dX3_staysAlike_8 rfl 1 rfl ?_
  refine v_isub dX3_staysAlike_9 ?_
  refine v_iload_n dX3_staysAlike_10 rfl 3 rfl ?_
  refine x_inv (cv := cI) (As := [.int ((nI 1) - v1), .int v3]) (rest := [.int x2]) (ls2 := [(0, .ref v0), (1, .int ((nI 1) - v1)), (2, .int v3)]) (ci := 3) (by omega) dX3_staysAlike_11 ke_X3_typeOf kv_X3_58 rfl rfl (by decide) (Nat.le_of_ble_eq_true rfl) rfl rfl rfl rfl h (fun _ hq => s_X3_typeOf (by omega) hq) (fun x4 M3 h => ?_)
  refine x_ic_ne (tgt := 21) dX3_staysAlike_14 (by decide) h (fun h => ?_) (fun h => ?_)
  · refine v_iconst dX3_staysAlike_17 ic_1 ?_
    refine v_goto (tgt := 22) dX3_staysAlike_18 (by decide) ?_
    exact x_zret dX3_staysAlike_22 rfl h
  · refine v_iconst dX3_staysAlike_21 ic_0 ?_
    exact x_zret dX3_staysAlike_22 rfl h
def f_X3_worldOn (v0 : Nat) (v1 : Int32) (M : jM) : jO Nat :=
  if v1 = 0 then
    (gR 3 M v0 0).bind fun r1 =>
    rt r1 M
  else
    (gR 3 M v0 1).bind fun r2 =>
    rt r2 M
theorem s_X3_worldOn {G : jG} {d : Nat} (hd_ : 0 ≤ d) {v0 : Nat} {v1 : Int32} {M : jM} {b : Nat × jM} (h : f_X3_worldOn  v0 v1 M = some b) : V G m_X3_worldOn d 0 [(0, .ref v0), (1, .int v1)] [] M (jQb cR b) := by
  unfold f_X3_worldOn at h
  refine v_iload_n dX3_worldOn_0 rfl 1 rfl ?_
  refine x_if_ne (tgt := 11) dX3_worldOn_1 (by decide) h (fun h => ?_) (fun h => ?_)
  · refine v_aload_n dX3_worldOn_4 rfl 0 rfl ?_
    refine x_gR dX3_worldOn_5 kf_X3_12 rfl h (fun r1 h => ?_)
    refine v_goto (tgt := 15) dX3_worldOn_8 (by decide) ?_
    exact x_aret dX3_worldOn_15 rfl (Or.inl ⟨_, rfl⟩) h
  · refine v_aload_n dX3_worldOn_11 rfl 0 rfl ?_
    refine x_gR dX3_worldOn_12 kf_X3_18 rfl h (fun r2 h => ?_)
    exact x_aret dX3_worldOn_15 rfl (Or.inl ⟨_, rfl⟩) h
def j_X6_keeperAnswers_103  (s0 : Nat) (s1 : Int32) (M : jM) : jO Int32 :=
  (pI 5 M s0 1 s1).bind fun M1 =>
  rt (nI 1) M1
theorem t_X6_keeperAnswers_103 {G : jG} {d : Nat} (hd_ : 2 ≤ d)  {s0 : Nat} {s1 : Int32} {M : jM} {b : Int32 × jM} (h : j_X6_keeperAnswers_103  s0 s1 M = some b) : V G m_X6_keeperAnswers d 103 [] [.int s1, .ref s0] M (jQb cI b) := by
  unfold j_X6_keeperAnswers_103 at h
  refine x_pI dX6_keeperAnswers_103 kf_X6_18 rfl (fun q => Bool.noConfusion q) h (fun M1 h => ?_)
  refine v_iconst dX6_keeperAnswers_106 ic_1 ?_
  exact x_iret dX6_keeperAnswers_107 rfl h
def f_X6_keeperAnswers (v0 : Nat) (v1 : Int32) (M : jM) : jO Int32 :=
  (gI 5 M v0 1).bind fun x1 =>
  if x1 = (nI 2) then
    (gR 5 M v0 0).bind fun r2 =>
    (gI 5 M v0 3).bind fun x3 =>
    jb2 (jiv 3 M r2 (f_X3_worldOn r2 ((nI 1) - x3) M)) fun r5 M4 =>
    jb2 (jiv 8 M4 r5 (f_X9_has r5 v1 M4)) fun x7 M6 =>
    if x7 = 0 then
      rt (-2 : Int32) M6
    else
      (gR 5 M6 v0 0).bind fun r8 =>
      (gI 5 M6 v0 3).bind fun x9 =>
      (gI 5 M6 v0 4).bind fun x10 =>
      jb2 (jiv 3 M6 r8 (f_X3_staysAlike r8 x9 x10 v1 M6)) fun x12 M11 =>
      (gR 5 M11 v0 0).bind fun r13 =>
      (gI 5 M11 v0 3).bind fun x14 =>
      (gI 5 M11 v0 4).bind fun x15 =>
      jb2 (jiv 3 M11 r13 (f_X3_lengthen r13 x14 x15 v1 M11)) fun x17 M16 =>
      (gI 5 M16 v0 2).bind fun x18 =>
      (pI 5 M16 v0 2 (x18 - (nI 1))).bind fun M19 =>
      if x12 = 0 then
        (pI 5 M19 v0 1 (nI 4)).bind fun M20 =>
        rt (nI 1) M20
      else
        (gI 5 M19 v0 2).bind fun x21 =>
        if x21 = 0 then
          j_X6_keeperAnswers_103 v0 (nI 3) M19
        else
          j_X6_keeperAnswers_103 v0 (nI 1) M19
  else
    rt (-3 : Int32) M
theorem s_X6_keeperAnswers {G : jG} {d : Nat} (hd_ : 2 ≤ d) {v0 : Nat} {v1 : Int32} {M : jM} {b : Int32 × jM} (h : f_X6_keeperAnswers  v0 v1 M = some b) : V G m_X6_keeperAnswers d 0 [(0, .ref v0), (1, .int v1)] [] M (jQb cI b) := by
  unfold f_X6_keeperAnswers at h
  refine v_aload_n dX6_keeperAnswers_0 rfl 0 rfl ?_
  refine x_gI dX6_keeperAnswers_1 kf_X6_18 rfl h (fun x1 h => ?_)
  refine v_iconst dX6_keeperAnswers_4 ic_2 ?_
  refine x_ic_eq (tgt := 11) dX6_keeperAnswers_5 (by decide) h (fun h => ?_) (fun h => ?_)
  · refine v_aload_n dX6_keeperAnswers_11 rfl 0 rfl ?_
    refine x_gR dX6_keeperAnswers_12 kf_X6_12 rfl h (fun r2 h => ?_)
    refine v_iconst dX6_keeperAnswers_15 ic_1 ?_
    refine v_aload_n dX6_keeperAnswers_16 rfl 0 rfl ?_
    refine x_gI dX6_keeperAnswers_17 kf_X6_25 rfl h (fun x3 h => ?_)
    refine v_isub dX6_keeperAnswers_20 ?_
    refine x_inv (cv := cR) (As := [.int ((nI 1) - x3)]) (rest := []) (ls2 := [(0, .ref r2), (1, .int ((nI 1) - x3))]) (ci := 3) (by omega) dX6_keeperAnswers_21 ke_X3_worldOn kv_X6_35 rfl rfl (by decide) (Nat.le_of_ble_eq_true rfl) rfl rfl rfl rfl h (fun _ hq => s_X3_worldOn (by omega) hq) (fun r5 M4 h => ?_)
    refine v_iload_n dX6_keeperAnswers_24 rfl 1 rfl ?_
    refine x_inv (cv := cI) (As := [.int v1]) (rest := []) (ls2 := [(0, .ref r5), (1, .int v1)]) (ci := 8) (by omega) dX6_keeperAnswers_25 ke_X9_has kv_X6_39 rfl rfl (by decide) (Nat.le_of_ble_eq_true rfl) rfl rfl rfl rfl h (fun _ hq => s_X9_has (by omega) hq) (fun x7 M6 h => ?_)
    refine x_if_ne (tgt := 34) dX6_keeperAnswers_28 (by decide) h (fun h => ?_) (fun h => ?_)
    · refine v_bipush dX6_keeperAnswers_31 bp_m2 ?_
      exact x_iret dX6_keeperAnswers_33 rfl h
    · refine v_aload_n dX6_keeperAnswers_34 rfl 0 rfl ?_
      refine x_gR dX6_keeperAnswers_35 kf_X6_12 rfl h (fun r8 h => ?_)
      refine v_aload_n dX6_keeperAnswers_38 rfl 0 rfl ?_
      refine x_gI dX6_keeperAnswers_39 kf_X6_25 rfl h (fun x9 h => ?_)
      refine v_aload_n dX6_keeperAnswers_42 rfl 0 rfl ?_
      refine x_gI dX6_keeperAnswers_43 kf_X6_28 rfl h (fun x10 h => ?_)
      refine v_iload_n dX6_keeperAnswers_46 rfl 1 rfl ?_
      refine x_inv (cv := cI) (As := [.int x9, .int x10, .int v1]) (rest := []) (ls2 := [(0, .ref r8), (1, .int x9), (2, .int x10), (3, .int v1)]) (ci := 3) (by omega) dX6_keeperAnswers_47 ke_X3_staysAlike kv_X6_45 rfl rfl (by decide) (Nat.le_of_ble_eq_true rfl) rfl rfl rfl rfl h (fun _ hq => s_X3_staysAlike (by omega) hq) (fun x12 M11 h => ?_)
      refine v_istore_n (ls2 := [(2, .int x12), (0, .ref v0), (1, .int v1)]) dX6_keeperAnswers_50 rfl (by decide) rfl ?_
      refine v_aload_n dX6_keeperAnswers_51 rfl 1 rfl ?_
      refine x_gR dX6_keeperAnswers_52 kf_X6_12 rfl h (fun r13 h => ?_)
      refine v_aload_n dX6_keeperAnswers_55 rfl 1 rfl ?_
      refine x_gI dX6_keeperAnswers_56 kf_X6_25 rfl h (fun x14 h => ?_)
      refine v_aload_n dX6_keeperAnswers_59 rfl 1 rfl ?_
      refine x_gI dX6_keeperAnswers_60 kf_X6_28 rfl h (fun x15 h => ?_)
      refine v_iload_n dX6_keeperAnswers_63 rfl 2 rfl ?_
      refine x_inv (cv := cI) (As := [.int x14, .int x15, .int v1]) (rest := []) (ls2 := [(0, .ref r13), (1, .int x14), (2, .int x15), (3, .int v1)]) (ci := 3) (by omega) dX6_keeperAnswers_64 ke_X3_lengthen kv_X6_49 rfl rfl (by decide) (Nat.le_of_ble_eq_true rfl) rfl rfl rfl rfl h (fun _ hq => s_X3_lengthen (by omega) hq) (fun x17 M16 h => ?_)
      refine v_pop dX6_keeperAnswers_67 rfl ?_
      refine v_aload_n dX6_keeperAnswers_68 rfl 1 rfl ?_
      refine v_dup dX6_keeperAnswers_69 rfl ?_
      refine x_gI dX6_keeperAnswers_70 kf_X6_22 rfl h (fun x18 h => ?_)
      refine v_iconst dX6_keeperAnswers_73 ic_1 ?_
      refine v_isub dX6_keeperAnswers_74 ?_
      refine x_pI dX6_keeperAnswers_75 kf_X6_22 rfl (fun q => Bool.noConfusion q) h (fun M19 h => ?_)
      refine v_iload_n dX6_keeperAnswers_78 rfl 0 rfl ?_
      refine x_if_ne (tgt := 90) dX6_keeperAnswers_79 (by decide) h (fun h => ?_) (fun h => ?_)
      · refine v_aload_n dX6_keeperAnswers_82 rfl 1 rfl ?_
        refine v_iconst dX6_keeperAnswers_83 ic_4 ?_
        refine x_pI dX6_keeperAnswers_84 kf_X6_18 rfl (fun q => Bool.noConfusion q) h (fun M20 h => ?_)
        refine v_goto (tgt := 106) dX6_keeperAnswers_87 (by decide) ?_
        refine v_iconst dX6_keeperAnswers_106 ic_1 ?_
        exact x_iret dX6_keeperAnswers_107 rfl h
      · refine v_aload_n dX6_keeperAnswers_90 rfl 1 rfl ?_
        refine v_aload_n dX6_keeperAnswers_91 rfl 1 rfl ?_
        refine x_gI dX6_keeperAnswers_92 kf_X6_22 rfl h (fun x21 h => ?_)
        refine x_if_ne (tgt := 102) dX6_keeperAnswers_95 (by decide) h (fun h => ?_) (fun h => ?_)
        · refine v_iconst dX6_keeperAnswers_98 ic_3 ?_
          refine v_goto (tgt := 103) dX6_keeperAnswers_99 (by decide) ?_
          exact V.pick [] rfl (t_X6_keeperAnswers_103 hd_ h)
        · refine v_iconst dX6_keeperAnswers_102 ic_1 ?_
          exact V.pick [] rfl (t_X6_keeperAnswers_103 hd_ h)
  · refine v_bipush dX6_keeperAnswers_8 bp_m3 ?_
    exact x_iret dX6_keeperAnswers_10 rfl h
def f_X11_answer (v0 : Nat) (v1 : Int32) (M : jM) : jO Int32 :=
  (gR 10 M v0 3).bind fun r1 =>
  jb2 (jiv 5 M r1 (f_X6_keeperAnswers r1 v1 M)) fun x3 M2 =>
  rt x3 M2
theorem s_X11_answer {G : jG} {d : Nat} (hd_ : 3 ≤ d) {v0 : Nat} {v1 : Int32} {M : jM} {b : Int32 × jM} (h : f_X11_answer  v0 v1 M = some b) : V G m_X11_answer d 0 [(0, .ref v0), (1, .int v1)] [] M (jQb cI b) := by
  unfold f_X11_answer at h
  refine v_aload_n dX11_answer_0 rfl 0 rfl ?_
  refine x_gR dX11_answer_1 kf_X11_30 rfl h (fun r1 h => ?_)
  refine v_iload_n dX11_answer_4 rfl 1 rfl ?_
  refine x_inv (cv := cI) (As := [.int v1]) (rest := []) (ls2 := [(0, .ref r1), (1, .int v1)]) (ci := 5) (by omega) dX11_answer_5 ke_X6_keeperAnswers kv_X11_154 rfl rfl (by decide) (Nat.le_of_ble_eq_true rfl) rfl rfl rfl rfl h (fun _ hq => s_X6_keeperAnswers (by omega) hq) (fun x3 M2 h => ?_)
  exact x_iret dX11_answer_8 rfl h
def f_X0_latest (v0 : Nat) (M : jM) : jO Int32 :=
  (gI 0 M v0 2).bind fun x1 =>
  rt x1 M
theorem s_X0_latest {G : jG} {d : Nat} (hd_ : 0 ≤ d) {v0 : Nat} {M : jM} {b : Int32 × jM} (h : f_X0_latest  v0 M = some b) : V G m_X0_latest d 0 [(0, .ref v0)] [] M (jQb cI b) := by
  unfold f_X0_latest at h
  refine v_aload_n dX0_latest_0 rfl 0 rfl ?_
  refine x_gI dX0_latest_1 kf_X0_19 rfl h (fun x1 h => ?_)
  exact x_iret dX0_latest_4 rfl h
def f_X11_asked (v0 : Nat) (M : jM) : jO Int32 :=
  (gR 10 M v0 7).bind fun r1 =>
  jb2 (jiv 0 M r1 (f_X0_latest r1 M)) fun x3 M2 =>
  rt x3 M2
theorem s_X11_asked {G : jG} {d : Nat} (hd_ : 1 ≤ d) {v0 : Nat} {M : jM} {b : Int32 × jM} (h : f_X11_asked  v0 M = some b) : V G m_X11_asked d 0 [(0, .ref v0)] [] M (jQb cI b) := by
  unfold f_X11_asked at h
  refine v_aload_n dX11_asked_0 rfl 0 rfl ?_
  refine x_gR dX11_asked_1 kf_X11_58 rfl h (fun r1 h => ?_)
  refine x_inv (cv := cI) (As := []) (rest := []) (ls2 := [(0, .ref r1)]) (ci := 0) (by omega) dX11_asked_4 ke_X0_latest kv_X11_206 rfl rfl (by decide) (Nat.le_of_ble_eq_true rfl) rfl rfl rfl rfl h (fun _ hq => s_X0_latest (by omega) hq) (fun x3 M2 h => ?_)
  exact x_iret dX11_asked_7 rfl h
def b_X3_fillTypes_46  (k46 : Nat → Int32 → Int32 → jM → jO Unit) (v0 : Nat) (v1 : Int32) (v2 : Int32) (M : jM) : jO Unit :=
  (gR 3 M v0 1).bind fun r1 =>
  jb2 (jiv 8 M r1 (f_X9_size r1 M)) fun x3 M2 =>
  if x3 ≤ v2 then
    rt () M2
  else
    (gR 3 M2 v0 6).bind fun r4 =>
    (ln M2 r4).bind fun x5 =>
    if x5 ≤ ((v1 + (nI 6)) + v2) then
      rt () M2
    else
      (gR 3 M2 v0 6).bind fun r6 =>
      jb2 (jiv 3 M2 v0 (f_X3_typeOf v0 (nI 1) v2 M2)) fun x8 M7 =>
      (stI M7 r6 ((v1 + (nI 6)) + v2) x8).bind fun M9 =>
      k46 v0 v1 (v2 + (nI 1)) M9
def l_X3_fillTypes_46  : Nat → Nat → Int32 → Int32 → jM → jO Unit
  | 0 => fun _ _ _ _ => none
  | n + 1 => b_X3_fillTypes_46  (l_X3_fillTypes_46  n)
theorem tb_X3_fillTypes_46 {G : jG} {d : Nat} (hd_ : 1 ≤ d)  {k46 : Nat → Int32 → Int32 → jM → jO Unit} (hk46 : ∀ (w0 : Nat) (w1 : Int32) (w2 : Int32) (M : jM) (b : Unit × jM), k46 w0 w1 w2 M = some b → V G m_X3_fillTypes d 46 [(0, .ref w0), (1, .int w1), (2, .int w2)] [] M (jQb cU b)) {v0 : Nat} {v1 : Int32} {v2 : Int32} {M : jM} {b : Unit × jM} (h : b_X3_fillTypes_46  k46 v0 v1 v2 M = some b) : V G m_X3_fillTypes d 46 [(0, .ref v0), (1, .int v1), (2, .int v2)] [] M (jQb cU b) := by
  unfold b_X3_fillTypes_46 at h
  refine v_iload_n dX3_fillTypes_46 rfl 2 rfl ?_
  refine v_aload_n dX3_fillTypes_47 rfl 0 rfl ?_
  refine x_gR dX3_fillTypes_48 kf_X3_18 rfl h (fun r1 h => ?_)
  refine x_inv (cv := cI) (As := []) (rest := [.int v2]) (ls2 := [(0, .ref r1)]) (ci := 8) (by omega) dX3_fillTypes_51 ke_X9_size kv_X3_65 rfl rfl (by decide) (Nat.le_of_ble_eq_true rfl) rfl rfl rfl rfl h (fun _ hq => s_X9_size (by omega) hq) (fun x3 M2 h => ?_)
  refine x_ic_ge (tgt := 94) dX3_fillTypes_54 (by decide) h (fun h => ?_) (fun h => ?_)
  · exact x_vret dX3_fillTypes_94 rfl h
  · refine v_iload_n dX3_fillTypes_57 rfl 1 rfl ?_
    refine v_bipush dX3_fillTypes_58 bp_6 ?_
    refine v_iadd dX3_fillTypes_60 ?_
    refine v_iload_n dX3_fillTypes_61 rfl 2 rfl ?_
    refine v_iadd dX3_fillTypes_62 ?_
    refine v_aload_n dX3_fillTypes_63 rfl 0 rfl ?_
    refine x_gR dX3_fillTypes_64 kf_X3_35 rfl h (fun r4 h => ?_)
    refine x_ln dX3_fillTypes_67 h (fun x5 h => ?_)
    refine x_ic_ge (tgt := 94) dX3_fillTypes_68 (by decide) h (fun h => ?_) (fun h => ?_)
    · exact x_vret dX3_fillTypes_94 rfl h
    · refine v_aload_n dX3_fillTypes_71 rfl 0 rfl ?_
      refine x_gR dX3_fillTypes_72 kf_X3_35 rfl h (fun r6 h => ?_)
      refine v_iload_n dX3_fillTypes_75 rfl 1 rfl ?_
      refine v_bipush dX3_fillTypes_76 bp_6 ?_
      refine v_iadd dX3_fillTypes_78 ?_
      refine v_iload_n dX3_fillTypes_79 rfl 2 rfl ?_
      refine v_iadd dX3_fillTypes_80 ?_
      refine v_aload_n dX3_fillTypes_81 rfl 0 rfl ?_
      refine v_iconst dX3_fillTypes_82 ic_1 ?_
      refine v_iload_n dX3_fillTypes_83 rfl 2 rfl ?_
      refine x_inv (cv := cI) (As := [.int (nI 1), .int v2]) (rest := [.int ((v1 + (nI 6)) + v2), .ref r6]) (ls2 := [(0, .ref v0), (1, .int (nI 1)), (2, .int v2)]) (ci := 3) (by omega) dX3_fillTypes_84 ke_X3_typeOf kv_X3_58 rfl rfl (by decide) (Nat.le_of_ble_eq_true rfl) rfl rfl rfl rfl h (fun _ hq => s_X3_typeOf (by omega) hq) (fun x8 M7 h => ?_)
      refine x_stI dX3_fillTypes_87 h (fun M9 h => ?_)
      refine v_iincC (ls2 := [(2, .int (v2 + (nI 1))), (0, .ref v0), (1, .int v1)]) dX3_fillTypes_88 ic_1 2 rfl (by decide) rfl ?_
      refine v_goto (tgt := 46) dX3_fillTypes_91 (by decide) ?_
      exact V.pick [1, 2, 0] rfl (hk46 _ _ _ _ _ h)
theorem t_X3_fillTypes_46 {G : jG} {d : Nat} (hd_ : 1 ≤ d)  : ∀ (n : Nat) (v0 : Nat) (v1 : Int32) (v2 : Int32) (M : jM) (b : Unit × jM), l_X3_fillTypes_46  n v0 v1 v2 M = some b → V G m_X3_fillTypes d 46 [(0, .ref v0), (1, .int v1), (2, .int v2)] [] M (jQb cU b) := by
  intro n
  induction n with
  | zero => intro v0 v1 v2 M b h; exact nomatch (show (none : jO Unit) = some b from h)
  | succ n ih => intro v0 v1 v2 M b h; exact tb_X3_fillTypes_46 hd_  ih h
def j_X3_fillTypes_44  (v0 : Nat) (v1 : Int32) (M : jM) : jO Unit :=
  l_X3_fillTypes_46 jF0 v0 v1 (nI 0) M
theorem t_X3_fillTypes_44 {G : jG} {d : Nat} (hd_ : 1 ≤ d)  {v0 : Nat} {v1 : Int32} {M : jM} {b : Unit × jM} (h : j_X3_fillTypes_44  v0 v1 M = some b) : V G m_X3_fillTypes d 44 [(0, .ref v0), (1, .int v1)] [] M (jQb cU b) := by
  unfold j_X3_fillTypes_44 at h
  refine v_iconst dX3_fillTypes_44 ic_0 ?_
  refine v_istore_n (ls2 := [(2, .int (nI 0)), (0, .ref v0), (1, .int v1)]) dX3_fillTypes_45 rfl (by decide) rfl ?_
  exact V.pick [1, 2, 0] rfl (t_X3_fillTypes_46 hd_ _ _ _ _ _ _ h)
def b_X3_fillTypes_2  (k2 : Nat → Int32 → Int32 → jM → jO Unit) (v0 : Nat) (v1 : Int32) (v2 : Int32) (M : jM) : jO Unit :=
  (gR 3 M v0 0).bind fun r1 =>
  jb2 (jiv 8 M r1 (f_X9_size r1 M)) fun x3 M2 =>
  if x3 ≤ v2 then
    j_X3_fillTypes_44 v0 v1 M2
  else
    (gR 3 M2 v0 6).bind fun r4 =>
    (ln M2 r4).bind fun x5 =>
    if x5 ≤ (v1 + v2) then
      j_X3_fillTypes_44 v0 v1 M2
    else
      (gR 3 M2 v0 6).bind fun r6 =>
      jb2 (jiv 3 M2 v0 (f_X3_typeOf v0 (nI 0) v2 M2)) fun x8 M7 =>
      (stI M7 r6 (v1 + v2) x8).bind fun M9 =>
      k2 v0 v1 (v2 + (nI 1)) M9
def l_X3_fillTypes_2  : Nat → Nat → Int32 → Int32 → jM → jO Unit
  | 0 => fun _ _ _ _ => none
  | n + 1 => b_X3_fillTypes_2  (l_X3_fillTypes_2  n)
theorem tb_X3_fillTypes_2 {G : jG} {d : Nat} (hd_ : 1 ≤ d)  {k2 : Nat → Int32 → Int32 → jM → jO Unit} (hk2 : ∀ (w0 : Nat) (w1 : Int32) (w2 : Int32) (M : jM) (b : Unit × jM), k2 w0 w1 w2 M = some b → V G m_X3_fillTypes d 2 [(0, .ref w0), (1, .int w1), (2, .int w2)] [] M (jQb cU b)) {v0 : Nat} {v1 : Int32} {v2 : Int32} {M : jM} {b : Unit × jM} (h : b_X3_fillTypes_2  k2 v0 v1 v2 M = some b) : V G m_X3_fillTypes d 2 [(0, .ref v0), (1, .int v1), (2, .int v2)] [] M (jQb cU b) := by
  unfold b_X3_fillTypes_2 at h
  refine v_iload_n dX3_fillTypes_2 rfl 2 rfl ?_
  refine v_aload_n dX3_fillTypes_3 rfl 0 rfl ?_
  refine x_gR dX3_fillTypes_4 kf_X3_12 rfl h (fun r1 h => ?_)
  refine x_inv (cv := cI) (As := []) (rest := [.int v2]) (ls2 := [(0, .ref r1)]) (ci := 8) (by omega) dX3_fillTypes_7 ke_X9_size kv_X3_65 rfl rfl (by decide) (Nat.le_of_ble_eq_true rfl) rfl rfl rfl rfl h (fun _ hq => s_X9_size (by omega) hq) (fun x3 M2 h => ?_)
  refine x_ic_ge (tgt := 44) dX3_fillTypes_10 (by decide) h (fun h => ?_) (fun h => ?_)
  · exact V.pick [0, 1] rfl (t_X3_fillTypes_44 hd_ h)
  · refine v_iload_n dX3_fillTypes_13 rfl 1 rfl ?_
    refine v_iload_n dX3_fillTypes_14 rfl 2 rfl ?_
    refine v_iadd dX3_fillTypes_15 ?_
    refine v_aload_n dX3_fillTypes_16 rfl 0 rfl ?_
    refine x_gR dX3_fillTypes_17 kf_X3_35 rfl h (fun r4 h => ?_)
    refine x_ln dX3_fillTypes_20 h (fun x5 h => ?_)
    refine x_ic_ge (tgt := 44) dX3_fillTypes_21 (by decide) h (fun h => ?_) (fun h => ?_)
    · exact V.pick [0, 1] rfl (t_X3_fillTypes_44 hd_ h)
    · refine v_aload_n dX3_fillTypes_24 rfl 0 rfl ?_
      refine x_gR dX3_fillTypes_25 kf_X3_35 rfl h (fun r6 h => ?_)
      refine v_iload_n dX3_fillTypes_28 rfl 1 rfl ?_
      refine v_iload_n dX3_fillTypes_29 rfl 2 rfl ?_
      refine v_iadd dX3_fillTypes_30 ?_
      refine v_aload_n dX3_fillTypes_31 rfl 0 rfl ?_
      refine v_iconst dX3_fillTypes_32 ic_0 ?_
      refine v_iload_n dX3_fillTypes_33 rfl 2 rfl ?_
      refine x_inv (cv := cI) (As := [.int (nI 0), .int v2]) (rest := [.int (v1 + v2), .ref r6]) (ls2 := [(0, .ref v0), (1, .int (nI 0)), (2, .int v2)]) (ci := 3) (by omega) dX3_fillTypes_34 ke_X3_typeOf kv_X3_58 rfl rfl (by decide) (Nat.le_of_ble_eq_true rfl) rfl rfl rfl rfl h (fun _ hq => s_X3_typeOf (by omega) hq) (fun x8 M7 h => ?_)
      refine x_stI dX3_fillTypes_37 h (fun M9 h => ?_)
      refine v_iincC (ls2 := [(2, .int (v2 + (nI 1))), (0, .ref v0), (1, .int v1)]) dX3_fillTypes_38 ic_1 2 rfl (by decide) rfl ?_
      refine v_goto (tgt := 2) dX3_fillTypes_41 (by decide) ?_
      exact V.pick [1, 2, 0] rfl (hk2 _ _ _ _ _ h)
theorem t_X3_fillTypes_2 {G : jG} {d : Nat} (hd_ : 1 ≤ d)  : ∀ (n : Nat) (v0 : Nat) (v1 : Int32) (v2 : Int32) (M : jM) (b : Unit × jM), l_X3_fillTypes_2  n v0 v1 v2 M = some b → V G m_X3_fillTypes d 2 [(0, .ref v0), (1, .int v1), (2, .int v2)] [] M (jQb cU b) := by
  intro n
  induction n with
  | zero => intro v0 v1 v2 M b h; exact nomatch (show (none : jO Unit) = some b from h)
  | succ n ih => intro v0 v1 v2 M b h; exact tb_X3_fillTypes_2 hd_  ih h
def f_X3_fillTypes (v0 : Nat) (v1 : Int32) (M : jM) : jO Unit :=
  l_X3_fillTypes_2 jF0 v0 v1 (nI 0) M
theorem s_X3_fillTypes {G : jG} {d : Nat} (hd_ : 1 ≤ d) {v0 : Nat} {v1 : Int32} {M : jM} {b : Unit × jM} (h : f_X3_fillTypes  v0 v1 M = some b) : V G m_X3_fillTypes d 0 [(0, .ref v0), (1, .int v1)] [] M (jQb cU b) := by
  unfold f_X3_fillTypes at h
  refine v_iconst dX3_fillTypes_0 ic_0 ?_
  refine v_istore_n (ls2 := [(2, .int (nI 0)), (0, .ref v0), (1, .int v1)]) dX3_fillTypes_1 rfl (by decide) rfl ?_
  exact V.pick [1, 2, 0] rfl (t_X3_fillTypes_2 hd_ _ _ _ _ _ _ h)
def f_X3_shorten (v0 : Nat) (M : jM) : jO Unit :=
  (gI 3 M v0 5).bind fun x1 =>
  (pI 3 M v0 5 (jmx (nI 0) (x1 - (nI 1)))).bind fun M2 =>
  rt () M2
theorem s_X3_shorten {G : jG} {d : Nat} (hd_ : 1 ≤ d) {v0 : Nat} {M : jM} {b : Unit × jM} (h : f_X3_shorten  v0 M = some b) : V G m_X3_shorten d 0 [(0, .ref v0)] [] M (jQb cU b) := by
  unfold f_X3_shorten at h
  refine v_aload_n dX3_shorten_0 rfl 0 rfl ?_
  refine v_iconst dX3_shorten_1 ic_0 ?_
  refine v_aload_n dX3_shorten_2 rfl 0 rfl ?_
  refine x_gI dX3_shorten_3 kf_X3_31 rfl h (fun x1 h => ?_)
  refine v_iconst dX3_shorten_6 ic_1 ?_
  refine v_isub dX3_shorten_7 ?_
  refine v_mmax (by omega) dX3_shorten_8 kh_X3_53 rfl ?_
  refine x_pI dX3_shorten_11 kf_X3_31 rfl (fun q => Bool.noConfusion q) h (fun M2 h => ?_)
  exact x_vret dX3_shorten_14 rfl h
def f_X3_keeperWinsWith (rec_ : Nat → Int32 → jM → jO Int32) (v0 : Nat) (v1 : Int32) (v2 : Int32) (v3 : Int32) (v4 : Int32) (M : jM) : jO Int32 :=
  if v4 ≤ (nI 1) then
    rZ (nI 1) M
  else
    jb2 (jiv 3 M v0 (f_X3_lengthen v0 v1 v2 v3 M)) fun x2 M1 =>
    if x2 = 0 then
      rZ (nI 1) M1
    else
      jb2 (jiv 3 M1 v0 (rec_ v0 (v4 - (nI 1)) M1)) fun x4 M3 =>
      jb2 (jiv 3 M3 v0 (f_X3_shorten v0 M3)) fun _ M5 =>
      rZ x4 M5
theorem s_X3_keeperWinsWith {G : jG} {d : Nat} {D_ : Nat} {rec_ : Nat → Int32 → jM → jO Int32} (hrec_ : ∀ d2, D_ ≤ d2 → ∀ (u0 : Nat) (u1 : Int32) (M : jM) b2, rec_ u0 u1 M = some b2 → V G m_X3_keeperWins d2 0 [(0, .ref u0), (1, .int u1)] [] M (jQb cI b2)) (hD_ : 2 ≤ D_) (hd_ : D_ + 1 ≤ d) {v0 : Nat} {v1 : Int32} {v2 : Int32} {v3 : Int32} {v4 : Int32} {M : jM} {b : Int32 × jM} (h : f_X3_keeperWinsWith rec_ v0 v1 v2 v3 v4 M = some b) : V G m_X3_keeperWinsWith d 0 [(0, .ref v0), (1, .int v1), (2, .int v2), (3, .int v3), (4, .int v4)] [] M (jQb cI b) := by
  unfold f_X3_keeperWinsWith at h
  refine v_iload dX3_keeperWinsWith_0 4 rfl ?_
  refine v_iconst dX3_keeperWinsWith_2 ic_1 ?_
  refine x_ic_le (tgt := 16) dX3_keeperWinsWith_3 (by decide) h (fun h => ?_) (fun h => ?_)
  · refine v_iconst dX3_keeperWinsWith_16 ic_1 ?_
    exact x_zret dX3_keeperWinsWith_17 rfl h
  · refine v_aload_n dX3_keeperWinsWith_6 rfl 0 rfl ?_
    refine v_iload_n dX3_keeperWinsWith_7 rfl 1 rfl ?_
    refine v_iload_n dX3_keeperWinsWith_8 rfl 2 rfl ?_
    refine v_iload_n dX3_keeperWinsWith_9 rfl 3 rfl ?_
    refine x_inv (cv := cI) (As := [.int v1, .int v2, .int v3]) (rest := []) (ls2 := [(0, .ref v0), (1, .int v1), (2, .int v2), (3, .int v3)]) (ci := 3) (by omega) dX3_keeperWinsWith_10 ke_X3_lengthen kv_X3_81 rfl rfl (by decide) (Nat.le_of_ble_eq_true rfl) rfl rfl rfl rfl h (fun _ hq => s_X3_lengthen (by omega) hq) (fun x2 M1 h => ?_)
    refine x_if_ne (tgt := 18) dX3_keeperWinsWith_13 (by decide) h (fun h => ?_) (fun h => ?_)
    · refine v_iconst dX3_keeperWinsWith_16 ic_1 ?_
      exact x_zret dX3_keeperWinsWith_17 rfl h
    · refine v_aload_n dX3_keeperWinsWith_18 rfl 0 rfl ?_
      refine v_iload dX3_keeperWinsWith_19 4 rfl ?_
      refine v_iconst dX3_keeperWinsWith_21 ic_1 ?_
      refine v_isub dX3_keeperWinsWith_22 ?_
      refine x_inv (cv := cI) (As := [.int (v4 - (nI 1))]) (rest := []) (ls2 := [(0, .ref v0), (1, .int (v4 - (nI 1)))]) (ci := 3) (by omega) dX3_keeperWinsWith_23 ke_X3_keeperWins kv_X3_85 rfl rfl (by decide) (Nat.le_of_ble_eq_true rfl) rfl rfl rfl rfl h (fun _ hq => hrec_ _ (by omega) _ _ _ _ hq) (fun x4 M3 h => ?_)
      refine v_istore (ls2 := [(5, .int x4), (0, .ref v0), (1, .int v1), (2, .int v2), (3, .int v3), (4, .int v4)]) dX3_keeperWinsWith_26 (by decide) rfl ?_
      refine v_aload_n dX3_keeperWinsWith_28 rfl 1 rfl ?_
      refine x_inv (cv := cU) (As := []) (rest := []) (ls2 := [(0, .ref v0)]) (ci := 3) (by omega) dX3_keeperWinsWith_29 ke_X3_shorten kv_X3_89 rfl rfl (by decide) (Nat.le_of_ble_eq_true rfl) rfl rfl rfl rfl h (fun _ hq => s_X3_shorten (by omega) hq) (fun _ M5 h => ?_)
      refine v_iload dX3_keeperWinsWith_32 0 rfl ?_
      exact x_zret dX3_keeperWinsWith_34 rfl h
def f_X3_sameType (v0 : Nat) (v1 : Int32) (v2 : Int32) (M : jM) : jO Int32 :=
  if v1 < 0 then
    rZ (nI 0) M
  else
    if v2 < 0 then
      rZ (nI 0) M
    else
      (gR 3 M v0 6).bind fun r1 =>
      (ln M r1).bind fun x2 =>
      if x2 ≤ v1 then
        rZ (nI 0) M
      else
        (gR 3 M v0 6).bind fun r3 =>
        (ln M r3).bind fun x4 =>
        if x4 ≤ v2 then
          rZ (nI 0) M
        else
          (gR 3 M v0 6).bind fun r5 =>
          (ldI M r5 v1).bind fun x6 =>
          (gR 3 M v0 6).bind fun r7 =>
          (ldI M r7 v2).bind fun x8 =>
          if x6 = x8 then
            rZ (nI 1) M
          else
            rZ (nI 0) M
theorem s_X3_sameType {G : jG} {d : Nat} (hd_ : 0 ≤ d) {v0 : Nat} {v1 : Int32} {v2 : Int32} {M : jM} {b : Int32 × jM} (h : f_X3_sameType  v0 v1 v2 M = some b) : V G m_X3_sameType d 0 [(0, .ref v0), (1, .int v1), (2, .int v2)] [] M (jQb cI b) := by
  unfold f_X3_sameType at h
  refine v_iload_n dX3_sameType_0 rfl 1 rfl ?_
  refine x_if_lt (tgt := 45) dX3_sameType_1 (by decide) h (fun h => ?_) (fun h => ?_)
  · refine v_iconst dX3_sameType_45 ic_0 ?_
    exact x_zret dX3_sameType_46 rfl h
  · refine v_iload_n dX3_sameType_4 rfl 2 rfl ?_
    refine x_if_lt (tgt := 45) dX3_sameType_5 (by decide) h (fun h => ?_) (fun h => ?_)
    · refine v_iconst dX3_sameType_45 ic_0 ?_
      exact x_zret dX3_sameType_46 rfl h
    · refine v_iload_n dX3_sameType_8 rfl 1 rfl ?_
      refine v_aload_n dX3_sameType_9 rfl 0 rfl ?_
      refine x_gR dX3_sameType_10 kf_X3_35 rfl h (fun r1 h => ?_)
      refine x_ln dX3_sameType_13 h (fun x2 h => ?_)
      refine x_ic_ge (tgt := 45) dX3_sameType_14 (by decide) h (fun h => ?_) (fun h => ?_)
      · refine v_iconst dX3_sameType_45 ic_0 ?_
        exact x_zret dX3_sameType_46 rfl h
      · refine v_iload_n dX3_sameType_17 rfl 2 rfl ?_
        refine v_aload_n dX3_sameType_18 rfl 0 rfl ?_
        refine x_gR dX3_sameType_19 kf_X3_35 rfl h (fun r3 h => ?_)
        refine x_ln dX3_sameType_22 h (fun x4 h => ?_)
        refine x_ic_ge (tgt := 45) dX3_sameType_23 (by decide) h (fun h => ?_) (fun h => ?_)
        · refine v_iconst dX3_sameType_45 ic_0 ?_
          exact x_zret dX3_sameType_46 rfl h
        · refine v_aload_n dX3_sameType_26 rfl 0 rfl ?_
          refine x_gR dX3_sameType_27 kf_X3_35 rfl h (fun r5 h => ?_)
          refine v_iload_n dX3_sameType_30 rfl 1 rfl ?_
          refine x_ldI dX3_sameType_31 h (fun x6 h => ?_)
          refine v_aload_n dX3_sameType_32 rfl 0 rfl ?_
          refine x_gR dX3_sameType_33 kf_X3_35 rfl h (fun r7 h => ?_)
          refine v_iload_n dX3_sameType_36 rfl 2 rfl ?_
          refine x_ldI dX3_sameType_37 h (fun x8 h => ?_)
          refine x_ic_ne (tgt := 45) dX3_sameType_38 (by decide) h (fun h => ?_) (fun h => ?_)
          · refine v_iconst dX3_sameType_41 ic_1 ?_
            refine v_goto (tgt := 46) dX3_sameType_42 (by decide) ?_
            exact x_zret dX3_sameType_46 rfl h
          · refine v_iconst dX3_sameType_45 ic_0 ?_
            exact x_zret dX3_sameType_46 rfl h
def j_X3_fittingReplies_83 (rec_ : Nat → Int32 → jM → jO Int32) (k6 : Nat → Int32 → Int32 → Int32 → Int32 → Int32 → Int32 → jM → jO Int32) (v0 : Nat) (v1 : Int32) (v2 : Int32) (v3 : Int32) (v4 : Int32) (v5 : Int32) (v6 : Int32) (M : jM) : jO Int32 :=
  k6 v0 v1 v2 v3 v4 v5 (v6 + (nI 1)) M
theorem t_X3_fittingReplies_83 {G : jG} {d : Nat} {D_ : Nat} {rec_ : Nat → Int32 → jM → jO Int32} (hrec_ : ∀ d2, D_ ≤ d2 → ∀ (u0 : Nat) (u1 : Int32) (M : jM) b2, rec_ u0 u1 M = some b2 → V G m_X3_keeperWins d2 0 [(0, .ref u0), (1, .int u1)] [] M (jQb cI b2)) (hD_ : 2 ≤ D_) (hd_ : D_ + 2 ≤ d) {k6 : Nat → Int32 → Int32 → Int32 → Int32 → Int32 → Int32 → jM → jO Int32} (hk6 : ∀ (w0 : Nat) (w1 : Int32) (w2 : Int32) (w3 : Int32) (w4 : Int32) (w5 : Int32) (w6 : Int32) (M : jM) (b : Int32 × jM), k6 w0 w1 w2 w3 w4 w5 w6 M = some b → V G m_X3_fittingReplies d 6 [(0, .ref w0), (1, .int w1), (2, .int w2), (3, .int w3), (4, .int w4), (5, .int w5), (6, .int w6)] [] M (jQb cI b)) {v0 : Nat} {v1 : Int32} {v2 : Int32} {v3 : Int32} {v4 : Int32} {v5 : Int32} {v6 : Int32} {M : jM} {b : Int32 × jM} (h : j_X3_fittingReplies_83 rec_ k6 v0 v1 v2 v3 v4 v5 v6 M = some b) : V G m_X3_fittingReplies d 83 [(0, .ref v0), (1, .int v1), (2, .int v2), (3, .int v3), (4, .int v4), (5, .int v5), (6, .int v6)] [] M (jQb cI b) := by
  unfold j_X3_fittingReplies_83 at h
  refine v_iincC (ls2 := [(6, .int (v6 + (nI 1))), (0, .ref v0), (1, .int v1), (2, .int v2), (3, .int v3), (4, .int v4), (5, .int v5)]) dX3_fittingReplies_83 ic_1 6 rfl (by decide) rfl ?_
  refine v_goto (tgt := 6) dX3_fittingReplies_86 (by decide) ?_
  exact V.pick [1, 2, 3, 4, 5, 6, 0] rfl (hk6 _ _ _ _ _ _ _ _ _ h)
def j_X3_fittingReplies_37 (rec_ : Nat → Int32 → jM → jO Int32) (k6 : Nat → Int32 → Int32 → Int32 → Int32 → Int32 → Int32 → jM → jO Int32) (v0 : Nat) (v1 : Int32) (v2 : Int32) (v3 : Int32) (v4 : Int32) (v5 : Int32) (v6 : Int32) (s0 : Int32) (M : jM) : jO Int32 :=
  if s0 = 0 then
    j_X3_fittingReplies_83 rec_ k6 v0 v1 v2 v3 v4 v5 v6 M
  else
    jb2 (jiv 3 M v0 (f_X3_sameType v0 (v1 + v2) ((v1 + (nI 6)) + v6) M)) fun x2 M1 =>
    if x2 = 0 then
      j_X3_fittingReplies_83 rec_ k6 v0 v1 v2 v3 v4 v5 v6 M1
    else
      jb2 (jiv 3 M1 v0 (f_X3_keeperWinsWith rec_ v0 (nI 0) v2 v6 v4 M1)) fun x4 M3 =>
      if x4 = 0 then
        j_X3_fittingReplies_83 rec_ k6 v0 v1 v2 v3 v4 v5 v6 M3
      else
        (jv (v5 ||| ((nI 1) <<< (v6 &&& 31)))).bind fun y5 =>
        j_X3_fittingReplies_83 rec_ k6 v0 v1 v2 v3 v4 y5 v6 M3
theorem t_X3_fittingReplies_37 {G : jG} {d : Nat} {D_ : Nat} {rec_ : Nat → Int32 → jM → jO Int32} (hrec_ : ∀ d2, D_ ≤ d2 → ∀ (u0 : Nat) (u1 : Int32) (M : jM) b2, rec_ u0 u1 M = some b2 → V G m_X3_keeperWins d2 0 [(0, .ref u0), (1, .int u1)] [] M (jQb cI b2)) (hD_ : 2 ≤ D_) (hd_ : D_ + 2 ≤ d) {k6 : Nat → Int32 → Int32 → Int32 → Int32 → Int32 → Int32 → jM → jO Int32} (hk6 : ∀ (w0 : Nat) (w1 : Int32) (w2 : Int32) (w3 : Int32) (w4 : Int32) (w5 : Int32) (w6 : Int32) (M : jM) (b : Int32 × jM), k6 w0 w1 w2 w3 w4 w5 w6 M = some b → V G m_X3_fittingReplies d 6 [(0, .ref w0), (1, .int w1), (2, .int w2), (3, .int w3), (4, .int w4), (5, .int w5), (6, .int w6)] [] M (jQb cI b)) {v0 : Nat} {v1 : Int32} {v2 : Int32} {v3 : Int32} {v4 : Int32} {v5 : Int32} {v6 : Int32} {s0 : Int32} {M : jM} {b : Int32 × jM} (h : j_X3_fittingReplies_37 rec_ k6 v0 v1 v2 v3 v4 v5 v6 s0 M = some b) : V G m_X3_fittingReplies d 37 [(0, .ref v0), (1, .int v1), (2, .int v2), (3, .int v3), (4, .int v4), (5, .int v5), (6, .int v6)] [.int s0] M (jQb cI b) := by
  unfold j_X3_fittingReplies_37 at h
  refine v_istore (ls2 := [(7, .int s0), (0, .ref v0), (1, .int v1), (2, .int v2), (3, .int v3), (4, .int v4), (5, .int v5), (6, .int v6)]) dX3_fittingReplies_37 (by decide) rfl ?_
  refine v_iload dX3_fittingReplies_39 0 rfl ?_
  refine x_if_eq (tgt := 83) dX3_fittingReplies_41 (by decide) h (fun h => ?_) (fun h => ?_)
  · exact V.pick [1, 2, 3, 4, 5, 6, 7] rfl (t_X3_fittingReplies_83 hrec_ hD_ hd_ hk6 h)
  · refine v_aload_n dX3_fittingReplies_44 rfl 1 rfl ?_
    refine v_iload_n dX3_fittingReplies_45 rfl 2 rfl ?_
    refine v_iload_n dX3_fittingReplies_46 rfl 3 rfl ?_
    refine v_iadd dX3_fittingReplies_47 ?_
    refine v_iload_n dX3_fittingReplies_48 rfl 2 rfl ?_
    refine v_bipush dX3_fittingReplies_49 bp_6 ?_
    refine v_iadd dX3_fittingReplies_51 ?_
    refine v_iload dX3_fittingReplies_52 7 rfl ?_
    refine v_iadd dX3_fittingReplies_54 ?_
    refine x_inv (cv := cI) (As := [.int (v1 + v2), .int ((v1 + (nI 6)) + v6)]) (rest := []) (ls2 := [(0, .ref v0), (1, .int (v1 + v2)), (2, .int ((v1 + (nI 6)) + v6))]) (ci := 3) (by omega) dX3_fittingReplies_55 ke_X3_sameType kv_X3_73 rfl rfl (by decide) (Nat.le_of_ble_eq_true rfl) rfl rfl rfl rfl h (fun _ hq => s_X3_sameType (by omega) hq) (fun x2 M1 h => ?_)
    refine x_if_eq (tgt := 83) dX3_fittingReplies_58 (by decide) h (fun h => ?_) (fun h => ?_)
    · exact V.pick [1, 2, 3, 4, 5, 6, 7] rfl (t_X3_fittingReplies_83 hrec_ hD_ hd_ hk6 h)
    · refine v_aload_n dX3_fittingReplies_61 rfl 1 rfl ?_
      refine v_iconst dX3_fittingReplies_62 ic_0 ?_
      refine v_iload_n dX3_fittingReplies_63 rfl 3 rfl ?_
      refine v_iload dX3_fittingReplies_64 7 rfl ?_
      refine v_iload dX3_fittingReplies_66 5 rfl ?_
      refine x_inv (cv := cI) (As := [.int (nI 0), .int v2, .int v6, .int v4]) (rest := []) (ls2 := [(0, .ref v0), (1, .int (nI 0)), (2, .int v2), (3, .int v6), (4, .int v4)]) (ci := 3) (by omega) dX3_fittingReplies_68 ke_X3_keeperWinsWith kv_X3_77 rfl rfl (by decide) (Nat.le_of_ble_eq_true rfl) rfl rfl rfl rfl h (fun _ hq => s_X3_keeperWinsWith hrec_ (by omega) (by omega) hq) (fun x4 M3 h => ?_)
      refine x_if_eq (tgt := 83) dX3_fittingReplies_71 (by decide) h (fun h => ?_) (fun h => ?_)
      · exact V.pick [1, 2, 3, 4, 5, 6, 7] rfl (t_X3_fittingReplies_83 hrec_ hD_ hd_ hk6 h)
      · refine v_iload dX3_fittingReplies_74 6 rfl ?_
        refine v_iconst dX3_fittingReplies_76 ic_1 ?_
        refine v_iload dX3_fittingReplies_77 7 rfl ?_
        refine v_ishl dX3_fittingReplies_79 ?_
        refine v_ior dX3_fittingReplies_80 ?_
        refine x_jvI h (fun y5 h => ?_)
        refine v_istore (ls2 := [(5, .int y5), (7, .int s0), (0, .ref v0), (1, .int v1), (2, .int v2), (3, .int v3), (4, .int v4), (6, .int v6)]) dX3_fittingReplies_81 (by decide) rfl ?_
        exact V.pick [2, 3, 4, 5, 6, 0, 7] rfl (t_X3_fittingReplies_83 hrec_ hD_ hd_ hk6 h)
def j_X3_fittingReplies_32 (rec_ : Nat → Int32 → jM → jO Int32) (k6 : Nat → Int32 → Int32 → Int32 → Int32 → Int32 → Int32 → jM → jO Int32) (v0 : Nat) (v1 : Int32) (v2 : Int32) (v3 : Int32) (v4 : Int32) (v5 : Int32) (v6 : Int32) (M : jM) : jO Int32 :=
  j_X3_fittingReplies_37 rec_ k6 v0 v1 v2 v3 v4 v5 v6 (nI 1) M
theorem t_X3_fittingReplies_32 {G : jG} {d : Nat} {D_ : Nat} {rec_ : Nat → Int32 → jM → jO Int32} (hrec_ : ∀ d2, D_ ≤ d2 → ∀ (u0 : Nat) (u1 : Int32) (M : jM) b2, rec_ u0 u1 M = some b2 → V G m_X3_keeperWins d2 0 [(0, .ref u0), (1, .int u1)] [] M (jQb cI b2)) (hD_ : 2 ≤ D_) (hd_ : D_ + 2 ≤ d) {k6 : Nat → Int32 → Int32 → Int32 → Int32 → Int32 → Int32 → jM → jO Int32} (hk6 : ∀ (w0 : Nat) (w1 : Int32) (w2 : Int32) (w3 : Int32) (w4 : Int32) (w5 : Int32) (w6 : Int32) (M : jM) (b : Int32 × jM), k6 w0 w1 w2 w3 w4 w5 w6 M = some b → V G m_X3_fittingReplies d 6 [(0, .ref w0), (1, .int w1), (2, .int w2), (3, .int w3), (4, .int w4), (5, .int w5), (6, .int w6)] [] M (jQb cI b)) {v0 : Nat} {v1 : Int32} {v2 : Int32} {v3 : Int32} {v4 : Int32} {v5 : Int32} {v6 : Int32} {M : jM} {b : Int32 × jM} (h : j_X3_fittingReplies_32 rec_ k6 v0 v1 v2 v3 v4 v5 v6 M = some b) : V G m_X3_fittingReplies d 32 [(0, .ref v0), (1, .int v1), (2, .int v2), (3, .int v3), (4, .int v4), (5, .int v5), (6, .int v6)] [] M (jQb cI b) := by
  unfold j_X3_fittingReplies_32 at h
  refine v_iconst dX3_fittingReplies_32 ic_1 ?_
  refine v_goto (tgt := 37) dX3_fittingReplies_33 (by decide) ?_
  exact t_X3_fittingReplies_37 hrec_ hD_ hd_ hk6 h
def b_X3_fittingReplies_6 (rec_ : Nat → Int32 → jM → jO Int32)  (k6 : Nat → Int32 → Int32 → Int32 → Int32 → Int32 → Int32 → jM → jO Int32) (v0 : Nat) (v1 : Int32) (v2 : Int32) (v3 : Int32) (v4 : Int32) (v5 : Int32) (v6 : Int32) (M : jM) : jO Int32 :=
  (gR 3 M v0 1).bind fun r1 =>
  jb2 (jiv 8 M r1 (f_X9_size r1 M)) fun x3 M2 =>
  if x3 ≤ v6 then
    rt v5 M2
  else
    if v5 = 0 then
      j_X3_fittingReplies_32 rec_ k6 v0 v1 v2 v3 v4 v5 v6 M2
    else
      if ((v3 >>> (v6 &&& 31)) &&& (nI 1)) = 0 then
        j_X3_fittingReplies_32 rec_ k6 v0 v1 v2 v3 v4 v5 v6 M2
      else
        j_X3_fittingReplies_37 rec_ k6 v0 v1 v2 v3 v4 v5 v6 (nI 0) M2
def l_X3_fittingReplies_6 (rec_ : Nat → Int32 → jM → jO Int32)  : Nat → Nat → Int32 → Int32 → Int32 → Int32 → Int32 → Int32 → jM → jO Int32
  | 0 => fun _ _ _ _ _ _ _ _ => none
  | n + 1 => b_X3_fittingReplies_6 rec_ (l_X3_fittingReplies_6 rec_ n)
theorem tb_X3_fittingReplies_6 {G : jG} {d : Nat} {D_ : Nat} {rec_ : Nat → Int32 → jM → jO Int32} (hrec_ : ∀ d2, D_ ≤ d2 → ∀ (u0 : Nat) (u1 : Int32) (M : jM) b2, rec_ u0 u1 M = some b2 → V G m_X3_keeperWins d2 0 [(0, .ref u0), (1, .int u1)] [] M (jQb cI b2)) (hD_ : 2 ≤ D_) (hd_ : D_ + 2 ≤ d)  {k6 : Nat → Int32 → Int32 → Int32 → Int32 → Int32 → Int32 → jM → jO Int32} (hk6 : ∀ (w0 : Nat) (w1 : Int32) (w2 : Int32) (w3 : Int32) (w4 : Int32) (w5 : Int32) (w6 : Int32) (M : jM) (b : Int32 × jM), k6 w0 w1 w2 w3 w4 w5 w6 M = some b → V G m_X3_fittingReplies d 6 [(0, .ref w0), (1, .int w1), (2, .int w2), (3, .int w3), (4, .int w4), (5, .int w5), (6, .int w6)] [] M (jQb cI b)) {v0 : Nat} {v1 : Int32} {v2 : Int32} {v3 : Int32} {v4 : Int32} {v5 : Int32} {v6 : Int32} {M : jM} {b : Int32 × jM} (h : b_X3_fittingReplies_6 rec_ k6 v0 v1 v2 v3 v4 v5 v6 M = some b) : V G m_X3_fittingReplies d 6 [(0, .ref v0), (1, .int v1), (2, .int v2), (3, .int v3), (4, .int v4), (5, .int v5), (6, .int v6)] [] M (jQb cI b) := by
  unfold b_X3_fittingReplies_6 at h
  refine v_iload dX3_fittingReplies_6 6 rfl ?_
  refine v_aload_n dX3_fittingReplies_8 rfl 0 rfl ?_
  refine x_gR dX3_fittingReplies_9 kf_X3_18 rfl h (fun r1 h => ?_)
  refine x_inv (cv := cI) (As := []) (rest := [.int v6]) (ls2 := [(0, .ref r1)]) (ci := 8) (by omega) dX3_fittingReplies_12 ke_X9_size kv_X3_65 rfl rfl (by decide) (Nat.le_of_ble_eq_true rfl) rfl rfl rfl rfl h (fun _ hq => s_X9_size (by omega) hq) (fun x3 M2 h => ?_)
  refine x_ic_ge (tgt := 89) dX3_fittingReplies_15 (by decide) h (fun h => ?_) (fun h => ?_)
  · refine v_iload dX3_fittingReplies_89 5 rfl ?_
    exact x_iret dX3_fittingReplies_91 rfl h
  · refine v_iload dX3_fittingReplies_18 5 rfl ?_
    refine x_if_eq (tgt := 32) dX3_fittingReplies_20 (by decide) h (fun h => ?_) (fun h => ?_)
    · exact t_X3_fittingReplies_32 hrec_ hD_ hd_ hk6 h
    · refine v_iload_n dX3_fittingReplies_23 rfl 3 rfl ?_
      refine v_iload dX3_fittingReplies_24 6 rfl ?_
      refine v_ishr dX3_fittingReplies_26 ?_
      refine v_iconst dX3_fittingReplies_27 ic_1 ?_
      refine v_iand dX3_fittingReplies_28 ?_
      refine x_if_ne (tgt := 36) dX3_fittingReplies_29 (by decide) h (fun h => ?_) (fun h => ?_)
      · exact t_X3_fittingReplies_32 hrec_ hD_ hd_ hk6 h
      · refine v_iconst dX3_fittingReplies_36 ic_0 ?_
        exact t_X3_fittingReplies_37 hrec_ hD_ hd_ hk6 h
theorem t_X3_fittingReplies_6 {G : jG} {d : Nat} {D_ : Nat} {rec_ : Nat → Int32 → jM → jO Int32} (hrec_ : ∀ d2, D_ ≤ d2 → ∀ (u0 : Nat) (u1 : Int32) (M : jM) b2, rec_ u0 u1 M = some b2 → V G m_X3_keeperWins d2 0 [(0, .ref u0), (1, .int u1)] [] M (jQb cI b2)) (hD_ : 2 ≤ D_) (hd_ : D_ + 2 ≤ d)  : ∀ (n : Nat) (v0 : Nat) (v1 : Int32) (v2 : Int32) (v3 : Int32) (v4 : Int32) (v5 : Int32) (v6 : Int32) (M : jM) (b : Int32 × jM), l_X3_fittingReplies_6 rec_ n v0 v1 v2 v3 v4 v5 v6 M = some b → V G m_X3_fittingReplies d 6 [(0, .ref v0), (1, .int v1), (2, .int v2), (3, .int v3), (4, .int v4), (5, .int v5), (6, .int v6)] [] M (jQb cI b) := by
  intro n
  induction n with
  | zero => intro v0 v1 v2 v3 v4 v5 v6 M b h; exact nomatch (show (none : jO Int32) = some b from h)
  | succ n ih => intro v0 v1 v2 v3 v4 v5 v6 M b h; exact tb_X3_fittingReplies_6 hrec_ hD_ hd_  ih h
def f_X3_fittingReplies (rec_ : Nat → Int32 → jM → jO Int32) (v0 : Nat) (v1 : Int32) (v2 : Int32) (v3 : Int32) (v4 : Int32) (M : jM) : jO Int32 :=
  l_X3_fittingReplies_6 rec_ jF0 v0 v1 v2 v3 v4 (nI 0) (nI 0) M
theorem s_X3_fittingReplies {G : jG} {d : Nat} {D_ : Nat} {rec_ : Nat → Int32 → jM → jO Int32} (hrec_ : ∀ d2, D_ ≤ d2 → ∀ (u0 : Nat) (u1 : Int32) (M : jM) b2, rec_ u0 u1 M = some b2 → V G m_X3_keeperWins d2 0 [(0, .ref u0), (1, .int u1)] [] M (jQb cI b2)) (hD_ : 2 ≤ D_) (hd_ : D_ + 2 ≤ d) {v0 : Nat} {v1 : Int32} {v2 : Int32} {v3 : Int32} {v4 : Int32} {M : jM} {b : Int32 × jM} (h : f_X3_fittingReplies rec_ v0 v1 v2 v3 v4 M = some b) : V G m_X3_fittingReplies d 0 [(0, .ref v0), (1, .int v1), (2, .int v2), (3, .int v3), (4, .int v4)] [] M (jQb cI b) := by
  unfold f_X3_fittingReplies at h
  refine v_iconst dX3_fittingReplies_0 ic_0 ?_
  refine v_istore (ls2 := [(5, .int (nI 0)), (0, .ref v0), (1, .int v1), (2, .int v2), (3, .int v3), (4, .int v4)]) dX3_fittingReplies_1 (by decide) rfl ?_
  refine v_iconst dX3_fittingReplies_3 ic_0 ?_
  refine v_istore (ls2 := [(6, .int (nI 0)), (5, .int (nI 0)), (0, .ref v0), (1, .int v1), (2, .int v2), (3, .int v3), (4, .int v4)]) dX3_fittingReplies_4 (by decide) rfl ?_
  exact V.pick [2, 3, 4, 5, 6, 1, 0] rfl (t_X3_fittingReplies_6 hrec_ hD_ hd_ _ _ _ _ _ _ _ _ _ _ h)
def b_X3_keeperWins_41 (rec_ : Nat → Int32 → jM → jO Int32)  (k41 : Nat → Int32 → Int32 → Int32 → Int32 → jM → jO Int32) (v0 : Nat) (v1 : Int32) (v2 : Int32) (v3 : Int32) (v4 : Int32) (M : jM) : jO Int32 :=
  (gR 3 M v0 0).bind fun r1 =>
  jb2 (jiv 8 M r1 (f_X9_size r1 M)) fun x3 M2 =>
  if x3 ≤ v4 then
    (gR 3 M2 v0 1).bind fun r4 =>
    jb2 (jiv 8 M2 r4 (f_X9_size r4 M2)) fun x6 M5 =>
    if v3 = (((nI 1) <<< (x6 &&& 31)) - (nI 1)) then
      rZ (nI 1) M5
    else
      rZ (nI 0) M5
  else
    jb2 (jiv 3 M2 v0 (f_X3_fittingReplies rec_ v0 v2 v4 v3 v1 M2)) fun x8 M7 =>
    if x8 = 0 then
      rZ (nI 0) M7
    else
      (jv (v3 ||| x8)).bind fun y9 =>
      k41 v0 v1 v2 y9 (v4 + (nI 1)) M7
def l_X3_keeperWins_41 (rec_ : Nat → Int32 → jM → jO Int32)  : Nat → Nat → Int32 → Int32 → Int32 → Int32 → jM → jO Int32
  | 0 => fun _ _ _ _ _ _ => none
  | n + 1 => b_X3_keeperWins_41 rec_ (l_X3_keeperWins_41 rec_ n)
theorem tb_X3_keeperWins_41 {G : jG} {d : Nat} {D_ : Nat} {rec_ : Nat → Int32 → jM → jO Int32} (hrec_ : ∀ d2, D_ ≤ d2 → ∀ (u0 : Nat) (u1 : Int32) (M : jM) b2, rec_ u0 u1 M = some b2 → V G m_X3_keeperWins d2 0 [(0, .ref u0), (1, .int u1)] [] M (jQb cI b2)) (hD_ : 2 ≤ D_) (hd_ : D_ + 3 ≤ d)  {k41 : Nat → Int32 → Int32 → Int32 → Int32 → jM → jO Int32} (hk41 : ∀ (w0 : Nat) (w1 : Int32) (w2 : Int32) (w3 : Int32) (w4 : Int32) (M : jM) (b : Int32 × jM), k41 w0 w1 w2 w3 w4 M = some b → V G m_X3_keeperWins d 41 [(0, .ref w0), (1, .int w1), (2, .int w2), (3, .int w3), (4, .int w4)] [] M (jQb cI b)) {v0 : Nat} {v1 : Int32} {v2 : Int32} {v3 : Int32} {v4 : Int32} {M : jM} {b : Int32 × jM} (h : b_X3_keeperWins_41 rec_ k41 v0 v1 v2 v3 v4 M = some b) : V G m_X3_keeperWins d 41 [(0, .ref v0), (1, .int v1), (2, .int v2), (3, .int v3), (4, .int v4)] [] M (jQb cI b) := by
  unfold b_X3_keeperWins_41 at h
  refine v_iload dX3_keeperWins_41 4 rfl ?_
  refine v_aload_n dX3_keeperWins_43 rfl 0 rfl ?_
  refine x_gR dX3_keeperWins_44 kf_X3_12 rfl h (fun r1 h => ?_)
  refine x_inv (cv := cI) (As := []) (rest := [.int v4]) (ls2 := [(0, .ref r1)]) (ci := 8) (by omega) dX3_keeperWins_47 ke_X9_size kv_X3_65 rfl rfl (by decide) (Nat.le_of_ble_eq_true rfl) rfl rfl rfl rfl h (fun _ hq => s_X9_size (by omega) hq) (fun x3 M2 h => ?_)
  refine x_ic_ge (tgt := 82) dX3_keeperWins_50 (by decide) h (fun h => ?_) (fun h => ?_)
  · refine v_iload_n dX3_keeperWins_82 rfl 3 rfl ?_
    refine v_iconst dX3_keeperWins_83 ic_1 ?_
    refine v_aload_n dX3_keeperWins_84 rfl 0 rfl ?_
    refine x_gR dX3_keeperWins_85 kf_X3_18 rfl h (fun r4 h => ?_)
    refine x_inv (cv := cI) (As := []) (rest := [.int (nI 1), .int v3]) (ls2 := [(0, .ref r4)]) (ci := 8) (by omega) dX3_keeperWins_88 ke_X9_size kv_X3_65 rfl rfl (by decide) (Nat.le_of_ble_eq_true rfl) rfl rfl rfl rfl h (fun _ hq => s_X9_size (by omega) hq) (fun x6 M5 h => ?_)
    refine v_ishl dX3_keeperWins_91 ?_
    refine v_iconst dX3_keeperWins_92 ic_1 ?_
    refine v_isub dX3_keeperWins_93 ?_
    refine x_ic_ne (tgt := 101) dX3_keeperWins_94 (by decide) h (fun h => ?_) (fun h => ?_)
    · refine v_iconst dX3_keeperWins_97 ic_1 ?_
      refine v_goto (tgt := 102) dX3_keeperWins_98 (by decide) ?_
      exact x_zret dX3_keeperWins_102 rfl h
    · refine v_iconst dX3_keeperWins_101 ic_0 ?_
      exact x_zret dX3_keeperWins_102 rfl h
  · refine v_aload_n dX3_keeperWins_53 rfl 0 rfl ?_
    refine v_iload_n dX3_keeperWins_54 rfl 2 rfl ?_
    refine v_iload dX3_keeperWins_55 4 rfl ?_
    refine v_iload_n dX3_keeperWins_57 rfl 3 rfl ?_
    refine v_iload_n dX3_keeperWins_58 rfl 1 rfl ?_
    refine x_inv (cv := cI) (As := [.int v2, .int v4, .int v3, .int v1]) (rest := []) (ls2 := [(0, .ref v0), (1, .int v2), (2, .int v4), (3, .int v3), (4, .int v1)]) (ci := 3) (by omega) dX3_keeperWins_59 ke_X3_fittingReplies kv_X3_69 rfl rfl (by decide) (Nat.le_of_ble_eq_true rfl) rfl rfl rfl rfl h (fun _ hq => s_X3_fittingReplies hrec_ (by omega) (by omega) hq) (fun x8 M7 h => ?_)
    refine v_istore (ls2 := [(5, .int x8), (0, .ref v0), (1, .int v1), (2, .int v2), (3, .int v3), (4, .int v4)]) dX3_keeperWins_62 (by decide) rfl ?_
    refine v_iload dX3_keeperWins_64 0 rfl ?_
    refine x_if_ne (tgt := 71) dX3_keeperWins_66 (by decide) h (fun h => ?_) (fun h => ?_)
    · refine v_iconst dX3_keeperWins_69 ic_0 ?_
      exact x_zret dX3_keeperWins_70 rfl h
    · refine v_iload_n dX3_keeperWins_71 rfl 4 rfl ?_
      refine v_iload dX3_keeperWins_72 0 rfl ?_
      refine v_ior dX3_keeperWins_74 ?_
      refine x_jvI h (fun y9 h => ?_)
      refine v_istore_n (ls2 := [(3, .int y9), (5, .int x8), (0, .ref v0), (1, .int v1), (2, .int v2), (4, .int v4)]) dX3_keeperWins_75 rfl (by decide) rfl ?_
      refine v_iincC (ls2 := [(4, .int (v4 + (nI 1))), (3, .int y9), (5, .int x8), (0, .ref v0), (1, .int v1), (2, .int v2)]) dX3_keeperWins_76 ic_1 5 rfl (by decide) rfl ?_
      refine v_goto (tgt := 41) dX3_keeperWins_79 (by decide) ?_
      exact V.pick [3, 4, 5, 1, 0] rfl (hk41 _ _ _ _ _ _ _ h)
theorem t_X3_keeperWins_41 {G : jG} {d : Nat} {D_ : Nat} {rec_ : Nat → Int32 → jM → jO Int32} (hrec_ : ∀ d2, D_ ≤ d2 → ∀ (u0 : Nat) (u1 : Int32) (M : jM) b2, rec_ u0 u1 M = some b2 → V G m_X3_keeperWins d2 0 [(0, .ref u0), (1, .int u1)] [] M (jQb cI b2)) (hD_ : 2 ≤ D_) (hd_ : D_ + 3 ≤ d)  : ∀ (n : Nat) (v0 : Nat) (v1 : Int32) (v2 : Int32) (v3 : Int32) (v4 : Int32) (M : jM) (b : Int32 × jM), l_X3_keeperWins_41 rec_ n v0 v1 v2 v3 v4 M = some b → V G m_X3_keeperWins d 41 [(0, .ref v0), (1, .int v1), (2, .int v2), (3, .int v3), (4, .int v4)] [] M (jQb cI b) := by
  intro n
  induction n with
  | zero => intro v0 v1 v2 v3 v4 M b h; exact nomatch (show (none : jO Int32) = some b from h)
  | succ n ih => intro v0 v1 v2 v3 v4 M b h; exact tb_X3_keeperWins_41 hrec_ hD_ hd_  ih h
def g_X3_keeperWins (rec_ : Nat → Int32 → jM → jO Int32) (v0 : Nat) (v1 : Int32) (M : jM) : jO Int32 :=
  if v1 ≤ 0 then
    rZ (nI 1) M
  else
    (gI 3 M v0 5).bind fun x1 =>
    if x1 < 0 then
      rZ (nI 1) M
    else
      (gI 3 M v0 5).bind fun x2 =>
      if x2 < (nI 3) then
        (gI 3 M v0 5).bind fun x3 =>
        (jv ((x3 * (nI 2)) * (nI 6))).bind fun y4 =>
        jb2 (jiv 3 M v0 (f_X3_fillTypes v0 y4 M)) fun _ M5 =>
        l_X3_keeperWins_41 rec_ jF0 v0 v1 y4 (nI 0) (nI 0) M5
      else
        rZ (nI 1) M
theorem sg_X3_keeperWins {G : jG} {d : Nat} {D_ : Nat} {rec_ : Nat → Int32 → jM → jO Int32} (hrec_ : ∀ d2, D_ ≤ d2 → ∀ (u0 : Nat) (u1 : Int32) (M : jM) b2, rec_ u0 u1 M = some b2 → V G m_X3_keeperWins d2 0 [(0, .ref u0), (1, .int u1)] [] M (jQb cI b2)) (hD_ : 2 ≤ D_) (hd_ : D_ + 3 ≤ d) {v0 : Nat} {v1 : Int32} {M : jM} {b : Int32 × jM} (h : g_X3_keeperWins rec_ v0 v1 M = some b) : V G m_X3_keeperWins d 0 [(0, .ref v0), (1, .int v1)] [] M (jQb cI b) := by
  unfold g_X3_keeperWins at h
  refine v_iload_n dX3_keeperWins_0 rfl 1 rfl ?_
  refine x_if_le (tgt := 19) dX3_keeperWins_1 (by decide) h (fun h => ?_) (fun h => ?_)
  · refine v_iconst dX3_keeperWins_19 ic_1 ?_
    exact x_zret dX3_keeperWins_20 rfl h
  · refine v_aload_n dX3_keeperWins_4 rfl 0 rfl ?_
    refine x_gI dX3_keeperWins_5 kf_X3_31 rfl h (fun x1 h => ?_)
    refine x_if_lt (tgt := 19) dX3_keeperWins_8 (by decide) h (fun h => ?_) (fun h => ?_)
    · refine v_iconst dX3_keeperWins_19 ic_1 ?_
      exact x_zret dX3_keeperWins_20 rfl h
    · refine v_aload_n dX3_keeperWins_11 rfl 0 rfl ?_
      refine x_gI dX3_keeperWins_12 kf_X3_31 rfl h (fun x2 h => ?_)
      refine v_iconst dX3_keeperWins_15 ic_3 ?_
      refine x_ic_lt (tgt := 21) dX3_keeperWins_16 (by decide) h (fun h => ?_) (fun h => ?_)
      · refine v_aload_n dX3_keeperWins_21 rfl 0 rfl ?_
        refine x_gI dX3_keeperWins_22 kf_X3_31 rfl h (fun x3 h => ?_)
        refine v_iconst dX3_keeperWins_25 ic_2 ?_
        refine v_imul dX3_keeperWins_26 ?_
        refine v_bipush dX3_keeperWins_27 bp_6 ?_
        refine v_imul dX3_keeperWins_29 ?_
        refine x_jvI h (fun y4 h => ?_)
        refine v_istore_n (ls2 := [(2, .int y4), (0, .ref v0), (1, .int v1)]) dX3_keeperWins_30 rfl (by decide) rfl ?_
        refine v_aload_n dX3_keeperWins_31 rfl 1 rfl ?_
        refine v_iload_n dX3_keeperWins_32 rfl 0 rfl ?_
        refine x_inv (cv := cU) (As := [.int y4]) (rest := []) (ls2 := [(0, .ref v0), (1, .int y4)]) (ci := 3) (by omega) dX3_keeperWins_33 ke_X3_fillTypes kv_X3_61 rfl rfl (by decide) (Nat.le_of_ble_eq_true rfl) rfl rfl rfl rfl h (fun _ hq => s_X3_fillTypes (by omega) hq) (fun _ M5 h => ?_)
        refine v_iconst dX3_keeperWins_36 ic_0 ?_
        refine v_istore_n (ls2 := [(3, .int (nI 0)), (2, .int y4), (0, .ref v0), (1, .int v1)]) dX3_keeperWins_37 rfl (by decide) rfl ?_
        refine v_iconst dX3_keeperWins_38 ic_0 ?_
        refine v_istore (ls2 := [(4, .int (nI 0)), (3, .int (nI 0)), (2, .int y4), (0, .ref v0), (1, .int v1)]) dX3_keeperWins_39 (by decide) rfl ?_
        exact V.pick [3, 4, 2, 1, 0] rfl (t_X3_keeperWins_41 hrec_ hD_ hd_ _ _ _ _ _ _ _ _ h)
      · refine v_iconst dX3_keeperWins_19 ic_1 ?_
        exact x_zret dX3_keeperWins_20 rfl h
def f_X3_keeperWins : Nat → Nat → Int32 → jM → jO Int32
  | 0 => fun _ _ _ => none
  | n + 1 => g_X3_keeperWins (f_X3_keeperWins n)
theorem s_X3_keeperWins {G : jG} : ∀ (n d : Nat), 2 + 3 * n ≤ d → ∀ (v0 : Nat) (v1 : Int32) (M : jM) (b : Int32 × jM), f_X3_keeperWins n v0 v1 M = some b → V G m_X3_keeperWins d 0 [(0, .ref v0), (1, .int v1)] [] M (jQb cI b) := by
  intro n
  induction n with
  | zero => intro d hd v0 v1 M b h; exact nomatch (show (none : jO Int32) = some b from h)
  | succ n ih => intro d hd v0 v1 M b h; exact sg_X3_keeperWins (D_ := 2 + 3 * n) (fun d2 hd2 => ih d2 hd2) (by omega) (by omega) h
def j_X3_leastReply_44 (k3 : Nat → Int32 → Int32 → Int32 → Int32 → jM → jO Int32) (v0 : Nat) (v1 : Int32) (v2 : Int32) (v3 : Int32) (v4 : Int32) (M : jM) : jO Int32 :=
  k3 v0 v1 v2 v3 (v4 + (nI 1)) M
theorem t_X3_leastReply_44 {G : jG} {d : Nat} (hd_ : 124 ≤ d) {k3 : Nat → Int32 → Int32 → Int32 → Int32 → jM → jO Int32} (hk3 : ∀ (w0 : Nat) (w1 : Int32) (w2 : Int32) (w3 : Int32) (w4 : Int32) (M : jM) (b : Int32 × jM), k3 w0 w1 w2 w3 w4 M = some b → V G m_X3_leastReply d 3 [(0, .ref w0), (1, .int w1), (2, .int w2), (3, .int w3), (4, .int w4)] [] M (jQb cI b)) {v0 : Nat} {v1 : Int32} {v2 : Int32} {v3 : Int32} {v4 : Int32} {M : jM} {b : Int32 × jM} (h : j_X3_leastReply_44 k3 v0 v1 v2 v3 v4 M = some b) : V G m_X3_leastReply d 44 [(0, .ref v0), (1, .int v1), (2, .int v2), (3, .int v3), (4, .int v4)] [] M (jQb cI b) := by
  unfold j_X3_leastReply_44 at h
  refine v_iincC (ls2 := [(4, .int (v4 + (nI 1))), (0, .ref v0), (1, .int v1), (2, .int v2), (3, .int v3)]) dX3_leastReply_44 ic_1 4 rfl (by decide) rfl ?_
  refine v_goto (tgt := 3) dX3_leastReply_47 (by decide) ?_
  exact V.pick [1, 2, 3, 4, 0] rfl (hk3 _ _ _ _ _ _ _ h)
def b_X3_leastReply_3  (k3 : Nat → Int32 → Int32 → Int32 → Int32 → jM → jO Int32) (v0 : Nat) (v1 : Int32) (v2 : Int32) (v3 : Int32) (v4 : Int32) (M : jM) : jO Int32 :=
  jb2 (jiv 3 M v0 (f_X3_worldOn v0 ((nI 1) - v1) M)) fun r2 M1 =>
  jb2 (jiv 8 M1 r2 (f_X9_size r2 M1)) fun x4 M3 =>
  if x4 ≤ v4 then
    rt (-9 : Int32) M3
  else
    jb2 (jiv 3 M3 v0 (f_X3_staysAlike v0 v1 v2 v4 M3)) fun x6 M5 =>
    if x6 = 0 then
      j_X3_leastReply_44 k3 v0 v1 v2 v3 v4 M5
    else
      jb2 (jiv 3 M5 v0 (f_X3_keeperWinsWith (f_X3_keeperWins jR0) v0 v1 v2 v4 v3 M5)) fun x8 M7 =>
      if x8 = 0 then
        j_X3_leastReply_44 k3 v0 v1 v2 v3 v4 M7
      else
        rt v4 M7
def l_X3_leastReply_3  : Nat → Nat → Int32 → Int32 → Int32 → Int32 → jM → jO Int32
  | 0 => fun _ _ _ _ _ _ => none
  | n + 1 => b_X3_leastReply_3  (l_X3_leastReply_3  n)
theorem tb_X3_leastReply_3 {G : jG} {d : Nat} (hd_ : 124 ≤ d)  {k3 : Nat → Int32 → Int32 → Int32 → Int32 → jM → jO Int32} (hk3 : ∀ (w0 : Nat) (w1 : Int32) (w2 : Int32) (w3 : Int32) (w4 : Int32) (M : jM) (b : Int32 × jM), k3 w0 w1 w2 w3 w4 M = some b → V G m_X3_leastReply d 3 [(0, .ref w0), (1, .int w1), (2, .int w2), (3, .int w3), (4, .int w4)] [] M (jQb cI b)) {v0 : Nat} {v1 : Int32} {v2 : Int32} {v3 : Int32} {v4 : Int32} {M : jM} {b : Int32 × jM} (h : b_X3_leastReply_3  k3 v0 v1 v2 v3 v4 M = some b) : V G m_X3_leastReply d 3 [(0, .ref v0), (1, .int v1), (2, .int v2), (3, .int v3), (4, .int v4)] [] M (jQb cI b) := by
  unfold b_X3_leastReply_3 at h
  refine v_iload dX3_leastReply_3 4 rfl ?_
  refine v_aload_n dX3_leastReply_5 rfl 0 rfl ?_
  refine v_iconst dX3_leastReply_6 ic_1 ?_
  refine v_iload_n dX3_leastReply_7 rfl 1 rfl ?_
  refine v_isub dX3_leastReply_8 ?_
  refine x_inv (cv := cR) (As := [.int ((nI 1) - v1)]) (rest := [.int v4]) (ls2 := [(0, .ref v0), (1, .int ((nI 1) - v1))]) (ci := 3) (by omega) dX3_leastReply_9 ke_X3_worldOn kv_X3_92 rfl rfl (by decide) (Nat.le_of_ble_eq_true rfl) rfl rfl rfl rfl h (fun _ hq => s_X3_worldOn (by omega) hq) (fun r2 M1 h => ?_)
  refine x_inv (cv := cI) (As := []) (rest := [.int v4]) (ls2 := [(0, .ref r2)]) (ci := 8) (by omega) dX3_leastReply_12 ke_X9_size kv_X3_65 rfl rfl (by decide) (Nat.le_of_ble_eq_true rfl) rfl rfl rfl rfl h (fun _ hq => s_X9_size (by omega) hq) (fun x4 M3 h => ?_)
  refine x_ic_ge (tgt := 50) dX3_leastReply_15 (by decide) h (fun h => ?_) (fun h => ?_)
  · refine v_bipush dX3_leastReply_50 bp_m9 ?_
    exact x_iret dX3_leastReply_52 rfl h
  · refine v_aload_n dX3_leastReply_18 rfl 0 rfl ?_
    refine v_iload_n dX3_leastReply_19 rfl 1 rfl ?_
    refine v_iload_n dX3_leastReply_20 rfl 2 rfl ?_
    refine v_iload dX3_leastReply_21 4 rfl ?_
    refine x_inv (cv := cI) (As := [.int v1, .int v2, .int v4]) (rest := []) (ls2 := [(0, .ref v0), (1, .int v1), (2, .int v2), (3, .int v4)]) (ci := 3) (by omega) dX3_leastReply_23 ke_X3_staysAlike kv_X3_96 rfl rfl (by decide) (Nat.le_of_ble_eq_true rfl) rfl rfl rfl rfl h (fun _ hq => s_X3_staysAlike (by omega) hq) (fun x6 M5 h => ?_)
    refine x_if_eq (tgt := 44) dX3_leastReply_26 (by decide) h (fun h => ?_) (fun h => ?_)
    · exact t_X3_leastReply_44 hd_ hk3 h
    · refine v_aload_n dX3_leastReply_29 rfl 0 rfl ?_
      refine v_iload_n dX3_leastReply_30 rfl 1 rfl ?_
      refine v_iload_n dX3_leastReply_31 rfl 2 rfl ?_
      refine v_iload dX3_leastReply_32 4 rfl ?_
      refine v_iload_n dX3_leastReply_34 rfl 3 rfl ?_
      refine x_inv (cv := cI) (As := [.int v1, .int v2, .int v4, .int v3]) (rest := []) (ls2 := [(0, .ref v0), (1, .int v1), (2, .int v2), (3, .int v4), (4, .int v3)]) (ci := 3) (by omega) dX3_leastReply_35 ke_X3_keeperWinsWith kv_X3_77 rfl rfl (by decide) (Nat.le_of_ble_eq_true rfl) rfl rfl rfl rfl h (fun _ hq => s_X3_keeperWinsWith (D_ := 122) (fun d2 hd2 => s_X3_keeperWins _ _ (by have := jR0_eq; omega)) (by omega) (by omega) hq) (fun x8 M7 h => ?_)
      refine x_if_eq (tgt := 44) dX3_leastReply_38 (by decide) h (fun h => ?_) (fun h => ?_)
      · exact t_X3_leastReply_44 hd_ hk3 h
      · refine v_iload dX3_leastReply_41 4 rfl ?_
        exact x_iret dX3_leastReply_43 rfl h
theorem t_X3_leastReply_3 {G : jG} {d : Nat} (hd_ : 124 ≤ d)  : ∀ (n : Nat) (v0 : Nat) (v1 : Int32) (v2 : Int32) (v3 : Int32) (v4 : Int32) (M : jM) (b : Int32 × jM), l_X3_leastReply_3  n v0 v1 v2 v3 v4 M = some b → V G m_X3_leastReply d 3 [(0, .ref v0), (1, .int v1), (2, .int v2), (3, .int v3), (4, .int v4)] [] M (jQb cI b) := by
  intro n
  induction n with
  | zero => intro v0 v1 v2 v3 v4 M b h; exact nomatch (show (none : jO Int32) = some b from h)
  | succ n ih => intro v0 v1 v2 v3 v4 M b h; exact tb_X3_leastReply_3 hd_  ih h
def f_X3_leastReply (v0 : Nat) (v1 : Int32) (v2 : Int32) (v3 : Int32) (M : jM) : jO Int32 :=
  l_X3_leastReply_3 jF0 v0 v1 v2 v3 (nI 0) M
theorem s_X3_leastReply {G : jG} {d : Nat} (hd_ : 124 ≤ d) {v0 : Nat} {v1 : Int32} {v2 : Int32} {v3 : Int32} {M : jM} {b : Int32 × jM} (h : f_X3_leastReply  v0 v1 v2 v3 M = some b) : V G m_X3_leastReply d 0 [(0, .ref v0), (1, .int v1), (2, .int v2), (3, .int v3)] [] M (jQb cI b) := by
  unfold f_X3_leastReply at h
  refine v_iconst dX3_leastReply_0 ic_0 ?_
  refine v_istore (ls2 := [(4, .int (nI 0)), (0, .ref v0), (1, .int v1), (2, .int v2), (3, .int v3)]) dX3_leastReply_1 (by decide) rfl ?_
  exact V.pick [1, 2, 3, 4, 0] rfl (t_X3_leastReply_3 hd_ _ _ _ _ _ _ _ _ h)
def b_X3_firstPick_36  (k36 : Nat → Int32 → Int32 → Int32 → jM → jO Int32) (v0 : Nat) (v1 : Int32) (v2 : Int32) (v3 : Int32) (M : jM) : jO Int32 :=
  jb2 (jiv 3 M v0 (f_X3_worldOn v0 ((nI 1) - v1) M)) fun r2 M1 =>
  jb2 (jiv 8 M1 r2 (f_X9_size r2 M1)) fun x4 M3 =>
  if x4 ≤ v3 then
    rt (-9 : Int32) M3
  else
    jb2 (jiv 3 M3 v0 (f_X3_leastReply v0 ((nI 1) - v1) v3 v2 M3)) fun x6 M5 =>
    if x6 = (-9 : Int32) then
      rt ((nI 10) + v3) M5
    else
      k36 v0 v1 v2 (v3 + (nI 1)) M5
def l_X3_firstPick_36  : Nat → Nat → Int32 → Int32 → Int32 → jM → jO Int32
  | 0 => fun _ _ _ _ _ => none
  | n + 1 => b_X3_firstPick_36  (l_X3_firstPick_36  n)
theorem tb_X3_firstPick_36 {G : jG} {d : Nat} (hd_ : 125 ≤ d)  {k36 : Nat → Int32 → Int32 → Int32 → jM → jO Int32} (hk36 : ∀ (w0 : Nat) (w1 : Int32) (w2 : Int32) (w3 : Int32) (M : jM) (b : Int32 × jM), k36 w0 w1 w2 w3 M = some b → V G m_X3_firstPick d 36 [(0, .ref w0), (1, .int w1), (2, .int w2), (3, .int w3)] [] M (jQb cI b)) {v0 : Nat} {v1 : Int32} {v2 : Int32} {v3 : Int32} {M : jM} {b : Int32 × jM} (h : b_X3_firstPick_36  k36 v0 v1 v2 v3 M = some b) : V G m_X3_firstPick d 36 [(0, .ref v0), (1, .int v1), (2, .int v2), (3, .int v3)] [] M (jQb cI b) := by
  unfold b_X3_firstPick_36 at h
  refine v_iload_n dX3_firstPick_36 rfl 3 rfl ?_
  refine v_aload_n dX3_firstPick_37 rfl 0 rfl ?_
  refine v_iconst dX3_firstPick_38 ic_1 ?_
  refine v_iload_n dX3_firstPick_39 rfl 1 rfl ?_
  refine v_isub dX3_firstPick_40 ?_
  refine x_inv (cv := cR) (As := [.int ((nI 1) - v1)]) (rest := [.int v3]) (ls2 := [(0, .ref v0), (1, .int ((nI 1) - v1))]) (ci := 3) (by omega) dX3_firstPick_41 ke_X3_worldOn kv_X3_92 rfl rfl (by decide) (Nat.le_of_ble_eq_true rfl) rfl rfl rfl rfl h (fun _ hq => s_X3_worldOn (by omega) hq) (fun r2 M1 h => ?_)
  refine x_inv (cv := cI) (As := []) (rest := [.int v3]) (ls2 := [(0, .ref r2)]) (ci := 8) (by omega) dX3_firstPick_44 ke_X9_size kv_X3_65 rfl rfl (by decide) (Nat.le_of_ble_eq_true rfl) rfl rfl rfl rfl h (fun _ hq => s_X9_size (by omega) hq) (fun x4 M3 h => ?_)
  refine x_ic_ge (tgt := 75) dX3_firstPick_47 (by decide) h (fun h => ?_) (fun h => ?_)
  · refine v_bipush dX3_firstPick_75 bp_m9 ?_
    exact x_iret dX3_firstPick_77 rfl h
  · refine v_aload_n dX3_firstPick_50 rfl 0 rfl ?_
    refine v_iconst dX3_firstPick_51 ic_1 ?_
    refine v_iload_n dX3_firstPick_52 rfl 1 rfl ?_
    refine v_isub dX3_firstPick_53 ?_
    refine v_iload_n dX3_firstPick_54 rfl 3 rfl ?_
    refine v_iload_n dX3_firstPick_55 rfl 2 rfl ?_
    refine x_inv (cv := cI) (As := [.int ((nI 1) - v1), .int v3, .int v2]) (rest := []) (ls2 := [(0, .ref v0), (1, .int ((nI 1) - v1)), (2, .int v3), (3, .int v2)]) (ci := 3) (by omega) dX3_firstPick_56 ke_X3_leastReply kv_X3_99 rfl rfl (by decide) (Nat.le_of_ble_eq_true rfl) rfl rfl rfl rfl h (fun _ hq => s_X3_leastReply (by omega) hq) (fun x6 M5 h => ?_)
    refine v_bipush dX3_firstPick_59 bp_m9 ?_
    refine x_ic_ne (tgt := 69) dX3_firstPick_61 (by decide) h (fun h => ?_) (fun h => ?_)
    · refine v_bipush dX3_firstPick_64 bp_10 ?_
      refine v_iload_n dX3_firstPick_66 rfl 3 rfl ?_
      refine v_iadd dX3_firstPick_67 ?_
      exact x_iret dX3_firstPick_68 rfl h
    · refine v_iincC (ls2 := [(3, .int (v3 + (nI 1))), (0, .ref v0), (1, .int v1), (2, .int v2)]) dX3_firstPick_69 ic_1 3 rfl (by decide) rfl ?_
      refine v_goto (tgt := 36) dX3_firstPick_72 (by decide) ?_
      exact V.pick [1, 2, 3, 0] rfl (hk36 _ _ _ _ _ _ h)
theorem t_X3_firstPick_36 {G : jG} {d : Nat} (hd_ : 125 ≤ d)  : ∀ (n : Nat) (v0 : Nat) (v1 : Int32) (v2 : Int32) (v3 : Int32) (M : jM) (b : Int32 × jM), l_X3_firstPick_36  n v0 v1 v2 v3 M = some b → V G m_X3_firstPick d 36 [(0, .ref v0), (1, .int v1), (2, .int v2), (3, .int v3)] [] M (jQb cI b) := by
  intro n
  induction n with
  | zero => intro v0 v1 v2 v3 M b h; exact nomatch (show (none : jO Int32) = some b from h)
  | succ n ih => intro v0 v1 v2 v3 M b h; exact tb_X3_firstPick_36 hd_  ih h
def b_X3_firstPick_2  (k2 : Nat → Int32 → Int32 → Int32 → jM → jO Int32) (v0 : Nat) (v1 : Int32) (v2 : Int32) (v3 : Int32) (M : jM) : jO Int32 :=
  jb2 (jiv 3 M v0 (f_X3_worldOn v0 v1 M)) fun r2 M1 =>
  jb2 (jiv 8 M1 r2 (f_X9_size r2 M1)) fun x4 M3 =>
  if x4 ≤ v3 then
    l_X3_firstPick_36 jF0 v0 v1 v2 (nI 0) M3
  else
    jb2 (jiv 3 M3 v0 (f_X3_leastReply v0 v1 v3 v2 M3)) fun x6 M5 =>
    if x6 = (-9 : Int32) then
      rt v3 M5
    else
      k2 v0 v1 v2 (v3 + (nI 1)) M5
def l_X3_firstPick_2  : Nat → Nat → Int32 → Int32 → Int32 → jM → jO Int32
  | 0 => fun _ _ _ _ _ => none
  | n + 1 => b_X3_firstPick_2  (l_X3_firstPick_2  n)
theorem tb_X3_firstPick_2 {G : jG} {d : Nat} (hd_ : 125 ≤ d)  {k2 : Nat → Int32 → Int32 → Int32 → jM → jO Int32} (hk2 : ∀ (w0 : Nat) (w1 : Int32) (w2 : Int32) (w3 : Int32) (M : jM) (b : Int32 × jM), k2 w0 w1 w2 w3 M = some b → V G m_X3_firstPick d 2 [(0, .ref w0), (1, .int w1), (2, .int w2), (3, .int w3)] [] M (jQb cI b)) {v0 : Nat} {v1 : Int32} {v2 : Int32} {v3 : Int32} {M : jM} {b : Int32 × jM} (h : b_X3_firstPick_2  k2 v0 v1 v2 v3 M = some b) : V G m_X3_firstPick d 2 [(0, .ref v0), (1, .int v1), (2, .int v2), (3, .int v3)] [] M (jQb cI b) := by
  unfold b_X3_firstPick_2 at h
  refine v_iload_n dX3_firstPick_2 rfl 3 rfl ?_
  refine v_aload_n dX3_firstPick_3 rfl 0 rfl ?_
  refine v_iload_n dX3_firstPick_4 rfl 1 rfl ?_
  refine x_inv (cv := cR) (As := [.int v1]) (rest := [.int v3]) (ls2 := [(0, .ref v0), (1, .int v1)]) (ci := 3) (by omega) dX3_firstPick_5 ke_X3_worldOn kv_X3_92 rfl rfl (by decide) (Nat.le_of_ble_eq_true rfl) rfl rfl rfl rfl h (fun _ hq => s_X3_worldOn (by omega) hq) (fun r2 M1 h => ?_)
  refine x_inv (cv := cI) (As := []) (rest := [.int v3]) (ls2 := [(0, .ref r2)]) (ci := 8) (by omega) dX3_firstPick_8 ke_X9_size kv_X3_65 rfl rfl (by decide) (Nat.le_of_ble_eq_true rfl) rfl rfl rfl rfl h (fun _ hq => s_X9_size (by omega) hq) (fun x4 M3 h => ?_)
  refine x_ic_ge (tgt := 34) dX3_firstPick_11 (by decide) h (fun h => ?_) (fun h => ?_)
  · refine v_iconst dX3_firstPick_34 ic_0 ?_
    refine v_istore_n (ls2 := [(3, .int (nI 0)), (0, .ref v0), (1, .int v1), (2, .int v2)]) dX3_firstPick_35 rfl (by decide) rfl ?_
    exact V.pick [1, 2, 3, 0] rfl (t_X3_firstPick_36 hd_ _ _ _ _ _ _ _ h)
  · refine v_aload_n dX3_firstPick_14 rfl 0 rfl ?_
    refine v_iload_n dX3_firstPick_15 rfl 1 rfl ?_
    refine v_iload_n dX3_firstPick_16 rfl 3 rfl ?_
    refine v_iload_n dX3_firstPick_17 rfl 2 rfl ?_
    refine x_inv (cv := cI) (As := [.int v1, .int v3, .int v2]) (rest := []) (ls2 := [(0, .ref v0), (1, .int v1), (2, .int v3), (3, .int v2)]) (ci := 3) (by omega) dX3_firstPick_18 ke_X3_leastReply kv_X3_99 rfl rfl (by decide) (Nat.le_of_ble_eq_true rfl) rfl rfl rfl rfl h (fun _ hq => s_X3_leastReply (by omega) hq) (fun x6 M5 h => ?_)
    refine v_bipush dX3_firstPick_21 bp_m9 ?_
    refine x_ic_ne (tgt := 28) dX3_firstPick_23 (by decide) h (fun h => ?_) (fun h => ?_)
    · refine v_iload_n dX3_firstPick_26 rfl 3 rfl ?_
      exact x_iret dX3_firstPick_27 rfl h
    · refine v_iincC (ls2 := [(3, .int (v3 + (nI 1))), (0, .ref v0), (1, .int v1), (2, .int v2)]) dX3_firstPick_28 ic_1 3 rfl (by decide) rfl ?_
      refine v_goto (tgt := 2) dX3_firstPick_31 (by decide) ?_
      exact V.pick [1, 2, 3, 0] rfl (hk2 _ _ _ _ _ _ h)
theorem t_X3_firstPick_2 {G : jG} {d : Nat} (hd_ : 125 ≤ d)  : ∀ (n : Nat) (v0 : Nat) (v1 : Int32) (v2 : Int32) (v3 : Int32) (M : jM) (b : Int32 × jM), l_X3_firstPick_2  n v0 v1 v2 v3 M = some b → V G m_X3_firstPick d 2 [(0, .ref v0), (1, .int v1), (2, .int v2), (3, .int v3)] [] M (jQb cI b) := by
  intro n
  induction n with
  | zero => intro v0 v1 v2 v3 M b h; exact nomatch (show (none : jO Int32) = some b from h)
  | succ n ih => intro v0 v1 v2 v3 M b h; exact tb_X3_firstPick_2 hd_  ih h
def f_X3_firstPick (v0 : Nat) (v1 : Int32) (v2 : Int32) (M : jM) : jO Int32 :=
  l_X3_firstPick_2 jF0 v0 v1 v2 (nI 0) M
theorem s_X3_firstPick {G : jG} {d : Nat} (hd_ : 125 ≤ d) {v0 : Nat} {v1 : Int32} {v2 : Int32} {M : jM} {b : Int32 × jM} (h : f_X3_firstPick  v0 v1 v2 M = some b) : V G m_X3_firstPick d 0 [(0, .ref v0), (1, .int v1), (2, .int v2)] [] M (jQb cI b) := by
  unfold f_X3_firstPick at h
  refine v_iconst dX3_firstPick_0 ic_0 ?_
  refine v_istore_n (ls2 := [(3, .int (nI 0)), (0, .ref v0), (1, .int v1), (2, .int v2)]) dX3_firstPick_1 rfl (by decide) rfl ?_
  exact V.pick [1, 2, 3, 0] rfl (t_X3_firstPick_2 hd_ _ _ _ _ _ _ _ h)
def f_X6_bestMove (v0 : Nat) (M : jM) : jO Int32 :=
  (gI 5 M v0 1).bind fun x1 =>
  if x1 = (nI 1) then
    (gR 5 M v0 0).bind fun r2 =>
    (gI 5 M v0 2).bind fun x3 =>
    jb2 (jiv 3 M r2 (f_X3_firstPick r2 (nI 0) x3 M)) fun x5 M4 =>
    rt x5 M4
  else
    (gI 5 M v0 1).bind fun x6 =>
    if x6 = (nI 2) then
      (gR 5 M v0 0).bind fun r7 =>
      (gI 5 M v0 3).bind fun x8 =>
      (gI 5 M v0 4).bind fun x9 =>
      (gI 5 M v0 2).bind fun x10 =>
      jb2 (jiv 3 M r7 (f_X3_leastReply r7 x8 x9 x10 M)) fun x12 M11 =>
      rt x12 M11
    else
      rt (-3 : Int32) M
theorem s_X6_bestMove {G : jG} {d : Nat} (hd_ : 126 ≤ d) {v0 : Nat} {M : jM} {b : Int32 × jM} (h : f_X6_bestMove  v0 M = some b) : V G m_X6_bestMove d 0 [(0, .ref v0)] [] M (jQb cI b) := by
  unfold f_X6_bestMove at h
  refine v_aload_n dX6_bestMove_0 rfl 0 rfl ?_
  refine x_gI dX6_bestMove_1 kf_X6_18 rfl h (fun x1 h => ?_)
  refine v_iconst dX6_bestMove_4 ic_1 ?_
  refine x_ic_ne (tgt := 21) dX6_bestMove_5 (by decide) h (fun h => ?_) (fun h => ?_)
  · refine v_aload_n dX6_bestMove_8 rfl 0 rfl ?_
    refine x_gR dX6_bestMove_9 kf_X6_12 rfl h (fun r2 h => ?_)
    refine v_iconst dX6_bestMove_12 ic_0 ?_
    refine v_aload_n dX6_bestMove_13 rfl 0 rfl ?_
    refine x_gI dX6_bestMove_14 kf_X6_22 rfl h (fun x3 h => ?_)
    refine x_inv (cv := cI) (As := [.int (nI 0), .int x3]) (rest := []) (ls2 := [(0, .ref r2), (1, .int (nI 0)), (2, .int x3)]) (ci := 3) (by omega) dX6_bestMove_17 ke_X3_firstPick kv_X6_52 rfl rfl (by decide) (Nat.le_of_ble_eq_true rfl) rfl rfl rfl rfl h (fun _ hq => s_X3_firstPick (by omega) hq) (fun x5 M4 h => ?_)
    exact x_iret dX6_bestMove_20 rfl h
  · refine v_aload_n dX6_bestMove_21 rfl 0 rfl ?_
    refine x_gI dX6_bestMove_22 kf_X6_18 rfl h (fun x6 h => ?_)
    refine v_iconst dX6_bestMove_25 ic_2 ?_
    refine x_ic_ne (tgt := 51) dX6_bestMove_26 (by decide) h (fun h => ?_) (fun h => ?_)
    · refine v_aload_n dX6_bestMove_29 rfl 0 rfl ?_
      refine x_gR dX6_bestMove_30 kf_X6_12 rfl h (fun r7 h => ?_)
      refine v_aload_n dX6_bestMove_33 rfl 0 rfl ?_
      refine x_gI dX6_bestMove_34 kf_X6_25 rfl h (fun x8 h => ?_)
      refine v_aload_n dX6_bestMove_37 rfl 0 rfl ?_
      refine x_gI dX6_bestMove_38 kf_X6_28 rfl h (fun x9 h => ?_)
      refine v_aload_n dX6_bestMove_41 rfl 0 rfl ?_
      refine x_gI dX6_bestMove_42 kf_X6_22 rfl h (fun x10 h => ?_)
      refine x_inv (cv := cI) (As := [.int x8, .int x9, .int x10]) (rest := []) (ls2 := [(0, .ref r7), (1, .int x8), (2, .int x9), (3, .int x10)]) (ci := 3) (by omega) dX6_bestMove_45 ke_X3_leastReply kv_X6_56 rfl rfl (by decide) (Nat.le_of_ble_eq_true rfl) rfl rfl rfl rfl h (fun _ hq => s_X3_leastReply (by omega) hq) (fun x12 M11 h => ?_)
      refine v_goto (tgt := 53) dX6_bestMove_48 (by decide) ?_
      exact x_iret dX6_bestMove_53 rfl h
    · refine v_bipush dX6_bestMove_51 bp_m3 ?_
      exact x_iret dX6_bestMove_53 rfl h
