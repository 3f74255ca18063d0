def f_X12_init (v0 : Nat) (M : jM) : jO Unit :=
  jb2 (nA 100 M (nI 8)) fun a1 M2 =>
  (pR 11 M2 v0 0 a1).bind fun M3 =>
  jb2 (nA 100 M3 (nI 48)) fun a4 M5 =>
  (pR 11 M5 v0 1 a4).bind fun M6 =>
  jb2 (nA 100 M6 (nI 48)) fun a7 M8 =>
  (pR 11 M8 v0 2 a7).bind fun M9 =>
  jb2 (nA 100 M9 (nI 6)) fun a10 M11 =>
  (pR 11 M11 v0 3 a10).bind fun M12 =>
  jb2 (nA 100 M12 (nI 6)) fun a13 M14 =>
  (pR 11 M14 v0 4 a13).bind fun M15 =>
  jb2 (nA 100 M15 (nI 5)) fun a16 M17 =>
  (pR 11 M17 v0 8 a16).bind fun M18 =>
  jb2 (nA 100 M18 (nI 5)) fun a19 M20 =>
  (pR 11 M20 v0 9 a19).bind fun M21 =>
  jb2 (nA 100 M21 (nI 5)) fun a22 M23 =>
  (pR 11 M23 v0 13 a22).bind fun M24 =>
  jb2 (nA 100 M24 (nI 5)) fun a25 M26 =>
  (pR 11 M26 v0 14 a25).bind fun M27 =>
  jb2 (nA 100 M27 (nI 20)) fun a28 M29 =>
  (pR 11 M29 v0 18 a28).bind fun M30 =>
  jb2 (nA 101 M30 (nI 12000)) fun a31 M32 =>
  (pR 11 M32 v0 19 a31).bind fun M33 =>
  jb2 (nA 100 M33 (nI 12000)) fun a34 M35 =>
  (pR 11 M35 v0 20 a34).bind fun M36 =>
  jb2 (nA 101 M36 (nI 12000)) fun a37 M38 =>
  (pR 11 M38 v0 21 a37).bind fun M39 =>
  jb2 (nA 100 M39 (nI 12000)) fun a40 M41 =>
  (pR 11 M41 v0 22 a40).bind fun M42 =>
  jb2 (nA 101 M42 (nI 1000)) fun a43 M44 =>
  (pR 11 M44 v0 24 a43).bind fun M45 =>
  jb2 (nA 100 M45 (nI 1000)) fun a46 M47 =>
  (pR 11 M47 v0 25 a46).bind fun M48 =>
  jb2 (nA 101 M48 (nI 1000)) fun a49 M50 =>
  (pR 11 M50 v0 26 a49).bind fun M51 =>
  jb2 (nA 101 M51 (nI 800)) fun a52 M53 =>
  (pR 11 M53 v0 27 a52).bind fun M54 =>
  jb2 (nA 100 M54 (nI 32)) fun a55 M56 =>
  (pR 11 M56 v0 30 a55).bind fun M57 =>
  jb2 (nA 100 M57 (nI 32)) fun a58 M59 =>
  (pR 11 M59 v0 31 a58).bind fun M60 =>
  jb2 (nA 100 M60 (nI 32)) fun a61 M62 =>
  (pR 11 M62 v0 32 a61).bind fun M63 =>
  jb2 (nA 100 M63 (nI 10)) fun a64 M65 =>
  (pR 11 M65 v0 35 a64).bind fun M66 =>
  jb2 (nA 100 M66 (nI 64)) fun a67 M68 =>
  (pR 11 M68 v0 39 a67).bind fun M69 =>
  jb2 (nA 100 M69 (nI 64)) fun a70 M71 =>
  (pR 11 M71 v0 40 a70).bind fun M72 =>
  jb2 (nA 100 M72 (nI 64)) fun a73 M74 =>
  (pR 11 M74 v0 41 a73).bind fun M75 =>
  jb2 (nA 101 M75 (nI 8000)) fun a76 M77 =>
  (pR 11 M77 v0 43 a76).bind fun M78 =>
  jb2 (nA 100 M78 (nI 10)) fun a79 M80 =>
  (pR 11 M80 v0 46 a79).bind fun M81 =>
  jb2 (nA 100 M81 (nI 12)) fun a82 M83 =>
  (pR 11 M83 v0 49 a82).bind fun M84 =>
  jb2 (nA 100 M84 (nI 72)) fun a85 M86 =>
  (pR 11 M86 v0 50 a85).bind fun M87 =>
  jb2 (nA 100 M87 (nI 72)) fun a88 M89 =>
  (pR 11 M89 v0 55 a88).bind fun M90 =>
  jb2 (nA 100 M90 (nI 72)) fun a91 M92 =>
  (pR 11 M92 v0 56 a91).bind fun M93 =>
  jb2 (nA 100 M93 (nI 72)) fun a94 M95 =>
  (pR 11 M95 v0 57 a94).bind fun M96 =>
  jb2 (nA 100 M96 (nI 72)) fun a97 M98 =>
  (pR 11 M98 v0 58 a97).bind fun M99 =>
  jb2 (nA 100 M99 (nI 72)) fun a100 M101 =>
  (pR 11 M101 v0 59 a100).bind fun M102 =>
  jb2 (nA 102 M102 (nI 72)) fun a103 M104 =>
  (pR 11 M104 v0 60 a103).bind fun M105 =>
  jb2 (nA 102 M105 (nI 72)) fun a106 M107 =>
  (pR 11 M107 v0 61 a106).bind fun M108 =>
  jb2 (nA 102 M108 (nI 72)) fun a109 M110 =>
  (pR 11 M110 v0 62 a109).bind fun M111 =>
  jb2 (nA 102 M111 (nI 72)) fun a112 M113 =>
  (pR 11 M113 v0 63 a112).bind fun M114 =>
  (pI 11 M114 v0 10 (nI 0)).bind fun M115 =>
  (pI 11 M115 v0 51 (-1 : Int32)).bind fun M116 =>
  rt () M116
theorem s_X12_init {G : jG} {d : Nat} (hd_ : 1 ≤ d) {v0 : Nat} {M : jM} {b : Unit × jM} (h : f_X12_init  v0 M = some b) : V G m_X12_init d 0 [(0, .ref v0)] [] M (jQb cU b) := by
  unfold f_X12_init at h
  refine v_aload_n dX12_init_0 rfl 0 rfl ?_
  refine x_objInit (by omega) dX12_init_1 ko_X12 rfl ?_
  refine v_aload_n dX12_init_4 rfl 0 rfl ?_
  refine v_bipush dX12_init_5 bp_8 ?_
  refine x_nI dX12_init_7 ka_int h (fun a1 M2 h => ?_)
  refine x_pR dX12_init_9 kf_X12_7 rfl (fun _ => ⟨rfl, fun r hr => by cases hr; rfl⟩) (fun _ => rfl) (fun _ => rfl) h (fun M3 h => ?_)
  refine v_aload_n dX12_init_12 rfl 0 rfl ?_
  refine v_bipush dX12_init_13 bp_48 ?_
  refine x_nI dX12_init_15 ka_int h (fun a4 M5 h => ?_)
  refine x_pR dX12_init_17 kf_X12_13 rfl (fun _ => ⟨rfl, fun r hr => by cases hr; rfl⟩) (fun _ => rfl) (fun _ => rfl) h (fun M6 h => ?_)
  refine v_aload_n dX12_init_20 rfl 0 rfl ?_
  refine v_bipush dX12_init_21 bp_48 ?_
  refine x_nI dX12_init_23 ka_int h (fun a7 M8 h => ?_)
  refine x_pR dX12_init_25 kf_X12_16 rfl (fun _ => ⟨rfl, fun r hr => by cases hr; rfl⟩) (fun _ => rfl) (fun _ => rfl) h (fun M9 h => ?_)
  refine v_aload_n dX12_init_28 rfl 0 rfl ?_
  refine v_bipush dX12_init_29 bp_6 ?_
  refine x_nI dX12_init_31 ka_int h (fun a10 M11 h => ?_)
  refine x_pR dX12_init_33 kf_X12_19 rfl (fun _ => ⟨rfl, fun r hr => by cases hr; rfl⟩) (fun _ => rfl) (fun _ => rfl) h (fun M12 h => ?_)
  refine v_aload_n dX12_init_36 rfl 0 rfl ?_
  refine v_bipush dX12_init_37 bp_6 ?_
  refine x_nI dX12_init_39 ka_int h (fun a13 M14 h => ?_)
  refine x_pR dX12_init_41 kf_X12_22 rfl (fun _ => ⟨rfl, fun r hr => by cases hr; rfl⟩) (fun _ => rfl) (fun _ => rfl) h (fun M15 h => ?_)
  refine v_aload_n dX12_init_44 rfl 0 rfl ?_
  refine v_iconst dX12_init_45 ic_5 ?_
  refine x_nI dX12_init_46 ka_int h (fun a16 M17 h => ?_)
  refine x_pR dX12_init_48 kf_X12_25 rfl (fun _ => ⟨rfl, fun r hr => by cases hr; rfl⟩) (fun _ => rfl) (fun _ => rfl) h (fun M18 h => ?_)
  refine v_aload_n dX12_init_51 rfl 0 rfl ?_
  refine v_iconst dX12_init_52 ic_5 ?_
  refine x_nI dX12_init_53 ka_int h (fun a19 M20 h => ?_)
  refine x_pR dX12_init_55 kf_X12_28 rfl (fun _ => ⟨rfl, fun r hr => by cases hr; rfl⟩) (fun _ => rfl) (fun _ => rfl) h (fun M21 h => ?_)
  refine v_aload_n dX12_init_58 rfl 0 rfl ?_
  refine v_iconst dX12_init_59 ic_5 ?_
  refine x_nI dX12_init_60 ka_int h (fun a22 M23 h => ?_)
  refine x_pR dX12_init_62 kf_X12_31 rfl (fun _ => ⟨rfl, fun r hr => by cases hr; rfl⟩) (fun _ => rfl) (fun _ => rfl) h (fun M24 h => ?_)
  refine v_aload_n dX12_init_65 rfl 0 rfl ?_
  refine v_iconst dX12_init_66 ic_5 ?_
  refine x_nI dX12_init_67 ka_int h (fun a25 M26 h => ?_)
  refine x_pR dX12_init_69 kf_X12_34 rfl (fun _ => ⟨rfl, fun r hr => by cases hr; rfl⟩) (fun _ => rfl) (fun _ => rfl) h (fun M27 h => ?_)
  refine v_aload_n dX12_init_72 rfl 0 rfl ?_
  refine v_bipush dX12_init_73 bp_20 ?_
  refine x_nI dX12_init_75 ka_int h (fun a28 M29 h => ?_)
  refine x_pR dX12_init_77 kf_X12_37 rfl (fun _ => ⟨rfl, fun r hr => by cases hr; rfl⟩) (fun _ => rfl) (fun _ => rfl) h (fun M30 h => ?_)
  refine v_aload_n dX12_init_80 rfl 0 rfl ?_
  refine v_sipush dX12_init_81 sp_12000 ?_
  refine x_nB dX12_init_84 ka_byte h (fun a31 M32 h => ?_)
  refine x_pR dX12_init_86 kf_X12_40 rfl (fun _ => ⟨rfl, fun r hr => by cases hr; rfl⟩) (fun _ => rfl) (fun _ => rfl) h (fun M33 h => ?_)
  refine v_aload_n dX12_init_89 rfl 0 rfl ?_
  refine v_sipush dX12_init_90 sp_12000 ?_
  refine x_nI dX12_init_93 ka_int h (fun a34 M35 h => ?_)
  refine x_pR dX12_init_95 kf_X12_44 rfl (fun _ => ⟨rfl, fun r hr => by cases hr; rfl⟩) (fun _ => rfl) (fun _ => rfl) h (fun M36 h => ?_)
  refine v_aload_n dX12_init_98 rfl 0 rfl ?_
  refine v_sipush dX12_init_99 sp_12000 ?_
  refine x_nB dX12_init_102 ka_byte h (fun a37 M38 h => ?_)
  refine x_pR dX12_init_104 kf_X12_47 rfl (fun _ => ⟨rfl, fun r hr => by cases hr; rfl⟩) (fun _ => rfl) (fun _ => rfl) h (fun M39 h => ?_)
  refine v_aload_n dX12_init_107 rfl 0 rfl ?_
  refine v_sipush dX12_init_108 sp_12000 ?_
  refine x_nI dX12_init_111 ka_int h (fun a40 M41 h => ?_)
  refine x_pR dX12_init_113 kf_X12_50 rfl (fun _ => ⟨rfl, fun r hr => by cases hr; rfl⟩) (fun _ => rfl) (fun _ => rfl) h (fun M42 h => ?_)
  refine v_aload_n dX12_init_116 rfl 0 rfl ?_
  refine v_sipush dX12_init_117 sp_1000 ?_
  refine x_nB dX12_init_120 ka_byte h (fun a43 M44 h => ?_)
  refine x_pR dX12_init_122 kf_X12_53 rfl (fun _ => ⟨rfl, fun r hr => by cases hr; rfl⟩) (fun _ => rfl) (fun _ => rfl) h (fun M45 h => ?_)
  refine v_aload_n dX12_init_125 rfl 0 rfl ?_
  refine v_sipush dX12_init_126 sp_1000 ?_
  refine x_nI dX12_init_129 ka_int h (fun a46 M47 h => ?_)
  refine x_pR dX12_init_131 kf_X12_56 rfl (fun _ => ⟨rfl, fun r hr => by cases hr; rfl⟩) (fun _ => rfl) (fun _ => rfl) h (fun M48 h => ?_)
  refine v_aload_n dX12_init_134 rfl 0 rfl ?_
  refine v_sipush dX12_init_135 sp_1000 ?_
  refine x_nB dX12_init_138 ka_byte h (fun a49 M50 h => ?_)
  refine x_pR dX12_init_140 kf_X12_59 rfl (fun _ => ⟨rfl, fun r hr => by cases hr; rfl⟩) (fun _ => rfl) (fun _ => rfl) h (fun M51 h => ?_)
  refine v_aload_n dX12_init_143 rfl 0 rfl ?_
  refine v_sipush dX12_init_144 sp_800 ?_
  refine x_nB dX12_init_147 ka_byte h (fun a52 M53 h => ?_)
  refine x_pR dX12_init_149 kf_X12_62 rfl (fun _ => ⟨rfl, fun r hr => by cases hr; rfl⟩) (fun _ => rfl) (fun _ => rfl) h (fun M54 h => ?_)
  refine v_aload_n dX12_init_152 rfl 0 rfl ?_
  refine v_bipush dX12_init_153 bp_32 ?_
  refine x_nI dX12_init_155 ka_int h (fun a55 M56 h => ?_)
  refine x_pR dX12_init_157 kf_X12_65 rfl (fun _ => ⟨rfl, fun r hr => by cases hr; rfl⟩) (fun _ => rfl) (fun _ => rfl) h (fun M57 h => ?_)
  refine v_aload_n dX12_init_160 rfl 0 rfl ?_
  refine v_bipush dX12_init_161 bp_32 ?_
  refine x_nI dX12_init_163 ka_int h (fun a58 M59 h => ?_)
  refine x_pR dX12_init_165 kf_X12_68 rfl (fun _ => ⟨rfl, fun r hr => by cases hr; rfl⟩) (fun _ => rfl) (fun _ => rfl) h (fun M60 h => ?_)
  refine v_aload_n dX12_init_168 rfl 0 rfl ?_
  refine v_bipush dX12_init_169 bp_32 ?_
  refine x_nI dX12_init_171 ka_int h (fun a61 M62 h => ?_)
  refine x_pR dX12_init_173 kf_X12_71 rfl (fun _ => ⟨rfl, fun r hr => by cases hr; rfl⟩) (fun _ => rfl) (fun _ => rfl) h (fun M63 h => ?_)
  refine v_aload_n dX12_init_176 rfl 0 rfl ?_
  refine v_bipush dX12_init_177 bp_10 ?_
  refine x_nI dX12_init_179 ka_int h (fun a64 M65 h => ?_)
  refine x_pR dX12_init_181 kf_X12_74 rfl (fun _ => ⟨rfl, fun r hr => by cases hr; rfl⟩) (fun _ => rfl) (fun _ => rfl) h (fun M66 h => ?_)
  refine v_aload_n dX12_init_184 rfl 0 rfl ?_
  refine v_bipush dX12_init_185 bp_64 ?_
  refine x_nI dX12_init_187 ka_int h (fun a67 M68 h => ?_)
  refine x_pR dX12_init_189 kf_X12_77 rfl (fun _ => ⟨rfl, fun r hr => by cases hr; rfl⟩) (fun _ => rfl) (fun _ => rfl) h (fun M69 h => ?_)
  refine v_aload_n dX12_init_192 rfl 0 rfl ?_
  refine v_bipush dX12_init_193 bp_64 ?_
  refine x_nI dX12_init_195 ka_int h (fun a70 M71 h => ?_)
  refine x_pR dX12_init_197 kf_X12_80 rfl (fun _ => ⟨rfl, fun r hr => by cases hr; rfl⟩) (fun _ => rfl) (fun _ => rfl) h (fun M72 h => ?_)
  refine v_aload_n dX12_init_200 rfl 0 rfl ?_
  refine v_bipush dX12_init_201 bp_64 ?_
  refine x_nI dX12_init_203 ka_int h (fun a73 M74 h => ?_)
  refine x_pR dX12_init_205 kf_X12_83 rfl (fun _ => ⟨rfl, fun r hr => by cases hr; rfl⟩) (fun _ => rfl) (fun _ => rfl) h (fun M75 h => ?_)
  refine v_aload_n dX12_init_208 rfl 0 rfl ?_
  refine v_sipush dX12_init_209 sp_8000 ?_
  refine x_nB dX12_init_212 ka_byte h (fun a76 M77 h => ?_)
  refine x_pR dX12_init_214 kf_X12_86 rfl (fun _ => ⟨rfl, fun r hr => by cases hr; rfl⟩) (fun _ => rfl) (fun _ => rfl) h (fun M78 h => ?_)
  refine v_aload_n dX12_init_217 rfl 0 rfl ?_
  refine v_bipush dX12_init_218 bp_10 ?_
  refine x_nI dX12_init_220 ka_int h (fun a79 M80 h => ?_)
  refine x_pR dX12_init_222 kf_X12_89 rfl (fun _ => ⟨rfl, fun r hr => by cases hr; rfl⟩) (fun _ => rfl) (fun _ => rfl) h (fun M81 h => ?_)
  refine v_aload_n dX12_init_225 rfl 0 rfl ?_
  refine v_bipush dX12_init_226 bp_12 ?_
  refine x_nI dX12_init_228 ka_int h (fun a82 M83 h => ?_)
  refine x_pR dX12_init_230 kf_X12_92 rfl (fun _ => ⟨rfl, fun r hr => by cases hr; rfl⟩) (fun _ => rfl) (fun _ => rfl) h (fun M84 h => ?_)
  refine v_aload_n dX12_init_233 rfl 0 rfl ?_
  refine v_bipush dX12_init_234 bp_72 ?_
  refine x_nI dX12_init_236 ka_int h (fun a85 M86 h => ?_)
  refine x_pR dX12_init_238 kf_X12_95 rfl (fun _ => ⟨rfl, fun r hr => by cases hr; rfl⟩) (fun _ => rfl) (fun _ => rfl) h (fun M87 h => ?_)
  refine v_aload_n dX12_init_241 rfl 0 rfl ?_
  refine v_bipush dX12_init_242 bp_72 ?_
  refine x_nI dX12_init_244 ka_int h (fun a88 M89 h => ?_)
  refine x_pR dX12_init_246 kf_X12_98 rfl (fun _ => ⟨rfl, fun r hr => by cases hr; rfl⟩) (fun _ => rfl) (fun _ => rfl) h (fun M90 h => ?_)
  refine v_aload_n dX12_init_249 rfl 0 rfl ?_
  refine v_bipush dX12_init_250 bp_72 ?_
  refine x_nI dX12_init_252 ka_int h (fun a91 M92 h => ?_)
  refine x_pR dX12_init_254 kf_X12_101 rfl (fun _ => ⟨rfl, fun r hr => by cases hr; rfl⟩) (fun _ => rfl) (fun _ => rfl) h (fun M93 h => ?_)
  refine v_aload_n dX12_init_257 rfl 0 rfl ?_
  refine v_bipush dX12_init_258 bp_72 ?_
  refine x_nI dX12_init_260 ka_int h (fun a94 M95 h => ?_)
  refine x_pR dX12_init_262 kf_X12_104 rfl (fun _ => ⟨rfl, fun r hr => by cases hr; rfl⟩) (fun _ => rfl) (fun _ => rfl) h (fun M96 h => ?_)
  refine v_aload_n dX12_init_265 rfl 0 rfl ?_
  refine v_bipush dX12_init_266 bp_72 ?_
  refine x_nI dX12_init_268 ka_int h (fun a97 M98 h => ?_)
  refine x_pR dX12_init_270 kf_X12_107 rfl (fun _ => ⟨rfl, fun r hr => by cases hr; rfl⟩) (fun _ => rfl) (fun _ => rfl) h (fun M99 h => ?_)
  refine v_aload_n dX12_init_273 rfl 0 rfl ?_
  refine v_bipush dX12_init_274 bp_72 ?_
  refine x_nI dX12_init_276 ka_int h (fun a100 M101 h => ?_)
  refine x_pR dX12_init_278 kf_X12_110 rfl (fun _ => ⟨rfl, fun r hr => by cases hr; rfl⟩) (fun _ => rfl) (fun _ => rfl) h (fun M102 h => ?_)
  refine v_aload_n dX12_init_281 rfl 0 rfl ?_
  refine v_bipush dX12_init_282 bp_72 ?_
  refine x_nJ dX12_init_284 ka_long h (fun a103 M104 h => ?_)
  refine x_pR dX12_init_286 kf_X12_113 rfl (fun _ => ⟨rfl, fun r hr => by cases hr; rfl⟩) (fun _ => rfl) (fun _ => rfl) h (fun M105 h => ?_)
  refine v_aload_n dX12_init_289 rfl 0 rfl ?_
  refine v_bipush dX12_init_290 bp_72 ?_
  refine x_nJ dX12_init_292 ka_long h (fun a106 M107 h => ?_)
  refine x_pR dX12_init_294 kf_X12_117 rfl (fun _ => ⟨rfl, fun r hr => by cases hr; rfl⟩) (fun _ => rfl) (fun _ => rfl) h (fun M108 h => ?_)
  refine v_aload_n dX12_init_297 rfl 0 rfl ?_
  refine v_bipush dX12_init_298 bp_72 ?_
  refine x_nJ dX12_init_300 ka_long h (fun a109 M110 h => ?_)
  refine x_pR dX12_init_302 kf_X12_120 rfl (fun _ => ⟨rfl, fun r hr => by cases hr; rfl⟩) (fun _ => rfl) (fun _ => rfl) h (fun M111 h => ?_)
  refine v_aload_n dX12_init_305 rfl 0 rfl ?_
  refine v_bipush dX12_init_306 bp_72 ?_
  refine x_nJ dX12_init_308 ka_long h (fun a112 M113 h => ?_)
  refine x_pR dX12_init_310 kf_X12_123 rfl (fun _ => ⟨rfl, fun r hr => by cases hr; rfl⟩) (fun _ => rfl) (fun _ => rfl) h (fun M114 h => ?_)
  refine v_aload_n dX12_init_313 rfl 0 rfl ?_
  refine v_iconst dX12_init_314 ic_0 ?_
  refine x_pI dX12_init_315 kf_X12_126 rfl (fun q => Bool.noConfusion q) h (fun M115 h => ?_)
  refine v_aload_n dX12_init_318 rfl 0 rfl ?_
  refine v_iconst dX12_init_319 ic_m1 ?_
  refine x_pI dX12_init_320 kf_X12_130 rfl (fun q => Bool.noConfusion q) h (fun M116 h => ?_)
  exact x_vret dX12_init_323 rfl h
def j_X12_lay_66 (k9 : Nat → Int32 → Int32 → Int32 → jM → jO Unit) (v0 : Nat) (v1 : Int32) (v2 : Int32) (v3 : Int32) (s0 : Nat) (s1 : Int32) (s2 : Int32) (M : jM) : jO Unit :=
  (stI M s0 s1 s2).bind fun M1 =>
  k9 v0 v1 v2 (v3 + (nI 1)) M1
theorem t_X12_lay_66 {G : jG} {d : Nat} (hd_ : 0 ≤ d) {k9 : Nat → Int32 → Int32 → Int32 → jM → jO Unit} (hk9 : ∀ (w0 : Nat) (w1 : Int32) (w2 : Int32) (w3 : Int32) (M : jM) (b : Unit × jM), k9 w0 w1 w2 w3 M = some b → V G m_X12_lay d 9 [(0, .ref w0), (1, .int w1), (2, .int w2), (3, .int w3)] [] M (jQb cU b)) {v0 : Nat} {v1 : Int32} {v2 : Int32} {v3 : Int32} {s0 : Nat} {s1 : Int32} {s2 : Int32} {M : jM} {b : Unit × jM} (h : j_X12_lay_66 k9 v0 v1 v2 v3 s0 s1 s2 M = some b) : V G m_X12_lay d 66 [(0, .ref v0), (1, .int v1), (2, .int v2), (3, .int v3)] [.int s2, .int s1, .ref s0] M (jQb cU b) := by
  unfold j_X12_lay_66 at h
  refine x_stI dX12_lay_66 h (fun M1 h => ?_)
  refine v_iincC (ls2 := [(3, .int (v3 + (nI 1))), (0, .ref v0), (1, .int v1), (2, .int v2)]) dX12_lay_67 ic_1 3 rfl (by decide) rfl ?_
  refine v_goto (tgt := 9) dX12_lay_70 (by decide) ?_
  exact V.pick [1, 2, 3, 0] rfl (hk9 _ _ _ _ _ _ h)
def j_X12_lay_40 (k9 : Nat → Int32 → Int32 → Int32 → jM → jO Unit) (v0 : Nat) (v1 : Int32) (v2 : Int32) (v3 : Int32) (s0 : Nat) (s1 : Int32) (s2 : Int32) (M : jM) : jO Unit :=
  (stI M s0 s1 s2).bind fun M1 =>
  (gR 11 M1 v0 2).bind fun r2 =>
  if v2 ≤ v3 then
    j_X12_lay_66 k9 v0 v1 v2 v3 r2 (((nI 6) * v1) + v3) (nI 0) M1
  else
    (gR 11 M1 v0 4).bind fun r3 =>
    (ldI M1 r3 v3).bind fun x4 =>
    j_X12_lay_66 k9 v0 v1 v2 v3 r2 (((nI 6) * v1) + v3) x4 M1
theorem t_X12_lay_40 {G : jG} {d : Nat} (hd_ : 0 ≤ d) {k9 : Nat → Int32 → Int32 → Int32 → jM → jO Unit} (hk9 : ∀ (w0 : Nat) (w1 : Int32) (w2 : Int32) (w3 : Int32) (M : jM) (b : Unit × jM), k9 w0 w1 w2 w3 M = some b → V G m_X12_lay d 9 [(0, .ref w0), (1, .int w1), (2, .int w2), (3, .int w3)] [] M (jQb cU b)) {v0 : Nat} {v1 : Int32} {v2 : Int32} {v3 : Int32} {s0 : Nat} {s1 : Int32} {s2 : Int32} {M : jM} {b : Unit × jM} (h : j_X12_lay_40 k9 v0 v1 v2 v3 s0 s1 s2 M = some b) : V G m_X12_lay d 40 [(0, .ref v0), (1, .int v1), (2, .int v2), (3, .int v3)] [.int s2, .int s1, .ref s0] M (jQb cU b) := by
  unfold j_X12_lay_40 at h
  refine x_stI dX12_lay_40 h (fun M1 h => ?_)
  refine v_aload_n dX12_lay_41 rfl 0 rfl ?_
  refine x_gR dX12_lay_42 kf_X12_16 rfl h (fun r2 h => ?_)
  refine v_bipush dX12_lay_45 bp_6 ?_
  refine v_iload_n dX12_lay_47 rfl 1 rfl ?_
  refine v_imul dX12_lay_48 ?_
  refine v_iload_n dX12_lay_49 rfl 3 rfl ?_
  refine v_iadd dX12_lay_50 ?_
  refine v_iload_n dX12_lay_51 rfl 3 rfl ?_
  refine v_iload_n dX12_lay_52 rfl 2 rfl ?_
  refine x_ic_ge (tgt := 65) dX12_lay_53 (by decide) h (fun h => ?_) (fun h => ?_)
  · refine v_iconst dX12_lay_65 ic_0 ?_
    exact t_X12_lay_66 hd_ hk9 h
  · refine v_aload_n dX12_lay_56 rfl 0 rfl ?_
    refine x_gR dX12_lay_57 kf_X12_22 rfl h (fun r3 h => ?_)
    refine v_iload_n dX12_lay_60 rfl 3 rfl ?_
    refine x_ldI dX12_lay_61 h (fun x4 h => ?_)
    refine v_goto (tgt := 66) dX12_lay_62 (by decide) ?_
    exact t_X12_lay_66 hd_ hk9 h
def b_X12_lay_9  (k9 : Nat → Int32 → Int32 → Int32 → jM → jO Unit) (v0 : Nat) (v1 : Int32) (v2 : Int32) (v3 : Int32) (M : jM) : jO Unit :=
  if (nI 6) ≤ v3 then
    rt () M
  else
    (gR 11 M v0 1).bind fun r1 =>
    if v2 ≤ v3 then
      j_X12_lay_40 k9 v0 v1 v2 v3 r1 (((nI 6) * v1) + v3) (nI 0) M
    else
      (gR 11 M v0 3).bind fun r2 =>
      (ldI M r2 v3).bind fun x3 =>
      j_X12_lay_40 k9 v0 v1 v2 v3 r1 (((nI 6) * v1) + v3) x3 M
def l_X12_lay_9  : Nat → Nat → Int32 → Int32 → Int32 → jM → jO Unit
  | 0 => fun _ _ _ _ _ => none
  | n + 1 => b_X12_lay_9  (l_X12_lay_9  n)
theorem tb_X12_lay_9 {G : jG} {d : Nat} (hd_ : 0 ≤ d)  {k9 : Nat → Int32 → Int32 → Int32 → jM → jO Unit} (hk9 : ∀ (w0 : Nat) (w1 : Int32) (w2 : Int32) (w3 : Int32) (M : jM) (b : Unit × jM), k9 w0 w1 w2 w3 M = some b → V G m_X12_lay d 9 [(0, .ref w0), (1, .int w1), (2, .int w2), (3, .int w3)] [] M (jQb cU b)) {v0 : Nat} {v1 : Int32} {v2 : Int32} {v3 : Int32} {M : jM} {b : Unit × jM} (h : b_X12_lay_9  k9 v0 v1 v2 v3 M = some b) : V G m_X12_lay d 9 [(0, .ref v0), (1, .int v1), (2, .int v2), (3, .int v3)] [] M (jQb cU b) := by
  unfold b_X12_lay_9 at h
  refine v_iload_n dX12_lay_9 rfl 3 rfl ?_
  refine v_bipush dX12_lay_10 bp_6 ?_
  refine x_ic_ge (tgt := 73) dX12_lay_12 (by decide) h (fun h => ?_) (fun h => ?_)
  · exact x_vret dX12_lay_73 rfl h
  · refine v_aload_n dX12_lay_15 rfl 0 rfl ?_
    refine x_gR dX12_lay_16 kf_X12_13 rfl h (fun r1 h => ?_)
    refine v_bipush dX12_lay_19 bp_6 ?_
    refine v_iload_n dX12_lay_21 rfl 1 rfl ?_
    refine v_imul dX12_lay_22 ?_
    refine v_iload_n dX12_lay_23 rfl 3 rfl ?_
    refine v_iadd dX12_lay_24 ?_
    refine v_iload_n dX12_lay_25 rfl 3 rfl ?_
    refine v_iload_n dX12_lay_26 rfl 2 rfl ?_
    refine x_ic_ge (tgt := 39) dX12_lay_27 (by decide) h (fun h => ?_) (fun h => ?_)
    · refine v_iconst dX12_lay_39 ic_0 ?_
      exact t_X12_lay_40 hd_ hk9 h
    · refine v_aload_n dX12_lay_30 rfl 0 rfl ?_
      refine x_gR dX12_lay_31 kf_X12_19 rfl h (fun r2 h => ?_)
      refine v_iload_n dX12_lay_34 rfl 3 rfl ?_
      refine x_ldI dX12_lay_35 h (fun x3 h => ?_)
      refine v_goto (tgt := 40) dX12_lay_36 (by decide) ?_
      exact t_X12_lay_40 hd_ hk9 h
theorem t_X12_lay_9 {G : jG} {d : Nat} (hd_ : 0 ≤ d)  : ∀ (n : Nat) (v0 : Nat) (v1 : Int32) (v2 : Int32) (v3 : Int32) (M : jM) (b : Unit × jM), l_X12_lay_9  n v0 v1 v2 v3 M = some b → V G m_X12_lay d 9 [(0, .ref v0), (1, .int v1), (2, .int v2), (3, .int v3)] [] M (jQb cU b) := by
  intro n
  induction n with
  | zero => intro v0 v1 v2 v3 M b h; exact nomatch (show (none : jO Unit) = some b from h)
  | succ n ih => intro v0 v1 v2 v3 M b h; exact tb_X12_lay_9 hd_  ih h
def f_X12_lay (v0 : Nat) (v1 : Int32) (v2 : Int32) (M : jM) : jO Unit :=
  (gR 11 M v0 0).bind fun r1 =>
  (stI M r1 v1 v2).bind fun M2 =>
  l_X12_lay_9 jF0 v0 v1 v2 (nI 0) M2
theorem s_X12_lay {G : jG} {d : Nat} (hd_ : 0 ≤ d) {v0 : Nat} {v1 : Int32} {v2 : Int32} {M : jM} {b : Unit × jM} (h : f_X12_lay  v0 v1 v2 M = some b) : V G m_X12_lay d 0 [(0, .ref v0), (1, .int v1), (2, .int v2)] [] M (jQb cU b) := by
  unfold f_X12_lay at h
  refine v_aload_n dX12_lay_0 rfl 0 rfl ?_
  refine x_gR dX12_lay_1 kf_X12_7 rfl h (fun r1 h => ?_)
  refine v_iload_n dX12_lay_4 rfl 1 rfl ?_
  refine v_iload_n dX12_lay_5 rfl 2 rfl ?_
  refine x_stI dX12_lay_6 h (fun M2 h => ?_)
  refine v_iconst dX12_lay_7 ic_0 ?_
  refine v_istore_n (ls2 := [(3, .int (nI 0)), (0, .ref v0), (1, .int v1), (2, .int v2)]) dX12_lay_8 rfl (by decide) rfl ?_
  exact V.pick [1, 2, 3, 0] rfl (t_X12_lay_9 hd_ _ _ _ _ _ _ _ h)
def j_X12_join_154 (k57 : Nat → Int32 → Int32 → Int32 → Int32 → Int32 → Int32 → jM → jO Int32) (v0 : Nat) (v1 : Int32) (v2 : Int32) (v3 : Int32) (v4 : Int32) (v5 : Int32) (v6 : Int32) (s0 : Nat) (s1 : Int32) (s2 : Int32) (M : jM) : jO Int32 :=
  (stI M s0 s1 s2).bind fun M1 =>
  k57 v0 v1 v2 v3 v4 v5 (v6 + (nI 1)) M1
theorem t_X12_join_154 {G : jG} {d : Nat} (hd_ : 3 ≤ d) {k57 : Nat → Int32 → Int32 → Int32 → Int32 → Int32 → Int32 → jM → jO Int32} (hk57 : ∀ (w0 : Nat) (w1 : Int32) (w2 : Int32) (w3 : Int32) (w4 : Int32) (w5 : Int32) (w6 : Int32) (M : jM) (b : Int32 × jM), k57 w0 w1 w2 w3 w4 w5 w6 M = some b → V G m_X12_join d 57 [(0, .ref w0), (1, .int w1), (2, .int w2), (3, .int w3), (4, .int w4), (5, .int w5), (6, .int w6)] [] M (jQb cI b)) {v0 : Nat} {v1 : Int32} {v2 : Int32} {v3 : Int32} {v4 : Int32} {v5 : Int32} {v6 : Int32} {s0 : Nat} {s1 : Int32} {s2 : Int32} {M : jM} {b : Int32 × jM} (h : j_X12_join_154 k57 v0 v1 v2 v3 v4 v5 v6 s0 s1 s2 M = some b) : V G m_X12_join d 154 [(0, .ref v0), (1, .int v1), (2, .int v2), (3, .int v3), (4, .int v4), (5, .int v5), (6, .int v6)] [.int s2, .int s1, .ref s0] M (jQb cI b) := by
  unfold j_X12_join_154 at h
  refine x_stI dX12_join_154 h (fun M1 h => ?_)
  refine v_iincC (ls2 := [(6, .int (v6 + (nI 1))), (0, .ref v0), (1, .int v1), (2, .int v2), (3, .int v3), (4, .int v4), (5, .int v5)]) dX12_join_155 ic_1 6 rfl (by decide) rfl ?_
  refine v_goto (tgt := 57) dX12_join_158 (by decide) ?_
  exact V.pick [1, 2, 3, 4, 5, 6, 0] rfl (hk57 _ _ _ _ _ _ _ _ _ h)
def j_X12_join_107 (k57 : Nat → Int32 → Int32 → Int32 → Int32 → Int32 → Int32 → jM → jO Int32) (v0 : Nat) (v1 : Int32) (v2 : Int32) (v3 : Int32) (v4 : Int32) (v5 : Int32) (v6 : Int32) (s0 : Nat) (s1 : Int32) (s2 : Int32) (M : jM) : jO Int32 :=
  (stI M s0 s1 s2).bind fun M1 =>
  (gR 11 M1 v0 4).bind fun r2 =>
  if v4 ≤ v6 then
    (gR 11 M1 v0 2).bind fun r3 =>
    (ldI M1 r3 ((((nI 6) * v2) + v6) - v4)).bind fun x4 =>
    j_X12_join_154 k57 v0 v1 v2 v3 v4 v5 v6 r2 v6 (x4 <<< (v4 &&& 31)) M1
  else
    (gR 11 M1 v0 2).bind fun r5 =>
    (ldI M1 r5 (((nI 6) * v1) + v6)).bind fun x6 =>
    j_X12_join_154 k57 v0 v1 v2 v3 v4 v5 v6 r2 v6 x6 M1
theorem t_X12_join_107 {G : jG} {d : Nat} (hd_ : 3 ≤ d) {k57 : Nat → Int32 → Int32 → Int32 → Int32 → Int32 → Int32 → jM → jO Int32} (hk57 : ∀ (w0 : Nat) (w1 : Int32) (w2 : Int32) (w3 : Int32) (w4 : Int32) (w5 : Int32) (w6 : Int32) (M : jM) (b : Int32 × jM), k57 w0 w1 w2 w3 w4 w5 w6 M = some b → V G m_X12_join d 57 [(0, .ref w0), (1, .int w1), (2, .int w2), (3, .int w3), (4, .int w4), (5, .int w5), (6, .int w6)] [] M (jQb cI b)) {v0 : Nat} {v1 : Int32} {v2 : Int32} {v3 : Int32} {v4 : Int32} {v5 : Int32} {v6 : Int32} {s0 : Nat} {s1 : Int32} {s2 : Int32} {M : jM} {b : Int32 × jM} (h : j_X12_join_107 k57 v0 v1 v2 v3 v4 v5 v6 s0 s1 s2 M = some b) : V G m_X12_join d 107 [(0, .ref v0), (1, .int v1), (2, .int v2), (3, .int v3), (4, .int v4), (5, .int v5), (6, .int v6)] [.int s2, .int s1, .ref s0] M (jQb cI b) := by
  unfold j_X12_join_107 at h
  refine x_stI dX12_join_107 h (fun M1 h => ?_)
  refine v_aload_n dX12_join_108 rfl 0 rfl ?_
  refine x_gR dX12_join_109 kf_X12_22 rfl h (fun r2 h => ?_)
  refine v_iload dX12_join_112 6 rfl ?_
  refine v_iload dX12_join_114 6 rfl ?_
  refine v_iload dX12_join_116 4 rfl ?_
  refine x_ic_ge (tgt := 136) dX12_join_118 (by decide) h (fun h => ?_) (fun h => ?_)
  · refine v_aload_n dX12_join_136 rfl 0 rfl ?_
    refine x_gR dX12_join_137 kf_X12_16 rfl h (fun r3 h => ?_)
    refine v_bipush dX12_join_140 bp_6 ?_
    refine v_iload_n dX12_join_142 rfl 2 rfl ?_
    refine v_imul dX12_join_143 ?_
    refine v_iload dX12_join_144 6 rfl ?_
    refine v_iadd dX12_join_146 ?_
    refine v_iload dX12_join_147 4 rfl ?_
    refine v_isub dX12_join_149 ?_
    refine x_ldI dX12_join_150 h (fun x4 h => ?_)
    refine v_iload dX12_join_151 4 rfl ?_
    refine v_ishl dX12_join_153 ?_
    exact t_X12_join_154 hd_ hk57 h
  · refine v_aload_n dX12_join_121 rfl 0 rfl ?_
    refine x_gR dX12_join_122 kf_X12_16 rfl h (fun r5 h => ?_)
    refine v_bipush dX12_join_125 bp_6 ?_
    refine v_iload_n dX12_join_127 rfl 1 rfl ?_
    refine v_imul dX12_join_128 ?_
    refine v_iload dX12_join_129 6 rfl ?_
    refine v_iadd dX12_join_131 ?_
    refine x_ldI dX12_join_132 h (fun x6 h => ?_)
    refine v_goto (tgt := 154) dX12_join_133 (by decide) ?_
    exact t_X12_join_154 hd_ hk57 h
def b_X12_join_57  (k57 : Nat → Int32 → Int32 → Int32 → Int32 → Int32 → Int32 → jM → jO Int32) (v0 : Nat) (v1 : Int32) (v2 : Int32) (v3 : Int32) (v4 : Int32) (v5 : Int32) (v6 : Int32) (M : jM) : jO Int32 :=
  if v5 ≤ v6 then
    jb2 (jiv 11 M v0 (f_X12_lay v0 v3 v5 M)) fun _ M1 =>
    rt v5 M1
  else
    (gR 11 M v0 3).bind fun r2 =>
    if v4 ≤ v6 then
      (gR 11 M v0 1).bind fun r3 =>
      (ldI M r3 ((((nI 6) * v2) + v6) - v4)).bind fun x4 =>
      j_X12_join_107 k57 v0 v1 v2 v3 v4 v5 v6 r2 v6 x4 M
    else
      (gR 11 M v0 1).bind fun r5 =>
      (ldI M r5 (((nI 6) * v1) + v6)).bind fun x6 =>
      j_X12_join_107 k57 v0 v1 v2 v3 v4 v5 v6 r2 v6 x6 M
def l_X12_join_57  : Nat → Nat → Int32 → Int32 → Int32 → Int32 → Int32 → Int32 → jM → jO Int32
  | 0 => fun _ _ _ _ _ _ _ _ => none
  | n + 1 => b_X12_join_57  (l_X12_join_57  n)
theorem tb_X12_join_57 {G : jG} {d : Nat} (hd_ : 3 ≤ d)  {k57 : Nat → Int32 → Int32 → Int32 → Int32 → Int32 → Int32 → jM → jO Int32} (hk57 : ∀ (w0 : Nat) (w1 : Int32) (w2 : Int32) (w3 : Int32) (w4 : Int32) (w5 : Int32) (w6 : Int32) (M : jM) (b : Int32 × jM), k57 w0 w1 w2 w3 w4 w5 w6 M = some b → V G m_X12_join d 57 [(0, .ref w0), (1, .int w1), (2, .int w2), (3, .int w3), (4, .int w4), (5, .int w5), (6, .int w6)] [] M (jQb cI b)) {v0 : Nat} {v1 : Int32} {v2 : Int32} {v3 : Int32} {v4 : Int32} {v5 : Int32} {v6 : Int32} {M : jM} {b : Int32 × jM} (h : b_X12_join_57  k57 v0 v1 v2 v3 v4 v5 v6 M = some b) : V G m_X12_join d 57 [(0, .ref v0), (1, .int v1), (2, .int v2), (3, .int v3), (4, .int v4), (5, .int v5), (6, .int v6)] [] M (jQb cI b) := by
  unfold b_X12_join_57 at h
  refine v_iload dX12_join_57 6 rfl ?_
  refine v_iload dX12_join_59 5 rfl ?_
  refine x_ic_ge (tgt := 161) dX12_join_61 (by decide) h (fun h => ?_) (fun h => ?_)
  · refine v_aload_n dX12_join_161 rfl 0 rfl ?_
    refine v_iload_n dX12_join_162 rfl 3 rfl ?_
    refine v_iload dX12_join_163 5 rfl ?_
    refine x_inv (cv := cU) (As := [.int v3, .int v5]) (rest := []) (ls2 := [(0, .ref v0), (1, .int v3), (2, .int v5)]) (ci := 11) (by omega) dX12_join_165 ke_X12_lay kv_X12_155 rfl rfl (by decide) (Nat.le_of_ble_eq_true rfl) rfl rfl rfl rfl h (fun _ hq => s_X12_lay (by omega) hq) (fun _ M1 h => ?_)
    refine v_iload dX12_join_168 5 rfl ?_
    exact x_iret dX12_join_170 rfl h
  · refine v_aload_n dX12_join_64 rfl 0 rfl ?_
    refine x_gR dX12_join_65 kf_X12_19 rfl h (fun r2 h => ?_)
    refine v_iload dX12_join_68 6 rfl ?_
    refine v_iload dX12_join_70 6 rfl ?_
    refine v_iload dX12_join_72 4 rfl ?_
    refine x_ic_ge (tgt := 92) dX12_join_74 (by decide) h (fun h => ?_) (fun h => ?_)
    · refine v_aload_n dX12_join_92 rfl 0 rfl ?_
      refine x_gR dX12_join_93 kf_X12_13 rfl h (fun r3 h => ?_)
      refine v_bipush dX12_join_96 bp_6 ?_
      refine v_iload_n dX12_join_98 rfl 2 rfl ?_
      refine v_imul dX12_join_99 ?_
      refine v_iload dX12_join_100 6 rfl ?_
      refine v_iadd dX12_join_102 ?_
      refine v_iload dX12_join_103 4 rfl ?_
      refine v_isub dX12_join_105 ?_
      refine x_ldI dX12_join_106 h (fun x4 h => ?_)
      exact t_X12_join_107 hd_ hk57 h
    · refine v_aload_n dX12_join_77 rfl 0 rfl ?_
      refine x_gR dX12_join_78 kf_X12_13 rfl h (fun r5 h => ?_)
      refine v_bipush dX12_join_81 bp_6 ?_
      refine v_iload_n dX12_join_83 rfl 1 rfl ?_
      refine v_imul dX12_join_84 ?_
      refine v_iload dX12_join_85 6 rfl ?_
      refine v_iadd dX12_join_87 ?_
      refine x_ldI dX12_join_88 h (fun x6 h => ?_)
      refine v_goto (tgt := 107) dX12_join_89 (by decide) ?_
      exact t_X12_join_107 hd_ hk57 h
theorem t_X12_join_57 {G : jG} {d : Nat} (hd_ : 3 ≤ d)  : ∀ (n : Nat) (v0 : Nat) (v1 : Int32) (v2 : Int32) (v3 : Int32) (v4 : Int32) (v5 : Int32) (v6 : Int32) (M : jM) (b : Int32 × jM), l_X12_join_57  n v0 v1 v2 v3 v4 v5 v6 M = some b → V G m_X12_join d 57 [(0, .ref v0), (1, .int v1), (2, .int v2), (3, .int v3), (4, .int v4), (5, .int v5), (6, .int v6)] [] M (jQb cI b) := by
  intro n
  induction n with
  | zero => intro v0 v1 v2 v3 v4 v5 v6 M b h; exact nomatch (show (none : jO Int32) = some b from h)
  | succ n ih => intro v0 v1 v2 v3 v4 v5 v6 M b h; exact tb_X12_join_57 hd_  ih h
def f_X12_join (v0 : Nat) (v1 : Int32) (v2 : Int32) (v3 : Int32) (M : jM) : jO Int32 :=
  jb2 (jiv 11 M v0 (f_X12_noWorld v0 v1 M)) fun x2 M1 =>
  if x2 = 0 then
    jb2 (jiv 11 M1 v0 (f_X12_noWorld v0 v2 M1)) fun x4 M3 =>
    if x4 = 0 then
      jb2 (f_X12_noPlace v3 M3) fun x6 M5 =>
      if x6 = 0 then
        (gR 11 M5 v0 0).bind fun r7 =>
        (ldI M5 r7 v1).bind fun x8 =>
        (gR 11 M5 v0 0).bind fun r9 =>
        (ldI M5 r9 v2).bind fun x10 =>
        (jv (x8 + x10)).bind fun y11 =>
        if y11 ≤ (nI 6) then
          l_X12_join_57 jF0 v0 v1 v2 v3 x8 y11 (nI 0) M5
        else
          rt (-2 : Int32) M5
      else
        rt (-1 : Int32) M5
    else
      rt (-1 : Int32) M3
  else
    rt (-1 : Int32) M1
theorem s_X12_join {G : jG} {d : Nat} (hd_ : 3 ≤ d) {v0 : Nat} {v1 : Int32} {v2 : Int32} {v3 : Int32} {M : jM} {b : Int32 × jM} (h : f_X12_join  v0 v1 v2 v3 M = some b) : V G m_X12_join d 0 [(0, .ref v0), (1, .int v1), (2, .int v2), (3, .int v3)] [] M (jQb cI b) := by
  unfold f_X12_join at h
  refine v_aload_n dX12_join_0 rfl 0 rfl ?_
  refine v_iload_n dX12_join_1 rfl 1 rfl ?_
  refine x_inv (cv := cI) (As := [.int v1]) (rest := []) (ls2 := [(0, .ref v0), (1, .int v1)]) (ci := 11) (by omega) dX12_join_2 ke_X12_noWorld kv_X12_141 rfl rfl (by decide) (Nat.le_of_ble_eq_true rfl) rfl rfl rfl rfl h (fun _ hq => s_X12_noWorld (by omega) hq) (fun x2 M1 h => ?_)
  refine x_if_ne (tgt := 23) dX12_join_5 (by decide) h (fun h => ?_) (fun h => ?_)
  · refine v_aload_n dX12_join_8 rfl 0 rfl ?_
    refine v_iload_n dX12_join_9 rfl 2 rfl ?_
    refine x_inv (cv := cI) (As := [.int v2]) (rest := []) (ls2 := [(0, .ref v0), (1, .int v2)]) (ci := 11) (by omega) dX12_join_10 ke_X12_noWorld kv_X12_141 rfl rfl (by decide) (Nat.le_of_ble_eq_true rfl) rfl rfl rfl rfl h (fun _ hq => s_X12_noWorld (by omega) hq) (fun x4 M3 h => ?_)
    refine x_if_ne (tgt := 23) dX12_join_13 (by decide) h (fun h => ?_) (fun h => ?_)
    · refine v_iload_n dX12_join_16 rfl 3 rfl ?_
      refine x_invs (cv := cI) (As := [.int v3]) (rest := []) (ls2 := [(0, .int v3)]) (by omega) dX12_join_17 ke_X12_noPlace ks_X12_137 (Nat.le_of_ble_eq_true rfl) rfl rfl rfl rfl h (fun _ hq => s_X12_noPlace (by omega) hq) (fun x6 M5 h => ?_)
      refine x_if_eq (tgt := 25) dX12_join_20 (by decide) h (fun h => ?_) (fun h => ?_)
      · refine v_aload_n dX12_join_25 rfl 0 rfl ?_
        refine x_gR dX12_join_26 kf_X12_7 rfl h (fun r7 h => ?_)
        refine v_iload_n dX12_join_29 rfl 1 rfl ?_
        refine x_ldI dX12_join_30 h (fun x8 h => ?_)
        refine v_istore (ls2 := [(4, .int x8), (0, .ref v0), (1, .int v1), (2, .int v2), (3, .int v3)]) dX12_join_31 (by decide) rfl ?_
        refine v_iload dX12_join_33 0 rfl ?_
        refine v_aload_n dX12_join_35 rfl 1 rfl ?_
        refine x_gR dX12_join_36 kf_X12_7 rfl h (fun r9 h => ?_)
        refine v_iload_n dX12_join_39 rfl 3 rfl ?_
        refine x_ldI dX12_join_40 h (fun x10 h => ?_)
        refine v_iadd dX12_join_41 ?_
        refine x_jvI h (fun y11 h => ?_)
        refine v_istore (ls2 := [(5, .int y11), (4, .int x8), (0, .ref v0), (1, .int v1), (2, .int v2), (3, .int v3)]) dX12_join_42 (by decide) rfl ?_
        refine v_iload dX12_join_44 0 rfl ?_
        refine v_bipush dX12_join_46 bp_6 ?_
        refine x_ic_le (tgt := 54) dX12_join_48 (by decide) h (fun h => ?_) (fun h => ?_)
        · refine v_iconst dX12_join_54 ic_0 ?_
          refine v_istore (ls2 := [(6, .int (nI 0)), (5, .int y11), (4, .int x8), (0, .ref v0), (1, .int v1), (2, .int v2), (3, .int v3)]) dX12_join_55 (by decide) rfl ?_
          exact V.pick [3, 4, 5, 6, 2, 1, 0] rfl (t_X12_join_57 hd_ _ _ _ _ _ _ _ _ _ _ h)
        · refine v_bipush dX12_join_51 bp_m2 ?_
          exact x_iret dX12_join_53 rfl h
      · refine v_iconst dX12_join_23 ic_m1 ?_
        exact x_iret dX12_join_24 rfl h
    · refine v_iconst dX12_join_23 ic_m1 ?_
      exact x_iret dX12_join_24 rfl h
  · refine v_iconst dX12_join_23 ic_m1 ?_
    exact x_iret dX12_join_24 rfl h
def f_X12_kind (v0 : Nat) (v1 : Int32) (M : jM) : jO Int32 :=
  (gI 11 M v0 48).bind fun x1 =>
  jb2 (f_X12_in v1 (nI 0) (x1 - (nI 1)) M) fun x3 M2 =>
  if x3 = 0 then
    rt (-1 : Int32) M2
  else
    (gR 11 M2 v0 49).bind fun r4 =>
    (ldI M2 r4 v1).bind fun x5 =>
    rt x5 M2
theorem s_X12_kind {G : jG} {d : Nat} (hd_ : 1 ≤ d) {v0 : Nat} {v1 : Int32} {M : jM} {b : Int32 × jM} (h : f_X12_kind  v0 v1 M = some b) : V G m_X12_kind d 0 [(0, .ref v0), (1, .int v1)] [] M (jQb cI b) := by
  unfold f_X12_kind at h
  refine v_iload_n dX12_kind_0 rfl 1 rfl ?_
  refine v_iconst dX12_kind_1 ic_0 ?_
  refine v_aload_n dX12_kind_2 rfl 0 rfl ?_
  refine x_gI dX12_kind_3 kf_X12_380 rfl h (fun x1 h => ?_)
  refine v_iconst dX12_kind_6 ic_1 ?_
  refine v_isub dX12_kind_7 ?_
  refine x_invs (cv := cI) (As := [.int v1, .int (nI 0), .int (x1 - (nI 1))]) (rest := []) (ls2 := [(0, .int v1), (1, .int (nI 0)), (2, .int (x1 - (nI 1)))]) (by omega) dX12_kind_8 ke_X12_in ks_X12_133 (Nat.le_of_ble_eq_true rfl) rfl rfl rfl rfl h (fun _ hq => s_X12_in (by omega) hq) (fun x3 M2 h => ?_)
  refine x_if_eq (tgt := 23) dX12_kind_11 (by decide) h (fun h => ?_) (fun h => ?_)
  · refine v_iconst dX12_kind_23 ic_m1 ?_
    exact x_iret dX12_kind_24 rfl h
  · refine v_aload_n dX12_kind_14 rfl 0 rfl ?_
    refine x_gR dX12_kind_15 kf_X12_92 rfl h (fun r4 h => ?_)
    refine v_iload_n dX12_kind_18 rfl 1 rfl ?_
    refine x_ldI dX12_kind_19 h (fun x5 h => ?_)
    refine v_goto (tgt := 24) dX12_kind_20 (by decide) ?_
    exact x_iret dX12_kind_24 rfl h
def j_X12_kinds_193 (k53 : Nat → Int32 → Int32 → Int32 → Int32 → Int32 → jM → jO Int32) (k68 : Nat → Int32 → Int32 → Int32 → Int32 → Int32 → Int32 → Int32 → jM → jO Int32) (v0 : Nat) (v1 : Int32) (v2 : Int32) (v3 : Int32) (v4 : Int32) (v5 : Int32) (v7 : Int32) (s0 : Int32) (M : jM) : jO Int32 :=
  k68 v0 v1 v2 v3 v4 v5 s0 (v7 + (nI 1)) M
theorem t_X12_kinds_193 {G : jG} {d : Nat} (hd_ : 7 ≤ d) {k53 : Nat → Int32 → Int32 → Int32 → Int32 → Int32 → jM → jO Int32} (hk53 : ∀ (w0 : Nat) (w1 : Int32) (w2 : Int32) (w3 : Int32) (w4 : Int32) (w5 : Int32) (M : jM) (b : Int32 × jM), k53 w0 w1 w2 w3 w4 w5 M = some b → V G m_X12_kinds d 53 [(0, .ref w0), (1, .int w1), (2, .int w2), (3, .int w3), (4, .int w4), (5, .int w5)] [] M (jQb cI b)) {k68 : Nat → Int32 → Int32 → Int32 → Int32 → Int32 → Int32 → Int32 → jM → jO Int32} (hk68 : ∀ (w0 : Nat) (w1 : Int32) (w2 : Int32) (w3 : Int32) (w4 : Int32) (w5 : Int32) (w6 : Int32) (w7 : Int32) (M : jM) (b : Int32 × jM), k68 w0 w1 w2 w3 w4 w5 w6 w7 M = some b → V G m_X12_kinds d 68 [(0, .ref w0), (1, .int w1), (2, .int w2), (3, .int w3), (4, .int w4), (5, .int w5), (6, .int w6), (7, .int w7)] [] M (jQb cI b)) {v0 : Nat} {v1 : Int32} {v2 : Int32} {v3 : Int32} {v4 : Int32} {v5 : Int32} {v7 : Int32} {s0 : Int32} {M : jM} {b : Int32 × jM} (h : j_X12_kinds_193 k53 k68 v0 v1 v2 v3 v4 v5 v7 s0 M = some b) : V G m_X12_kinds d 193 [(0, .ref v0), (1, .int v1), (2, .int v2), (3, .int v3), (4, .int v4), (5, .int v5), (7, .int v7)] [.int s0] M (jQb cI b) := by
  unfold j_X12_kinds_193 at h
  refine v_istore (ls2 := [(6, .int s0), (0, .ref v0), (1, .int v1), (2, .int v2), (3, .int v3), (4, .int v4), (5, .int v5), (7, .int v7)]) dX12_kinds_193 (by decide) rfl ?_
  refine v_iincC (ls2 := [(7, .int (v7 + (nI 1))), (6, .int s0), (0, .ref v0), (1, .int v1), (2, .int v2), (3, .int v3), (4, .int v4), (5, .int v5)]) dX12_kinds_195 ic_1 7 rfl (by decide) rfl ?_
  refine v_goto (tgt := 68) dX12_kinds_198 (by decide) ?_
  exact V.pick [2, 3, 4, 5, 6, 7, 1, 0] rfl (hk68 _ _ _ _ _ _ _ _ _ _ h)
def j_X12_kinds_176 (k53 : Nat → Int32 → Int32 → Int32 → Int32 → Int32 → jM → jO Int32) (k68 : Nat → Int32 → Int32 → Int32 → Int32 → Int32 → Int32 → Int32 → jM → jO Int32) (v0 : Nat) (v1 : Int32) (v2 : Int32) (v3 : Int32) (v4 : Int32) (v5 : Int32) (v7 : Int32) (s0 : Nat) (s1 : Int32) (s2 : Int32) (M : jM) : jO Int32 :=
  jb2 (jiv 11 M s0 (f_X12_add s0 s1 s2 M)) fun _ M1 =>
  jb2 (jiv 11 M1 v0 (f_X12_keeps v0 v3 M1)) fun x3 M2 =>
  if x3 = 0 then
    j_X12_kinds_193 k53 k68 v0 v1 v2 v3 v4 v5 v7 (-1 : Int32) M2
  else
    j_X12_kinds_193 k53 k68 v0 v1 v2 v3 v4 v5 v7 v7 M2
theorem t_X12_kinds_176 {G : jG} {d : Nat} (hd_ : 7 ≤ d) {k53 : Nat → Int32 → Int32 → Int32 → Int32 → Int32 → jM → jO Int32} (hk53 : ∀ (w0 : Nat) (w1 : Int32) (w2 : Int32) (w3 : Int32) (w4 : Int32) (w5 : Int32) (M : jM) (b : Int32 × jM), k53 w0 w1 w2 w3 w4 w5 M = some b → V G m_X12_kinds d 53 [(0, .ref w0), (1, .int w1), (2, .int w2), (3, .int w3), (4, .int w4), (5, .int w5)] [] M (jQb cI b)) {k68 : Nat → Int32 → Int32 → Int32 → Int32 → Int32 → Int32 → Int32 → jM → jO Int32} (hk68 : ∀ (w0 : Nat) (w1 : Int32) (w2 : Int32) (w3 : Int32) (w4 : Int32) (w5 : Int32) (w6 : Int32) (w7 : Int32) (M : jM) (b : Int32 × jM), k68 w0 w1 w2 w3 w4 w5 w6 w7 M = some b → V G m_X12_kinds d 68 [(0, .ref w0), (1, .int w1), (2, .int w2), (3, .int w3), (4, .int w4), (5, .int w5), (6, .int w6), (7, .int w7)] [] M (jQb cI b)) {v0 : Nat} {v1 : Int32} {v2 : Int32} {v3 : Int32} {v4 : Int32} {v5 : Int32} {v7 : Int32} {s0 : Nat} {s1 : Int32} {s2 : Int32} {M : jM} {b : Int32 × jM} (h : j_X12_kinds_176 k53 k68 v0 v1 v2 v3 v4 v5 v7 s0 s1 s2 M = some b) : V G m_X12_kinds d 176 [(0, .ref v0), (1, .int v1), (2, .int v2), (3, .int v3), (4, .int v4), (5, .int v5), (7, .int v7)] [.int s2, .int s1, .ref s0] M (jQb cI b) := by
  unfold j_X12_kinds_176 at h
  refine x_inv (cv := cU) (As := [.int s1, .int s2]) (rest := []) (ls2 := [(0, .ref s0), (1, .int s1), (2, .int s2)]) (ci := 11) (by omega) dX12_kinds_176 ke_X12_add kv_X12_175 rfl rfl (by decide) (Nat.le_of_ble_eq_true rfl) rfl rfl rfl rfl h (fun _ hq => s_X12_add (by omega) hq) (fun _ M1 h => ?_)
  refine v_aload_n dX12_kinds_179 rfl 0 rfl ?_
  refine v_iload_n dX12_kinds_180 rfl 3 rfl ?_
  refine x_inv (cv := cI) (As := [.int v3]) (rest := []) (ls2 := [(0, .ref v0), (1, .int v3)]) (ci := 11) (by omega) dX12_kinds_181 ke_X12_keeps kv_X12_201 rfl rfl (by decide) (Nat.le_of_ble_eq_true rfl) rfl rfl rfl rfl h (fun _ hq => s_X12_keeps (by omega) hq) (fun x3 M2 h => ?_)
  refine x_if_eq (tgt := 192) dX12_kinds_184 (by decide) h (fun h => ?_) (fun h => ?_)
  · refine v_iconst dX12_kinds_192 ic_m1 ?_
    exact t_X12_kinds_193 hd_ hk53 hk68 h
  · refine v_iload dX12_kinds_187 6 rfl ?_
    refine v_goto (tgt := 193) dX12_kinds_189 (by decide) ?_
    exact t_X12_kinds_193 hd_ hk53 hk68 h
def j_X12_kinds_151 (k53 : Nat → Int32 → Int32 → Int32 → Int32 → Int32 → jM → jO Int32) (k68 : Nat → Int32 → Int32 → Int32 → Int32 → Int32 → Int32 → Int32 → jM → jO Int32) (v0 : Nat) (v1 : Int32) (v2 : Int32) (v3 : Int32) (v4 : Int32) (v5 : Int32) (v7 : Int32) (s0 : Nat) (s1 : Int32) (M : jM) : jO Int32 :=
  (gR 11 M v0 0).bind fun r1 =>
  (ldI M r1 v1).bind fun x2 =>
  if x2 ≤ v5 then
    (gR 11 M v0 0).bind fun r3 =>
    (ldI M r3 v1).bind fun x4 =>
    j_X12_kinds_176 k53 k68 v0 v1 v2 v3 v4 v5 v7 s0 s1 (v5 - x4) M
  else
    j_X12_kinds_176 k53 k68 v0 v1 v2 v3 v4 v5 v7 s0 s1 v5 M
theorem t_X12_kinds_151 {G : jG} {d : Nat} (hd_ : 7 ≤ d) {k53 : Nat → Int32 → Int32 → Int32 → Int32 → Int32 → jM → jO Int32} (hk53 : ∀ (w0 : Nat) (w1 : Int32) (w2 : Int32) (w3 : Int32) (w4 : Int32) (w5 : Int32) (M : jM) (b : Int32 × jM), k53 w0 w1 w2 w3 w4 w5 M = some b → V G m_X12_kinds d 53 [(0, .ref w0), (1, .int w1), (2, .int w2), (3, .int w3), (4, .int w4), (5, .int w5)] [] M (jQb cI b)) {k68 : Nat → Int32 → Int32 → Int32 → Int32 → Int32 → Int32 → Int32 → jM → jO Int32} (hk68 : ∀ (w0 : Nat) (w1 : Int32) (w2 : Int32) (w3 : Int32) (w4 : Int32) (w5 : Int32) (w6 : Int32) (w7 : Int32) (M : jM) (b : Int32 × jM), k68 w0 w1 w2 w3 w4 w5 w6 w7 M = some b → V G m_X12_kinds d 68 [(0, .ref w0), (1, .int w1), (2, .int w2), (3, .int w3), (4, .int w4), (5, .int w5), (6, .int w6), (7, .int w7)] [] M (jQb cI b)) {v0 : Nat} {v1 : Int32} {v2 : Int32} {v3 : Int32} {v4 : Int32} {v5 : Int32} {v7 : Int32} {s0 : Nat} {s1 : Int32} {M : jM} {b : Int32 × jM} (h : j_X12_kinds_151 k53 k68 v0 v1 v2 v3 v4 v5 v7 s0 s1 M = some b) : V G m_X12_kinds d 151 [(0, .ref v0), (1, .int v1), (2, .int v2), (3, .int v3), (4, .int v4), (5, .int v5), (7, .int v7)] [.int s1, .ref s0] M (jQb cI b) := by
  unfold j_X12_kinds_151 at h
  refine v_iload dX12_kinds_151 5 rfl ?_
  refine v_aload_n dX12_kinds_153 rfl 0 rfl ?_
  refine x_gR dX12_kinds_154 kf_X12_7 rfl h (fun r1 h => ?_)
  refine v_iload_n dX12_kinds_157 rfl 1 rfl ?_
  refine x_ldI dX12_kinds_158 h (fun x2 h => ?_)
  refine x_ic_ge (tgt := 167) dX12_kinds_159 (by decide) h (fun h => ?_) (fun h => ?_)
  · refine v_iload dX12_kinds_167 5 rfl ?_
    refine v_aload_n dX12_kinds_169 rfl 0 rfl ?_
    refine x_gR dX12_kinds_170 kf_X12_7 rfl h (fun r3 h => ?_)
    refine v_iload_n dX12_kinds_173 rfl 1 rfl ?_
    refine x_ldI dX12_kinds_174 h (fun x4 h => ?_)
    refine v_isub dX12_kinds_175 ?_
    exact t_X12_kinds_176 hd_ hk53 hk68 h
  · refine v_iload dX12_kinds_162 5 rfl ?_
    refine v_goto (tgt := 176) dX12_kinds_164 (by decide) ?_
    exact t_X12_kinds_176 hd_ hk53 hk68 h
def j_X12_kinds_122 (k53 : Nat → Int32 → Int32 → Int32 → Int32 → Int32 → jM → jO Int32) (k68 : Nat → Int32 → Int32 → Int32 → Int32 → Int32 → Int32 → Int32 → jM → jO Int32) (v0 : Nat) (v1 : Int32) (v2 : Int32) (v3 : Int32) (v4 : Int32) (v5 : Int32) (v7 : Int32) (v8 : Int32) (s0 : Nat) (s1 : Int32) (s2 : Int32) (M : jM) : jO Int32 :=
  jb2 (jiv 11 M s0 (f_X12_begin s0 s1 s2 M)) fun _ M1 =>
  (gR 11 M1 v0 0).bind fun r2 =>
  (ldI M1 r2 v1).bind fun x3 =>
  if x3 ≤ v8 then
    (gR 11 M1 v0 0).bind fun r4 =>
    (ldI M1 r4 v1).bind fun x5 =>
    j_X12_kinds_151 k53 k68 v0 v1 v2 v3 v4 v5 v7 v0 (v8 - x5) M1
  else
    j_X12_kinds_151 k53 k68 v0 v1 v2 v3 v4 v5 v7 v0 v8 M1
theorem t_X12_kinds_122 {G : jG} {d : Nat} (hd_ : 7 ≤ d) {k53 : Nat → Int32 → Int32 → Int32 → Int32 → Int32 → jM → jO Int32} (hk53 : ∀ (w0 : Nat) (w1 : Int32) (w2 : Int32) (w3 : Int32) (w4 : Int32) (w5 : Int32) (M : jM) (b : Int32 × jM), k53 w0 w1 w2 w3 w4 w5 M = some b → V G m_X12_kinds d 53 [(0, .ref w0), (1, .int w1), (2, .int w2), (3, .int w3), (4, .int w4), (5, .int w5)] [] M (jQb cI b)) {k68 : Nat → Int32 → Int32 → Int32 → Int32 → Int32 → Int32 → Int32 → jM → jO Int32} (hk68 : ∀ (w0 : Nat) (w1 : Int32) (w2 : Int32) (w3 : Int32) (w4 : Int32) (w5 : Int32) (w6 : Int32) (w7 : Int32) (M : jM) (b : Int32 × jM), k68 w0 w1 w2 w3 w4 w5 w6 w7 M = some b → V G m_X12_kinds d 68 [(0, .ref w0), (1, .int w1), (2, .int w2), (3, .int w3), (4, .int w4), (5, .int w5), (6, .int w6), (7, .int w7)] [] M (jQb cI b)) {v0 : Nat} {v1 : Int32} {v2 : Int32} {v3 : Int32} {v4 : Int32} {v5 : Int32} {v7 : Int32} {v8 : Int32} {s0 : Nat} {s1 : Int32} {s2 : Int32} {M : jM} {b : Int32 × jM} (h : j_X12_kinds_122 k53 k68 v0 v1 v2 v3 v4 v5 v7 v8 s0 s1 s2 M = some b) : V G m_X12_kinds d 122 [(0, .ref v0), (1, .int v1), (2, .int v2), (3, .int v3), (4, .int v4), (5, .int v5), (7, .int v7), (8, .int v8)] [.int s2, .int s1, .ref s0] M (jQb cI b) := by
  unfold j_X12_kinds_122 at h
  refine x_inv (cv := cU) (As := [.int s1, .int s2]) (rest := []) (ls2 := [(0, .ref s0), (1, .int s1), (2, .int s2)]) (ci := 11) (by omega) dX12_kinds_122 ke_X12_begin kv_X12_198 rfl rfl (by decide) (Nat.le_of_ble_eq_true rfl) rfl rfl rfl rfl h (fun _ hq => s_X12_begin (by omega) hq) (fun _ M1 h => ?_)
  refine v_aload_n dX12_kinds_125 rfl 0 rfl ?_
  refine v_iload dX12_kinds_126 7 rfl ?_
  refine v_aload_n dX12_kinds_128 rfl 0 rfl ?_
  refine x_gR dX12_kinds_129 kf_X12_7 rfl h (fun r2 h => ?_)
  refine v_iload_n dX12_kinds_132 rfl 1 rfl ?_
  refine x_ldI dX12_kinds_133 h (fun x3 h => ?_)
  refine x_ic_ge (tgt := 142) dX12_kinds_134 (by decide) h (fun h => ?_) (fun h => ?_)
  · refine v_iload dX12_kinds_142 7 rfl ?_
    refine v_aload_n dX12_kinds_144 rfl 0 rfl ?_
    refine x_gR dX12_kinds_145 kf_X12_7 rfl h (fun r4 h => ?_)
    refine v_iload_n dX12_kinds_148 rfl 1 rfl ?_
    refine x_ldI dX12_kinds_149 h (fun x5 h => ?_)
    refine v_isub dX12_kinds_150 ?_
    exact V.pick [0, 1, 2, 3, 4, 5, 6] rfl (t_X12_kinds_151 hd_ hk53 hk68 h)
  · refine v_iload dX12_kinds_137 7 rfl ?_
    refine v_goto (tgt := 151) dX12_kinds_139 (by decide) ?_
    exact V.pick [0, 1, 2, 3, 4, 5, 6] rfl (t_X12_kinds_151 hd_ hk53 hk68 h)
def j_X12_kinds_106 (k53 : Nat → Int32 → Int32 → Int32 → Int32 → Int32 → jM → jO Int32) (k68 : Nat → Int32 → Int32 → Int32 → Int32 → Int32 → Int32 → Int32 → jM → jO Int32) (v0 : Nat) (v1 : Int32) (v2 : Int32) (v3 : Int32) (v4 : Int32) (v5 : Int32) (v7 : Int32) (v8 : Int32) (s0 : Nat) (s1 : Int32) (M : jM) : jO Int32 :=
  (gR 11 M v0 0).bind fun r1 =>
  (ldI M r1 v1).bind fun x2 =>
  if x2 ≤ v5 then
    j_X12_kinds_122 k53 k68 v0 v1 v2 v3 v4 v5 v7 v8 s0 s1 v2 M
  else
    j_X12_kinds_122 k53 k68 v0 v1 v2 v3 v4 v5 v7 v8 s0 s1 v1 M
theorem t_X12_kinds_106 {G : jG} {d : Nat} (hd_ : 7 ≤ d) {k53 : Nat → Int32 → Int32 → Int32 → Int32 → Int32 → jM → jO Int32} (hk53 : ∀ (w0 : Nat) (w1 : Int32) (w2 : Int32) (w3 : Int32) (w4 : Int32) (w5 : Int32) (M : jM) (b : Int32 × jM), k53 w0 w1 w2 w3 w4 w5 M = some b → V G m_X12_kinds d 53 [(0, .ref w0), (1, .int w1), (2, .int w2), (3, .int w3), (4, .int w4), (5, .int w5)] [] M (jQb cI b)) {k68 : Nat → Int32 → Int32 → Int32 → Int32 → Int32 → Int32 → Int32 → jM → jO Int32} (hk68 : ∀ (w0 : Nat) (w1 : Int32) (w2 : Int32) (w3 : Int32) (w4 : Int32) (w5 : Int32) (w6 : Int32) (w7 : Int32) (M : jM) (b : Int32 × jM), k68 w0 w1 w2 w3 w4 w5 w6 w7 M = some b → V G m_X12_kinds d 68 [(0, .ref w0), (1, .int w1), (2, .int w2), (3, .int w3), (4, .int w4), (5, .int w5), (6, .int w6), (7, .int w7)] [] M (jQb cI b)) {v0 : Nat} {v1 : Int32} {v2 : Int32} {v3 : Int32} {v4 : Int32} {v5 : Int32} {v7 : Int32} {v8 : Int32} {s0 : Nat} {s1 : Int32} {M : jM} {b : Int32 × jM} (h : j_X12_kinds_106 k53 k68 v0 v1 v2 v3 v4 v5 v7 v8 s0 s1 M = some b) : V G m_X12_kinds d 106 [(0, .ref v0), (1, .int v1), (2, .int v2), (3, .int v3), (4, .int v4), (5, .int v5), (7, .int v7), (8, .int v8)] [.int s1, .ref s0] M (jQb cI b) := by
  unfold j_X12_kinds_106 at h
  refine v_iload dX12_kinds_106 5 rfl ?_
  refine v_aload_n dX12_kinds_108 rfl 0 rfl ?_
  refine x_gR dX12_kinds_109 kf_X12_7 rfl h (fun r1 h => ?_)
  refine v_iload_n dX12_kinds_112 rfl 1 rfl ?_
  refine x_ldI dX12_kinds_113 h (fun x2 h => ?_)
  refine x_ic_ge (tgt := 121) dX12_kinds_114 (by decide) h (fun h => ?_) (fun h => ?_)
  · refine v_iload_n dX12_kinds_121 rfl 2 rfl ?_
    exact t_X12_kinds_122 hd_ hk53 hk68 h
  · refine v_iload_n dX12_kinds_117 rfl 1 rfl ?_
    refine v_goto (tgt := 122) dX12_kinds_118 (by decide) ?_
    exact t_X12_kinds_122 hd_ hk53 hk68 h
def j_X12_kinds_222 (k53 : Nat → Int32 → Int32 → Int32 → Int32 → Int32 → jM → jO Int32) (v0 : Nat) (v1 : Int32) (v2 : Int32) (v3 : Int32) (v4 : Int32) (v5 : Int32) (v6 : Int32) (M : jM) : jO Int32 :=
  (gR 11 M v0 49).bind fun r1 =>
  (stI M r1 v5 v6).bind fun M2 =>
  k53 v0 v1 v2 v3 v4 (v5 + (nI 1)) M2
theorem t_X12_kinds_222 {G : jG} {d : Nat} (hd_ : 7 ≤ d) {k53 : Nat → Int32 → Int32 → Int32 → Int32 → Int32 → jM → jO Int32} (hk53 : ∀ (w0 : Nat) (w1 : Int32) (w2 : Int32) (w3 : Int32) (w4 : Int32) (w5 : Int32) (M : jM) (b : Int32 × jM), k53 w0 w1 w2 w3 w4 w5 M = some b → V G m_X12_kinds d 53 [(0, .ref w0), (1, .int w1), (2, .int w2), (3, .int w3), (4, .int w4), (5, .int w5)] [] M (jQb cI b)) {v0 : Nat} {v1 : Int32} {v2 : Int32} {v3 : Int32} {v4 : Int32} {v5 : Int32} {v6 : Int32} {M : jM} {b : Int32 × jM} (h : j_X12_kinds_222 k53 v0 v1 v2 v3 v4 v5 v6 M = some b) : V G m_X12_kinds d 222 [(0, .ref v0), (1, .int v1), (2, .int v2), (3, .int v3), (4, .int v4), (5, .int v5), (6, .int v6)] [] M (jQb cI b) := by
  unfold j_X12_kinds_222 at h
  refine v_aload_n dX12_kinds_222 rfl 0 rfl ?_
  refine x_gR dX12_kinds_223 kf_X12_92 rfl h (fun r1 h => ?_)
  refine v_iload dX12_kinds_226 5 rfl ?_
  refine v_iload dX12_kinds_228 6 rfl ?_
  refine x_stI dX12_kinds_230 h (fun M2 h => ?_)
  refine v_iincC (ls2 := [(5, .int (v5 + (nI 1))), (0, .ref v0), (1, .int v1), (2, .int v2), (3, .int v3), (4, .int v4), (6, .int v6)]) dX12_kinds_231 ic_1 5 rfl (by decide) rfl ?_
  refine v_goto (tgt := 53) dX12_kinds_234 (by decide) ?_
  exact V.pick [1, 2, 3, 4, 5, 0] rfl (hk53 _ _ _ _ _ _ _ _ h)
def j_X12_kinds_201 (k53 : Nat → Int32 → Int32 → Int32 → Int32 → Int32 → jM → jO Int32) (v0 : Nat) (v1 : Int32) (v2 : Int32) (v3 : Int32) (v4 : Int32) (v5 : Int32) (v6 : Int32) (M : jM) : jO Int32 :=
  if 0 ≤ v6 then
    j_X12_kinds_222 k53 v0 v1 v2 v3 v4 v5 v6 M
  else
    (gR 11 M v0 50).bind fun r1 =>
    (stI M r1 v4 v5).bind fun M2 =>
    j_X12_kinds_222 k53 v0 v1 v2 v3 (v4 + (nI 1)) v5 v4 M2
theorem t_X12_kinds_201 {G : jG} {d : Nat} (hd_ : 7 ≤ d) {k53 : Nat → Int32 → Int32 → Int32 → Int32 → Int32 → jM → jO Int32} (hk53 : ∀ (w0 : Nat) (w1 : Int32) (w2 : Int32) (w3 : Int32) (w4 : Int32) (w5 : Int32) (M : jM) (b : Int32 × jM), k53 w0 w1 w2 w3 w4 w5 M = some b → V G m_X12_kinds d 53 [(0, .ref w0), (1, .int w1), (2, .int w2), (3, .int w3), (4, .int w4), (5, .int w5)] [] M (jQb cI b)) {v0 : Nat} {v1 : Int32} {v2 : Int32} {v3 : Int32} {v4 : Int32} {v5 : Int32} {v6 : Int32} {M : jM} {b : Int32 × jM} (h : j_X12_kinds_201 k53 v0 v1 v2 v3 v4 v5 v6 M = some b) : V G m_X12_kinds d 201 [(0, .ref v0), (1, .int v1), (2, .int v2), (3, .int v3), (4, .int v4), (5, .int v5), (6, .int v6)] [] M (jQb cI b) := by
  unfold j_X12_kinds_201 at h
  refine v_iload dX12_kinds_201 6 rfl ?_
  refine x_if_ge (tgt := 222) dX12_kinds_203 (by decide) h (fun h => ?_) (fun h => ?_)
  · exact t_X12_kinds_222 hd_ hk53 h
  · refine v_iload dX12_kinds_206 4 rfl ?_
    refine v_istore (ls2 := [(6, .int v4), (0, .ref v0), (1, .int v1), (2, .int v2), (3, .int v3), (4, .int v4), (5, .int v5)]) dX12_kinds_208 (by decide) rfl ?_
    refine v_aload_n dX12_kinds_210 rfl 1 rfl ?_
    refine x_gR dX12_kinds_211 kf_X12_95 rfl h (fun r1 h => ?_)
    refine v_iload dX12_kinds_214 5 rfl ?_
    refine v_iload dX12_kinds_216 6 rfl ?_
    refine x_stI dX12_kinds_218 h (fun M2 h => ?_)
    refine v_iincC (ls2 := [(4, .int (v4 + (nI 1))), (6, .int v4), (0, .ref v0), (1, .int v1), (2, .int v2), (3, .int v3), (5, .int v5)]) dX12_kinds_219 ic_1 5 rfl (by decide) rfl ?_
    exact V.pick [2, 3, 4, 5, 0, 6, 1] rfl (t_X12_kinds_222 hd_ hk53 h)
def b_X12_kinds_68 (k53 : Nat → Int32 → Int32 → Int32 → Int32 → Int32 → jM → jO Int32) (k68 : Nat → Int32 → Int32 → Int32 → Int32 → Int32 → Int32 → Int32 → jM → jO Int32) (v0 : Nat) (v1 : Int32) (v2 : Int32) (v3 : Int32) (v4 : Int32) (v5 : Int32) (v6 : Int32) (v7 : Int32) (M : jM) : jO Int32 :=
  if v4 ≤ v7 then
    j_X12_kinds_201 k53 v0 v1 v2 v3 v4 v5 v6 M
  else
    if 0 ≤ v6 then
      j_X12_kinds_201 k53 v0 v1 v2 v3 v4 v5 v6 M
    else
      (gR 11 M v0 50).bind fun r1 =>
      (ldI M r1 v7).bind fun x2 =>
      (gR 11 M v0 0).bind fun r3 =>
      (ldI M r3 v1).bind fun x4 =>
      if x4 ≤ x2 then
        j_X12_kinds_106 k53 k68 v0 v1 v2 v3 v4 v5 v7 x2 v0 v2 M
      else
        j_X12_kinds_106 k53 k68 v0 v1 v2 v3 v4 v5 v7 x2 v0 v1 M
def l_X12_kinds_68 (k53 : Nat → Int32 → Int32 → Int32 → Int32 → Int32 → jM → jO Int32) : Nat → Nat → Int32 → Int32 → Int32 → Int32 → Int32 → Int32 → Int32 → jM → jO Int32
  | 0 => fun _ _ _ _ _ _ _ _ _ => none
  | n + 1 => b_X12_kinds_68 k53 (l_X12_kinds_68 k53 n)
theorem tb_X12_kinds_68 {G : jG} {d : Nat} (hd_ : 7 ≤ d) {k53 : Nat → Int32 → Int32 → Int32 → Int32 → Int32 → jM → jO Int32} (hk53 : ∀ (w0 : Nat) (w1 : Int32) (w2 : Int32) (w3 : Int32) (w4 : Int32) (w5 : Int32) (M : jM) (b : Int32 × jM), k53 w0 w1 w2 w3 w4 w5 M = some b → V G m_X12_kinds d 53 [(0, .ref w0), (1, .int w1), (2, .int w2), (3, .int w3), (4, .int w4), (5, .int w5)] [] M (jQb cI b)) {k68 : Nat → Int32 → Int32 → Int32 → Int32 → Int32 → Int32 → Int32 → jM → jO Int32} (hk68 : ∀ (w0 : Nat) (w1 : Int32) (w2 : Int32) (w3 : Int32) (w4 : Int32) (w5 : Int32) (w6 : Int32) (w7 : Int32) (M : jM) (b : Int32 × jM), k68 w0 w1 w2 w3 w4 w5 w6 w7 M = some b → V G m_X12_kinds d 68 [(0, .ref w0), (1, .int w1), (2, .int w2), (3, .int w3), (4, .int w4), (5, .int w5), (6, .int w6), (7, .int w7)] [] M (jQb cI b)) {v0 : Nat} {v1 : Int32} {v2 : Int32} {v3 : Int32} {v4 : Int32} {v5 : Int32} {v6 : Int32} {v7 : Int32} {M : jM} {b : Int32 × jM} (h : b_X12_kinds_68 k53 k68 v0 v1 v2 v3 v4 v5 v6 v7 M = some b) : V G m_X12_kinds d 68 [(0, .ref v0), (1, .int v1), (2, .int v2), (3, .int v3), (4, .int v4), (5, .int v5), (6, .int v6), (7, .int v7)] [] M (jQb cI b) := by
  unfold b_X12_kinds_68 at h
  refine v_iload dX12_kinds_68 7 rfl ?_
  refine v_iload dX12_kinds_70 4 rfl ?_
  refine x_ic_ge (tgt := 201) dX12_kinds_72 (by decide) h (fun h => ?_) (fun h => ?_)
  · exact V.pick [0, 1, 2, 3, 4, 5, 6] rfl (t_X12_kinds_201 hd_ hk53 h)
  · refine v_iload dX12_kinds_75 6 rfl ?_
    refine x_if_ge (tgt := 201) dX12_kinds_77 (by decide) h (fun h => ?_) (fun h => ?_)
    · exact V.pick [0, 1, 2, 3, 4, 5, 6] rfl (t_X12_kinds_201 hd_ hk53 h)
    · refine v_aload_n dX12_kinds_80 rfl 0 rfl ?_
      refine x_gR dX12_kinds_81 kf_X12_95 rfl h (fun r1 h => ?_)
      refine v_iload dX12_kinds_84 7 rfl ?_
      refine x_ldI dX12_kinds_86 h (fun x2 h => ?_)
      refine v_istore (ls2 := [(8, .int x2), (0, .ref v0), (1, .int v1), (2, .int v2), (3, .int v3), (4, .int v4), (5, .int v5), (6, .int v6), (7, .int v7)]) dX12_kinds_87 (by decide) rfl ?_
      refine v_aload_n dX12_kinds_89 rfl 1 rfl ?_
      refine v_iload dX12_kinds_90 0 rfl ?_
      refine v_aload_n dX12_kinds_92 rfl 1 rfl ?_
      refine x_gR dX12_kinds_93 kf_X12_7 rfl h (fun r3 h => ?_)
      refine v_iload_n dX12_kinds_96 rfl 2 rfl ?_
      refine x_ldI dX12_kinds_97 h (fun x4 h => ?_)
      refine x_ic_ge (tgt := 105) dX12_kinds_98 (by decide) h (fun h => ?_) (fun h => ?_)
      · refine v_iload_n dX12_kinds_105 rfl 3 rfl ?_
        exact V.pick [1, 2, 3, 4, 5, 6, 8, 0] rfl (t_X12_kinds_106 hd_ hk53 hk68 h)
      · refine v_iload_n dX12_kinds_101 rfl 2 rfl ?_
        refine v_goto (tgt := 106) dX12_kinds_102 (by decide) ?_
        exact V.pick [1, 2, 3, 4, 5, 6, 8, 0] rfl (t_X12_kinds_106 hd_ hk53 hk68 h)
theorem t_X12_kinds_68 {G : jG} {d : Nat} (hd_ : 7 ≤ d) {k53 : Nat → Int32 → Int32 → Int32 → Int32 → Int32 → jM → jO Int32} (hk53 : ∀ (w0 : Nat) (w1 : Int32) (w2 : Int32) (w3 : Int32) (w4 : Int32) (w5 : Int32) (M : jM) (b : Int32 × jM), k53 w0 w1 w2 w3 w4 w5 M = some b → V G m_X12_kinds d 53 [(0, .ref w0), (1, .int w1), (2, .int w2), (3, .int w3), (4, .int w4), (5, .int w5)] [] M (jQb cI b)) : ∀ (n : Nat) (v0 : Nat) (v1 : Int32) (v2 : Int32) (v3 : Int32) (v4 : Int32) (v5 : Int32) (v6 : Int32) (v7 : Int32) (M : jM) (b : Int32 × jM), l_X12_kinds_68 k53 n v0 v1 v2 v3 v4 v5 v6 v7 M = some b → V G m_X12_kinds d 68 [(0, .ref v0), (1, .int v1), (2, .int v2), (3, .int v3), (4, .int v4), (5, .int v5), (6, .int v6), (7, .int v7)] [] M (jQb cI b) := by
  intro n
  induction n with
  | zero => intro v0 v1 v2 v3 v4 v5 v6 v7 M b h; exact nomatch (show (none : jO Int32) = some b from h)
  | succ n ih => intro v0 v1 v2 v3 v4 v5 v6 v7 M b h; exact tb_X12_kinds_68 hd_ hk53 ih h
def b_X12_kinds_53  (k53 : Nat → Int32 → Int32 → Int32 → Int32 → Int32 → jM → jO Int32) (v0 : Nat) (v1 : Int32) (v2 : Int32) (v3 : Int32) (v4 : Int32) (v5 : Int32) (M : jM) : jO Int32 :=
  (gI 11 M v0 48).bind fun x1 =>
  if x1 ≤ v5 then
    rt v4 M
  else
    l_X12_kinds_68 k53 jF0 v0 v1 v2 v3 v4 v5 (-1 : Int32) (nI 0) M
def l_X12_kinds_53  : Nat → Nat → Int32 → Int32 → Int32 → Int32 → Int32 → jM → jO Int32
  | 0 => fun _ _ _ _ _ _ _ => none
  | n + 1 => b_X12_kinds_53  (l_X12_kinds_53  n)
theorem tb_X12_kinds_53 {G : jG} {d : Nat} (hd_ : 7 ≤ d)  {k53 : Nat → Int32 → Int32 → Int32 → Int32 → Int32 → jM → jO Int32} (hk53 : ∀ (w0 : Nat) (w1 : Int32) (w2 : Int32) (w3 : Int32) (w4 : Int32) (w5 : Int32) (M : jM) (b : Int32 × jM), k53 w0 w1 w2 w3 w4 w5 M = some b → V G m_X12_kinds d 53 [(0, .ref w0), (1, .int w1), (2, .int w2), (3, .int w3), (4, .int w4), (5, .int w5)] [] M (jQb cI b)) {v0 : Nat} {v1 : Int32} {v2 : Int32} {v3 : Int32} {v4 : Int32} {v5 : Int32} {M : jM} {b : Int32 × jM} (h : b_X12_kinds_53  k53 v0 v1 v2 v3 v4 v5 M = some b) : V G m_X12_kinds d 53 [(0, .ref v0), (1, .int v1), (2, .int v2), (3, .int v3), (4, .int v4), (5, .int v5)] [] M (jQb cI b) := by
  unfold b_X12_kinds_53 at h
  refine v_iload dX12_kinds_53 5 rfl ?_
  refine v_aload_n dX12_kinds_55 rfl 0 rfl ?_
  refine x_gI dX12_kinds_56 kf_X12_380 rfl h (fun x1 h => ?_)
  refine x_ic_ge (tgt := 237) dX12_kinds_59 (by decide) h (fun h => ?_) (fun h => ?_)
  · refine v_iload dX12_kinds_237 4 rfl ?_
    exact x_iret dX12_kinds_239 rfl h
  · refine v_iconst dX12_kinds_62 ic_m1 ?_
    refine v_istore (ls2 := [(6, .int (-1 : Int32)), (0, .ref v0), (1, .int v1), (2, .int v2), (3, .int v3), (4, .int v4), (5, .int v5)]) dX12_kinds_63 (by decide) rfl ?_
    refine v_iconst dX12_kinds_65 ic_0 ?_
    refine v_istore (ls2 := [(7, .int (nI 0)), (6, .int (-1 : Int32)), (0, .ref v0), (1, .int v1), (2, .int v2), (3, .int v3), (4, .int v4), (5, .int v5)]) dX12_kinds_66 (by decide) rfl ?_
    exact V.pick [2, 3, 4, 5, 6, 7, 1, 0] rfl (t_X12_kinds_68 hd_ hk53 _ _ _ _ _ _ _ _ _ _ _ h)
theorem t_X12_kinds_53 {G : jG} {d : Nat} (hd_ : 7 ≤ d)  : ∀ (n : Nat) (v0 : Nat) (v1 : Int32) (v2 : Int32) (v3 : Int32) (v4 : Int32) (v5 : Int32) (M : jM) (b : Int32 × jM), l_X12_kinds_53  n v0 v1 v2 v3 v4 v5 M = some b → V G m_X12_kinds d 53 [(0, .ref v0), (1, .int v1), (2, .int v2), (3, .int v3), (4, .int v4), (5, .int v5)] [] M (jQb cI b) := by
  intro n
  induction n with
  | zero => intro v0 v1 v2 v3 v4 v5 M b h; exact nomatch (show (none : jO Int32) = some b from h)
  | succ n ih => intro v0 v1 v2 v3 v4 v5 M b h; exact tb_X12_kinds_53 hd_  ih h
def f_X12_kinds (v0 : Nat) (v1 : Int32) (v2 : Int32) (v3 : Int32) (M : jM) : jO Int32 :=
  jb2 (jiv 11 M v0 (f_X12_noWorld v0 v1 M)) fun x2 M1 =>
  if x2 = 0 then
    jb2 (jiv 11 M1 v0 (f_X12_noWorld v0 v2 M1)) fun x4 M3 =>
    if x4 = 0 then
      jb2 (f_X12_in v3 (nI 0) (nI 2) M3) fun x6 M5 =>
      if x6 = 0 then
        rt (-2 : Int32) M5
      else
        (gR 11 M5 v0 0).bind fun r7 =>
        (ldI M5 r7 v1).bind fun x8 =>
        (gR 11 M5 v0 0).bind fun r9 =>
        (ldI M5 r9 v2).bind fun x10 =>
        (pI 11 M5 v0 48 (x8 + x10)).bind fun M11 =>
        l_X12_kinds_53 jF0 v0 v1 v2 v3 (nI 0) (nI 0) M11
    else
      rt (-1 : Int32) M3
  else
    rt (-1 : Int32) M1
theorem s_X12_kinds {G : jG} {d : Nat} (hd_ : 7 ≤ d) {v0 : Nat} {v1 : Int32} {v2 : Int32} {v3 : Int32} {M : jM} {b : Int32 × jM} (h : f_X12_kinds  v0 v1 v2 v3 M = some b) : V G m_X12_kinds d 0 [(0, .ref v0), (1, .int v1), (2, .int v2), (3, .int v3)] [] M (jQb cI b) := by
  unfold f_X12_kinds at h
  refine v_aload_n dX12_kinds_0 rfl 0 rfl ?_
  refine v_iload_n dX12_kinds_1 rfl 1 rfl ?_
  refine x_inv (cv := cI) (As := [.int v1]) (rest := []) (ls2 := [(0, .ref v0), (1, .int v1)]) (ci := 11) (by omega) dX12_kinds_2 ke_X12_noWorld kv_X12_141 rfl rfl (by decide) (Nat.le_of_ble_eq_true rfl) rfl rfl rfl rfl h (fun _ hq => s_X12_noWorld (by omega) hq) (fun x2 M1 h => ?_)
  refine x_if_ne (tgt := 16) dX12_kinds_5 (by decide) h (fun h => ?_) (fun h => ?_)
  · refine v_aload_n dX12_kinds_8 rfl 0 rfl ?_
    refine v_iload_n dX12_kinds_9 rfl 2 rfl ?_
    refine x_inv (cv := cI) (As := [.int v2]) (rest := []) (ls2 := [(0, .ref v0), (1, .int v2)]) (ci := 11) (by omega) dX12_kinds_10 ke_X12_noWorld kv_X12_141 rfl rfl (by decide) (Nat.le_of_ble_eq_true rfl) rfl rfl rfl rfl h (fun _ hq => s_X12_noWorld (by omega) hq) (fun x4 M3 h => ?_)
    refine x_if_eq (tgt := 18) dX12_kinds_13 (by decide) h (fun h => ?_) (fun h => ?_)
    · refine v_iload_n dX12_kinds_18 rfl 3 rfl ?_
      refine v_iconst dX12_kinds_19 ic_0 ?_
      refine v_iconst dX12_kinds_20 ic_2 ?_
      refine x_invs (cv := cI) (As := [.int v3, .int (nI 0), .int (nI 2)]) (rest := []) (ls2 := [(0, .int v3), (1, .int (nI 0)), (2, .int (nI 2))]) (by omega) dX12_kinds_21 ke_X12_in ks_X12_133 (Nat.le_of_ble_eq_true rfl) rfl rfl rfl rfl h (fun _ hq => s_X12_in (by omega) hq) (fun x6 M5 h => ?_)
      refine x_if_ne (tgt := 30) dX12_kinds_24 (by decide) h (fun h => ?_) (fun h => ?_)
      · refine v_bipush dX12_kinds_27 bp_m2 ?_
        exact x_iret dX12_kinds_29 rfl h
      · refine v_aload_n dX12_kinds_30 rfl 0 rfl ?_
        refine v_aload_n dX12_kinds_31 rfl 0 rfl ?_
        refine x_gR dX12_kinds_32 kf_X12_7 rfl h (fun r7 h => ?_)
        refine v_iload_n dX12_kinds_35 rfl 1 rfl ?_
        refine x_ldI dX12_kinds_36 h (fun x8 h => ?_)
        refine v_aload_n dX12_kinds_37 rfl 0 rfl ?_
        refine x_gR dX12_kinds_38 kf_X12_7 rfl h (fun r9 h => ?_)
        refine v_iload_n dX12_kinds_41 rfl 2 rfl ?_
        refine x_ldI dX12_kinds_42 h (fun x10 h => ?_)
        refine v_iadd dX12_kinds_43 ?_
        refine x_pI dX12_kinds_44 kf_X12_380 rfl (fun q => Bool.noConfusion q) h (fun M11 h => ?_)
        refine v_iconst dX12_kinds_47 ic_0 ?_
        refine v_istore (ls2 := [(4, .int (nI 0)), (0, .ref v0), (1, .int v1), (2, .int v2), (3, .int v3)]) dX12_kinds_48 (by decide) rfl ?_
        refine v_iconst dX12_kinds_50 ic_0 ?_
        refine v_istore (ls2 := [(5, .int (nI 0)), (4, .int (nI 0)), (0, .ref v0), (1, .int v1), (2, .int v2), (3, .int v3)]) dX12_kinds_51 (by decide) rfl ?_
        exact V.pick [2, 3, 4, 5, 1, 0] rfl (t_X12_kinds_53 hd_ _ _ _ _ _ _ _ _ _ h)
    · refine v_iconst dX12_kinds_16 ic_m1 ?_
      exact x_iret dX12_kinds_17 rfl h
  · refine v_iconst dX12_kinds_16 ic_m1 ?_
    exact x_iret dX12_kinds_17 rfl h
def f_X12_left (v0 : Nat) (M : jM) : jO Int32 :=
  (gI 11 M v0 10).bind fun x1 =>
  if x1 = 0 then
    rt (-3 : Int32) M
  else
    (gI 11 M v0 11).bind fun x2 =>
    rt x2 M
theorem s_X12_left {G : jG} {d : Nat} (hd_ : 0 ≤ d) {v0 : Nat} {M : jM} {b : Int32 × jM} (h : f_X12_left  v0 M = some b) : V G m_X12_left d 0 [(0, .ref v0)] [] M (jQb cI b) := by
  unfold f_X12_left at h
  refine v_aload_n dX12_left_0 rfl 0 rfl ?_
  refine x_gI dX12_left_1 kf_X12_126 rfl h (fun x1 h => ?_)
  refine x_if_ne (tgt := 12) dX12_left_4 (by decide) h (fun h => ?_) (fun h => ?_)
  · refine v_bipush dX12_left_7 bp_m3 ?_
    refine v_goto (tgt := 16) dX12_left_9 (by decide) ?_
    exact x_iret dX12_left_16 rfl h
  · refine v_aload_n dX12_left_12 rfl 0 rfl ?_
    refine x_gI dX12_left_13 kf_X12_213 rfl h (fun x2 h => ?_)
    exact x_iret dX12_left_16 rfl h
def j_X12_noThing_24   (M : jM) : jO Int32 :=
  rZ (nI 1) M
theorem t_X12_noThing_24 {G : jG} {d : Nat} (hd_ : 3 ≤ d)   {M : jM} {b : Int32 × jM} (h : j_X12_noThing_24   M = some b) : V G m_X12_noThing d 24 [] [] M (jQb cI b) := by
  unfold j_X12_noThing_24 at h
  refine v_iconst dX12_noThing_24 ic_1 ?_
  refine v_goto (tgt := 29) dX12_noThing_25 (by decide) ?_
  exact x_zret dX12_noThing_29 rfl h
def f_X12_noThing (v0 : Nat) (v1 : Int32) (v2 : Int32) (M : jM) : jO Int32 :=
  jb2 (jiv 11 M v0 (f_X12_noWorld v0 v1 M)) fun x2 M1 =>
  if x2 = 0 then
    (gR 11 M1 v0 0).bind fun r3 =>
    (ldI M1 r3 v1).bind fun x4 =>
    jb2 (f_X12_in v2 (nI 0) (x4 - (nI 1)) M1) fun x6 M5 =>
    if x6 = 0 then
      j_X12_noThing_24 M5
    else
      rZ (nI 0) M5
  else
    j_X12_noThing_24 M1
theorem s_X12_noThing {G : jG} {d : Nat} (hd_ : 3 ≤ d) {v0 : Nat} {v1 : Int32} {v2 : Int32} {M : jM} {b : Int32 × jM} (h : f_X12_noThing  v0 v1 v2 M = some b) : V G m_X12_noThing d 0 [(0, .ref v0), (1, .int v1), (2, .int v2)] [] M (jQb cI b) := by
  unfold f_X12_noThing at h
  refine v_aload_n dX12_noThing_0 rfl 0 rfl ?_
  refine v_iload_n dX12_noThing_1 rfl 1 rfl ?_
  refine x_inv (cv := cI) (As := [.int v1]) (rest := []) (ls2 := [(0, .ref v0), (1, .int v1)]) (ci := 11) (by omega) dX12_noThing_2 ke_X12_noWorld kv_X12_141 rfl rfl (by decide) (Nat.le_of_ble_eq_true rfl) rfl rfl rfl rfl h (fun _ hq => s_X12_noWorld (by omega) hq) (fun x2 M1 h => ?_)
  refine x_if_ne (tgt := 24) dX12_noThing_5 (by decide) h (fun h => ?_) (fun h => ?_)
  · refine v_iload_n dX12_noThing_8 rfl 2 rfl ?_
    refine v_iconst dX12_noThing_9 ic_0 ?_
    refine v_aload_n dX12_noThing_10 rfl 0 rfl ?_
    refine x_gR dX12_noThing_11 kf_X12_7 rfl h (fun r3 h => ?_)
    refine v_iload_n dX12_noThing_14 rfl 1 rfl ?_
    refine x_ldI dX12_noThing_15 h (fun x4 h => ?_)
    refine v_iconst dX12_noThing_16 ic_1 ?_
    refine v_isub dX12_noThing_17 ?_
    refine x_invs (cv := cI) (As := [.int v2, .int (nI 0), .int (x4 - (nI 1))]) (rest := []) (ls2 := [(0, .int v2), (1, .int (nI 0)), (2, .int (x4 - (nI 1)))]) (by omega) dX12_noThing_18 ke_X12_in ks_X12_133 (Nat.le_of_ble_eq_true rfl) rfl rfl rfl rfl h (fun _ hq => s_X12_in (by omega) hq) (fun x6 M5 h => ?_)
    refine x_if_ne (tgt := 28) dX12_noThing_21 (by decide) h (fun h => ?_) (fun h => ?_)
    · exact V.pick [] rfl (t_X12_noThing_24 hd_ h)
    · refine v_iconst dX12_noThing_28 ic_0 ?_
      exact x_zret dX12_noThing_29 rfl h
  · exact V.pick [] rfl (t_X12_noThing_24 hd_ h)
def j_X12_mark_68  (v0 : Nat) (v1 : Int32) (v2 : Int32) (v5 : Int32) (s0 : Nat) (s1 : Int32) (s2 : Int32) (M : jM) : jO Int32 :=
  (stI M s0 s1 s2).bind fun M1 =>
  (gR 11 M1 v0 1).bind fun r2 =>
  (ldI M1 r2 (((nI 6) * v1) + v2)).bind fun x3 =>
  if x3 = v5 then
    rt (nI 0) M1
  else
    rt (nI 1) M1
theorem t_X12_mark_68 {G : jG} {d : Nat} (hd_ : 4 ≤ d)  {v0 : Nat} {v1 : Int32} {v2 : Int32} {v5 : Int32} {s0 : Nat} {s1 : Int32} {s2 : Int32} {M : jM} {b : Int32 × jM} (h : j_X12_mark_68  v0 v1 v2 v5 s0 s1 s2 M = some b) : V G m_X12_mark d 68 [(0, .ref v0), (1, .int v1), (2, .int v2), (5, .int v5)] [.int s2, .int s1, .ref s0] M (jQb cI b) := by
  unfold j_X12_mark_68 at h
  refine x_stI dX12_mark_68 h (fun M1 h => ?_)
  refine v_aload_n dX12_mark_69 rfl 0 rfl ?_
  refine x_gR dX12_mark_70 kf_X12_13 rfl h (fun r2 h => ?_)
  refine v_bipush dX12_mark_73 bp_6 ?_
  refine v_iload_n dX12_mark_75 rfl 1 rfl ?_
  refine v_imul dX12_mark_76 ?_
  refine v_iload_n dX12_mark_77 rfl 2 rfl ?_
  refine v_iadd dX12_mark_78 ?_
  refine x_ldI dX12_mark_79 h (fun x3 h => ?_)
  refine v_iload dX12_mark_80 3 rfl ?_
  refine x_ic_ne (tgt := 89) dX12_mark_82 (by decide) h (fun h => ?_) (fun h => ?_)
  · refine v_iconst dX12_mark_85 ic_0 ?_
    refine v_goto (tgt := 90) dX12_mark_86 (by decide) ?_
    exact x_iret dX12_mark_90 rfl h
  · refine v_iconst dX12_mark_89 ic_1 ?_
    exact x_iret dX12_mark_90 rfl h
def f_X12_mark (v0 : Nat) (v1 : Int32) (v2 : Int32) (v3 : Int32) (v4 : Int32) (M : jM) : jO Int32 :=
  jb2 (jiv 11 M v0 (f_X12_noThing v0 v1 v2 M)) fun x2 M1 =>
  if x2 = 0 then
    jb2 (f_X12_in v3 (nI 0) (nI 1) M1) fun x4 M3 =>
    if x4 = 0 then
      rt (-2 : Int32) M3
    else
      (gR 11 M3 v0 1).bind fun r5 =>
      (ldI M3 r5 (((nI 6) * v1) + v2)).bind fun x6 =>
      (gR 11 M3 v0 1).bind fun r7 =>
      if v4 = 0 then
        j_X12_mark_68 v0 v1 v2 x6 r7 (((nI 6) * v1) + v2) (x6 &&& (((nI 1) <<< (v3 &&& 31)) ^^^ (-1 : Int32))) M3
      else
        j_X12_mark_68 v0 v1 v2 x6 r7 (((nI 6) * v1) + v2) (x6 ||| ((nI 1) <<< (v3 &&& 31))) M3
  else
    rt (-1 : Int32) M1
theorem s_X12_mark {G : jG} {d : Nat} (hd_ : 4 ≤ d) {v0 : Nat} {v1 : Int32} {v2 : Int32} {v3 : Int32} {v4 : Int32} {M : jM} {b : Int32 × jM} (h : f_X12_mark  v0 v1 v2 v3 v4 M = some b) : V G m_X12_mark d 0 [(0, .ref v0), (1, .int v1), (2, .int v2), (3, .int v3), (4, .int v4)] [] M (jQb cI b) := by
  unfold f_X12_mark at h
  refine v_aload_n dX12_mark_0 rfl 0 rfl ?_
  refine v_iload_n dX12_mark_1 rfl 1 rfl ?_
  refine v_iload_n dX12_mark_2 rfl 2 rfl ?_
  refine x_inv (cv := cI) (As := [.int v1, .int v2]) (rest := []) (ls2 := [(0, .ref v0), (1, .int v1), (2, .int v2)]) (ci := 11) (by omega) dX12_mark_3 ke_X12_noThing kv_X12_144 rfl rfl (by decide) (Nat.le_of_ble_eq_true rfl) rfl rfl rfl rfl h (fun _ hq => s_X12_noThing (by omega) hq) (fun x2 M1 h => ?_)
  refine x_if_eq (tgt := 11) dX12_mark_6 (by decide) h (fun h => ?_) (fun h => ?_)
  · refine v_iload_n dX12_mark_11 rfl 3 rfl ?_
    refine v_iconst dX12_mark_12 ic_0 ?_
    refine v_iconst dX12_mark_13 ic_1 ?_
    refine x_invs (cv := cI) (As := [.int v3, .int (nI 0), .int (nI 1)]) (rest := []) (ls2 := [(0, .int v3), (1, .int (nI 0)), (2, .int (nI 1))]) (by omega) dX12_mark_14 ke_X12_in ks_X12_133 (Nat.le_of_ble_eq_true rfl) rfl rfl rfl rfl h (fun _ hq => s_X12_in (by omega) hq) (fun x4 M3 h => ?_)
    refine x_if_ne (tgt := 23) dX12_mark_17 (by decide) h (fun h => ?_) (fun h => ?_)
    · refine v_bipush dX12_mark_20 bp_m2 ?_
      exact x_iret dX12_mark_22 rfl h
    · refine v_aload_n dX12_mark_23 rfl 0 rfl ?_
      refine x_gR dX12_mark_24 kf_X12_13 rfl h (fun r5 h => ?_)
      refine v_bipush dX12_mark_27 bp_6 ?_
      refine v_iload_n dX12_mark_29 rfl 1 rfl ?_
      refine v_imul dX12_mark_30 ?_
      refine v_iload_n dX12_mark_31 rfl 2 rfl ?_
      refine v_iadd dX12_mark_32 ?_
      refine x_ldI dX12_mark_33 h (fun x6 h => ?_)
      refine v_istore (ls2 := [(5, .int x6), (0, .ref v0), (1, .int v1), (2, .int v2), (3, .int v3), (4, .int v4)]) dX12_mark_34 (by decide) rfl ?_
      refine v_aload_n dX12_mark_36 rfl 1 rfl ?_
      refine x_gR dX12_mark_37 kf_X12_13 rfl h (fun r7 h => ?_)
      refine v_bipush dX12_mark_40 bp_6 ?_
      refine v_iload_n dX12_mark_42 rfl 2 rfl ?_
      refine v_imul dX12_mark_43 ?_
      refine v_iload_n dX12_mark_44 rfl 3 rfl ?_
      refine v_iadd dX12_mark_45 ?_
      refine v_iload dX12_mark_46 5 rfl ?_
      refine x_if_eq (tgt := 60) dX12_mark_48 (by decide) h (fun h => ?_) (fun h => ?_)
      · refine v_iload dX12_mark_60 0 rfl ?_
        refine v_iconst dX12_mark_62 ic_1 ?_
        refine v_iload_n dX12_mark_63 rfl 4 rfl ?_
        refine v_ishl dX12_mark_64 ?_
        refine v_iconst dX12_mark_65 ic_m1 ?_
        refine v_ixor dX12_mark_66 ?_
        refine v_iand dX12_mark_67 ?_
        exact V.pick [1, 2, 3, 0] rfl (t_X12_mark_68 hd_ h)
      · refine v_iload dX12_mark_51 0 rfl ?_
        refine v_iconst dX12_mark_53 ic_1 ?_
        refine v_iload_n dX12_mark_54 rfl 4 rfl ?_
        refine v_ishl dX12_mark_55 ?_
        refine v_ior dX12_mark_56 ?_
        refine v_goto (tgt := 68) dX12_mark_57 (by decide) ?_
        exact V.pick [1, 2, 3, 0] rfl (t_X12_mark_68 hd_ h)
  · refine v_iconst dX12_mark_9 ic_m1 ?_
    exact x_iret dX12_mark_10 rfl h
def b_X12_findEnds_75 (k13 : Nat → Int32 → Int32 → jM → jO Unit) (k75 : Nat → Int32 → Int32 → Int32 → Int32 → Int32 → Int32 → jM → jO Unit) (v0 : Nat) (v1 : Int32) (v2 : Int32) (v3 : Int32) (v4 : Int32) (v5 : Int32) (v6 : Int32) (M : jM) : jO Unit :=
  if v4 ≤ v6 then
    (gR 11 M v0 22).bind fun r1 =>
    (stI M r1 v3 v5).bind fun M2 =>
    k13 v0 v1 (v2 + (-1 : Int32)) M2
  else
    (gR 11 M v0 22).bind fun r3 =>
    (ldI M r3 (v1 + v5)).bind fun x4 =>
    k75 v0 v1 v2 v3 v4 x4 (v6 + (nI 1)) M
def l_X12_findEnds_75 (k13 : Nat → Int32 → Int32 → jM → jO Unit) : Nat → Nat → Int32 → Int32 → Int32 → Int32 → Int32 → Int32 → jM → jO Unit
  | 0 => fun _ _ _ _ _ _ _ _ => none
  | n + 1 => b_X12_findEnds_75 k13 (l_X12_findEnds_75 k13 n)
theorem tb_X12_findEnds_75 {G : jG} {d : Nat} (hd_ : 0 ≤ d) {k13 : Nat → Int32 → Int32 → jM → jO Unit} (hk13 : ∀ (w0 : Nat) (w1 : Int32) (w2 : Int32) (M : jM) (b : Unit × jM), k13 w0 w1 w2 M = some b → V G m_X12_findEnds d 13 [(0, .ref w0), (1, .int w1), (2, .int w2)] [] M (jQb cU b)) {k75 : Nat → Int32 → Int32 → Int32 → Int32 → Int32 → Int32 → jM → jO Unit} (hk75 : ∀ (w0 : Nat) (w1 : Int32) (w2 : Int32) (w3 : Int32) (w4 : Int32) (w5 : Int32) (w6 : Int32) (M : jM) (b : Unit × jM), k75 w0 w1 w2 w3 w4 w5 w6 M = some b → V G m_X12_findEnds d 75 [(0, .ref w0), (1, .int w1), (2, .int w2), (3, .int w3), (4, .int w4), (5, .int w5), (6, .int w6)] [] M (jQb cU b)) {v0 : Nat} {v1 : Int32} {v2 : Int32} {v3 : Int32} {v4 : Int32} {v5 : Int32} {v6 : Int32} {M : jM} {b : Unit × jM} (h : b_X12_findEnds_75 k13 k75 v0 v1 v2 v3 v4 v5 v6 M = some b) : V G m_X12_findEnds d 75 [(0, .ref v0), (1, .int v1), (2, .int v2), (3, .int v3), (4, .int v4), (5, .int v5), (6, .int v6)] [] M (jQb cU b) := by
  unfold b_X12_findEnds_75 at h
  refine v_iload dX12_findEnds_75 6 rfl ?_
  refine v_iload dX12_findEnds_77 4 rfl ?_
  refine x_ic_ge (tgt := 99) dX12_findEnds_79 (by decide) h (fun h => ?_) (fun h => ?_)
  · refine v_aload_n dX12_findEnds_99 rfl 0 rfl ?_
    refine x_gR dX12_findEnds_100 kf_X12_50 rfl h (fun r1 h => ?_)
    refine v_iload_n dX12_findEnds_103 rfl 3 rfl ?_
    refine v_iload dX12_findEnds_104 5 rfl ?_
    refine x_stI dX12_findEnds_106 h (fun M2 h => ?_)
    refine v_iincC (ls2 := [(2, .int (v2 + (-1 : Int32))), (0, .ref v0), (1, .int v1), (3, .int v3), (4, .int v4), (5, .int v5), (6, .int v6)]) dX12_findEnds_107 ic_m1 2 rfl (by decide) rfl ?_
    refine v_goto (tgt := 13) dX12_findEnds_110 (by decide) ?_
    exact V.pick [1, 2, 0] rfl (hk13 _ _ _ _ _ h)
  · refine v_aload_n dX12_findEnds_82 rfl 0 rfl ?_
    refine x_gR dX12_findEnds_83 kf_X12_50 rfl h (fun r3 h => ?_)
    refine v_iload_n dX12_findEnds_86 rfl 1 rfl ?_
    refine v_iload dX12_findEnds_87 5 rfl ?_
    refine v_iadd dX12_findEnds_89 ?_
    refine x_ldI dX12_findEnds_90 h (fun x4 h => ?_)
    refine v_istore (ls2 := [(5, .int x4), (0, .ref v0), (1, .int v1), (2, .int v2), (3, .int v3), (4, .int v4), (6, .int v6)]) dX12_findEnds_91 (by decide) rfl ?_
    refine v_iincC (ls2 := [(6, .int (v6 + (nI 1))), (5, .int x4), (0, .ref v0), (1, .int v1), (2, .int v2), (3, .int v3), (4, .int v4)]) dX12_findEnds_93 ic_1 6 rfl (by decide) rfl ?_
    refine v_goto (tgt := 75) dX12_findEnds_96 (by decide) ?_
    exact V.pick [2, 3, 4, 5, 6, 1, 0] rfl (hk75 _ _ _ _ _ _ _ _ _ h)
theorem t_X12_findEnds_75 {G : jG} {d : Nat} (hd_ : 0 ≤ d) {k13 : Nat → Int32 → Int32 → jM → jO Unit} (hk13 : ∀ (w0 : Nat) (w1 : Int32) (w2 : Int32) (M : jM) (b : Unit × jM), k13 w0 w1 w2 M = some b → V G m_X12_findEnds d 13 [(0, .ref w0), (1, .int w1), (2, .int w2)] [] M (jQb cU b)) : ∀ (n : Nat) (v0 : Nat) (v1 : Int32) (v2 : Int32) (v3 : Int32) (v4 : Int32) (v5 : Int32) (v6 : Int32) (M : jM) (b : Unit × jM), l_X12_findEnds_75 k13 n v0 v1 v2 v3 v4 v5 v6 M = some b → V G m_X12_findEnds d 75 [(0, .ref v0), (1, .int v1), (2, .int v2), (3, .int v3), (4, .int v4), (5, .int v5), (6, .int v6)] [] M (jQb cU b) := by
  intro n
  induction n with
  | zero => intro v0 v1 v2 v3 v4 v5 v6 M b h; exact nomatch (show (none : jO Unit) = some b from h)
  | succ n ih => intro v0 v1 v2 v3 v4 v5 v6 M b h; exact tb_X12_findEnds_75 hd_ hk13 ih h
def j_X12_findEnds_65 (k13 : Nat → Int32 → Int32 → jM → jO Unit) (v0 : Nat) (v1 : Int32) (v2 : Int32) (v3 : Int32) (s0 : Int32) (M : jM) : jO Unit :=
  (jv (v2 + (nI 1))).bind fun y1 =>
  l_X12_findEnds_75 k13 jF0 v0 v1 v2 v3 s0 y1 (nI 0) M
theorem t_X12_findEnds_65 {G : jG} {d : Nat} (hd_ : 0 ≤ d) {k13 : Nat → Int32 → Int32 → jM → jO Unit} (hk13 : ∀ (w0 : Nat) (w1 : Int32) (w2 : Int32) (M : jM) (b : Unit × jM), k13 w0 w1 w2 M = some b → V G m_X12_findEnds d 13 [(0, .ref w0), (1, .int w1), (2, .int w2)] [] M (jQb cU b)) {v0 : Nat} {v1 : Int32} {v2 : Int32} {v3 : Int32} {s0 : Int32} {M : jM} {b : Unit × jM} (h : j_X12_findEnds_65 k13 v0 v1 v2 v3 s0 M = some b) : V G m_X12_findEnds d 65 [(0, .ref v0), (1, .int v1), (2, .int v2), (3, .int v3)] [.int s0] M (jQb cU b) := by
  unfold j_X12_findEnds_65 at h
  refine v_istore (ls2 := [(4, .int s0), (0, .ref v0), (1, .int v1), (2, .int v2), (3, .int v3)]) dX12_findEnds_65 (by decide) rfl ?_
  refine v_iload_n dX12_findEnds_67 rfl 3 rfl ?_
  refine v_iconst dX12_findEnds_68 ic_1 ?_
  refine v_iadd dX12_findEnds_69 ?_
  refine x_jvI h (fun y1 h => ?_)
  refine v_istore (ls2 := [(5, .int y1), (4, .int s0), (0, .ref v0), (1, .int v1), (2, .int v2), (3, .int v3)]) dX12_findEnds_70 (by decide) rfl ?_
  refine v_iconst dX12_findEnds_72 ic_0 ?_
  refine v_istore (ls2 := [(6, .int (nI 0)), (5, .int y1), (4, .int s0), (0, .ref v0), (1, .int v1), (2, .int v2), (3, .int v3)]) dX12_findEnds_73 (by decide) rfl ?_
  exact V.pick [3, 4, 5, 6, 2, 1, 0] rfl (t_X12_findEnds_75 hd_ hk13 _ _ _ _ _ _ _ _ _ _ h)
def j_X12_findEnds_41 (k13 : Nat → Int32 → Int32 → jM → jO Unit) (v0 : Nat) (v1 : Int32) (v2 : Int32) (v3 : Int32) (M : jM) : jO Unit :=
  (gR 11 M v0 20).bind fun r1 =>
  (ldI M r1 v3).bind fun x2 =>
  j_X12_findEnds_65 k13 v0 v1 v2 v3 x2 M
theorem t_X12_findEnds_41 {G : jG} {d : Nat} (hd_ : 0 ≤ d) {k13 : Nat → Int32 → Int32 → jM → jO Unit} (hk13 : ∀ (w0 : Nat) (w1 : Int32) (w2 : Int32) (M : jM) (b : Unit × jM), k13 w0 w1 w2 M = some b → V G m_X12_findEnds d 13 [(0, .ref w0), (1, .int w1), (2, .int w2)] [] M (jQb cU b)) {v0 : Nat} {v1 : Int32} {v2 : Int32} {v3 : Int32} {M : jM} {b : Unit × jM} (h : j_X12_findEnds_41 k13 v0 v1 v2 v3 M = some b) : V G m_X12_findEnds d 41 [(0, .ref v0), (1, .int v1), (2, .int v2), (3, .int v3)] [] M (jQb cU b) := by
  unfold j_X12_findEnds_41 at h
  refine v_aload_n dX12_findEnds_41 rfl 0 rfl ?_
  refine x_gR dX12_findEnds_42 kf_X12_44 rfl h (fun r1 h => ?_)
  refine v_iload_n dX12_findEnds_45 rfl 3 rfl ?_
  refine x_ldI dX12_findEnds_46 h (fun x2 h => ?_)
  refine v_goto (tgt := 65) dX12_findEnds_47 (by decide) ?_
  exact t_X12_findEnds_65 hd_ hk13 h
def b_X12_findEnds_13  (k13 : Nat → Int32 → Int32 → jM → jO Unit) (v0 : Nat) (v1 : Int32) (v2 : Int32) (M : jM) : jO Unit :=
  if v2 < 0 then
    rt () M
  else
    (jv (v1 + v2)).bind fun y1 =>
    (gR 11 M v0 19).bind fun r2 =>
    (ldB M r2 y1).bind fun x3 =>
    if x3 = (nI 4) then
      j_X12_findEnds_41 k13 v0 v1 v2 y1 M
    else
      (gR 11 M v0 19).bind fun r4 =>
      (ldB M r4 y1).bind fun x5 =>
      if x5 = (nI 5) then
        j_X12_findEnds_41 k13 v0 v1 v2 y1 M
      else
        (gR 11 M v0 19).bind fun r6 =>
        (ldB M r6 y1).bind fun x7 =>
        if (nI 3) < x7 then
          j_X12_findEnds_65 k13 v0 v1 v2 y1 (nI 0) M
        else
          j_X12_findEnds_65 k13 v0 v1 v2 y1 (nI 1) M
def l_X12_findEnds_13  : Nat → Nat → Int32 → Int32 → jM → jO Unit
  | 0 => fun _ _ _ _ => none
  | n + 1 => b_X12_findEnds_13  (l_X12_findEnds_13  n)
theorem tb_X12_findEnds_13 {G : jG} {d : Nat} (hd_ : 0 ≤ d)  {k13 : Nat → Int32 → Int32 → jM → jO Unit} (hk13 : ∀ (w0 : Nat) (w1 : Int32) (w2 : Int32) (M : jM) (b : Unit × jM), k13 w0 w1 w2 M = some b → V G m_X12_findEnds d 13 [(0, .ref w0), (1, .int w1), (2, .int w2)] [] M (jQb cU b)) {v0 : Nat} {v1 : Int32} {v2 : Int32} {M : jM} {b : Unit × jM} (h : b_X12_findEnds_13  k13 v0 v1 v2 M = some b) : V G m_X12_findEnds d 13 [(0, .ref v0), (1, .int v1), (2, .int v2)] [] M (jQb cU b) := by
  unfold b_X12_findEnds_13 at h
  refine v_iload_n dX12_findEnds_13 rfl 2 rfl ?_
  refine x_if_lt (tgt := 113) dX12_findEnds_14 (by decide) h (fun h => ?_) (fun h => ?_)
  · exact x_vret dX12_findEnds_113 rfl h
  · refine v_iload_n dX12_findEnds_17 rfl 1 rfl ?_
    refine v_iload_n dX12_findEnds_18 rfl 2 rfl ?_
    refine v_iadd dX12_findEnds_19 ?_
    refine x_jvI h (fun y1 h => ?_)
    refine v_istore_n (ls2 := [(3, .int y1), (0, .ref v0), (1, .int v1), (2, .int v2)]) dX12_findEnds_20 rfl (by decide) rfl ?_
    refine v_aload_n dX12_findEnds_21 rfl 1 rfl ?_
    refine x_gR dX12_findEnds_22 kf_X12_40 rfl h (fun r2 h => ?_)
    refine v_iload_n dX12_findEnds_25 rfl 0 rfl ?_
    refine x_ldB dX12_findEnds_26 h (fun x3 h => ?_)
    refine v_iconst dX12_findEnds_27 ic_4 ?_
    refine x_ic_eq (tgt := 41) dX12_findEnds_28 (by decide) h (fun h => ?_) (fun h => ?_)
    · exact V.pick [1, 2, 3, 0] rfl (t_X12_findEnds_41 hd_ hk13 h)
    · refine v_aload_n dX12_findEnds_31 rfl 1 rfl ?_
      refine x_gR dX12_findEnds_32 kf_X12_40 rfl h (fun r4 h => ?_)
      refine v_iload_n dX12_findEnds_35 rfl 0 rfl ?_
      refine x_ldB dX12_findEnds_36 h (fun x5 h => ?_)
      refine v_iconst dX12_findEnds_37 ic_5 ?_
      refine x_ic_ne (tgt := 50) dX12_findEnds_38 (by decide) h (fun h => ?_) (fun h => ?_)
      · exact V.pick [1, 2, 3, 0] rfl (t_X12_findEnds_41 hd_ hk13 h)
      · refine v_aload_n dX12_findEnds_50 rfl 1 rfl ?_
        refine x_gR dX12_findEnds_51 kf_X12_40 rfl h (fun r6 h => ?_)
        refine v_iload_n dX12_findEnds_54 rfl 0 rfl ?_
        refine x_ldB dX12_findEnds_55 h (fun x7 h => ?_)
        refine v_iconst dX12_findEnds_56 ic_3 ?_
        refine x_ic_gt (tgt := 64) dX12_findEnds_57 (by decide) h (fun h => ?_) (fun h => ?_)
        · refine v_iconst dX12_findEnds_64 ic_0 ?_
          exact V.pick [1, 2, 3, 0] rfl (t_X12_findEnds_65 hd_ hk13 h)
        · refine v_iconst dX12_findEnds_60 ic_1 ?_
          refine v_goto (tgt := 65) dX12_findEnds_61 (by decide) ?_
          exact V.pick [1, 2, 3, 0] rfl (t_X12_findEnds_65 hd_ hk13 h)
theorem t_X12_findEnds_13 {G : jG} {d : Nat} (hd_ : 0 ≤ d)  : ∀ (n : Nat) (v0 : Nat) (v1 : Int32) (v2 : Int32) (M : jM) (b : Unit × jM), l_X12_findEnds_13  n v0 v1 v2 M = some b → V G m_X12_findEnds d 13 [(0, .ref v0), (1, .int v1), (2, .int v2)] [] M (jQb cU b) := by
  intro n
  induction n with
  | zero => intro v0 v1 v2 M b h; exact nomatch (show (none : jO Unit) = some b from h)
  | succ n ih => intro v0 v1 v2 M b h; exact tb_X12_findEnds_13 hd_  ih h
def f_X12_findEnds (v0 : Nat) (v1 : Int32) (M : jM) : jO Unit :=
  (gR 11 M v0 18).bind fun r1 =>
  (dv v1 (nI 600)).bind fun z2 =>
  (ldI M r1 z2).bind fun x3 =>
  (jv (x3 - (nI 1))).bind fun y4 =>
  l_X12_findEnds_13 jF0 v0 v1 y4 M
theorem s_X12_findEnds {G : jG} {d : Nat} (hd_ : 0 ≤ d) {v0 : Nat} {v1 : Int32} {M : jM} {b : Unit × jM} (h : f_X12_findEnds  v0 v1 M = some b) : V G m_X12_findEnds d 0 [(0, .ref v0), (1, .int v1)] [] M (jQb cU b) := by
  unfold f_X12_findEnds at h
  refine v_aload_n dX12_findEnds_0 rfl 0 rfl ?_
  refine x_gR dX12_findEnds_1 kf_X12_37 rfl h (fun r1 h => ?_)
  refine v_iload_n dX12_findEnds_4 rfl 1 rfl ?_
  refine v_sipush dX12_findEnds_5 sp_600 ?_
  refine x_dv dX12_findEnds_8 h (fun z2 h => ?_)
  refine x_ldI dX12_findEnds_9 h (fun x3 h => ?_)
  refine v_iconst dX12_findEnds_10 ic_1 ?_
  refine v_isub dX12_findEnds_11 ?_
  refine x_jvI h (fun y4 h => ?_)
  refine v_istore_n (ls2 := [(2, .int y4), (0, .ref v0), (1, .int v1)]) dX12_findEnds_12 rfl (by decide) rfl ?_
  exact V.pick [1, 2, 0] rfl (t_X12_findEnds_13 hd_ _ _ _ _ _ _ h)
def b_X12_keep_24  (k24 : Nat → Int32 → Int32 → jM → jO Int32) (v0 : Nat) (v1 : Int32) (v2 : Int32) (M : jM) : jO Int32 :=
  (gI 11 M v0 23).bind fun x1 =>
  if x1 ≤ v2 then
    jb2 (jiv 11 M v0 (f_X12_findEnds v0 v1 M)) fun _ M2 =>
    (gI 11 M2 v0 17).bind fun x3 =>
    (pI 11 M2 v0 17 (x3 + (nI 1))).bind fun M4 =>
    (gI 11 M4 v0 17).bind fun x5 =>
    rt (x5 - (nI 1)) M4
  else
    (gR 11 M v0 19).bind fun r6 =>
    (gR 11 M v0 24).bind fun r7 =>
    (ldB M r7 v2).bind fun x8 =>
    (stB M r6 (v1 + v2) x8).bind fun M9 =>
    (gR 11 M9 v0 20).bind fun r10 =>
    (gR 11 M9 v0 25).bind fun r11 =>
    (ldI M9 r11 v2).bind fun x12 =>
    (stI M9 r10 (v1 + v2) x12).bind fun M13 =>
    (gR 11 M13 v0 21).bind fun r14 =>
    (gR 11 M13 v0 26).bind fun r15 =>
    (ldB M13 r15 v2).bind fun x16 =>
    (stB M13 r14 (v1 + v2) x16).bind fun M17 =>
    k24 v0 v1 (v2 + (nI 1)) M17
def l_X12_keep_24  : Nat → Nat → Int32 → Int32 → jM → jO Int32
  | 0 => fun _ _ _ _ => none
  | n + 1 => b_X12_keep_24  (l_X12_keep_24  n)
theorem tb_X12_keep_24 {G : jG} {d : Nat} (hd_ : 1 ≤ d)  {k24 : Nat → Int32 → Int32 → jM → jO Int32} (hk24 : ∀ (w0 : Nat) (w1 : Int32) (w2 : Int32) (M : jM) (b : Int32 × jM), k24 w0 w1 w2 M = some b → V G m_X12_keep d 24 [(0, .ref w0), (1, .int w1), (2, .int w2)] [] M (jQb cI b)) {v0 : Nat} {v1 : Int32} {v2 : Int32} {M : jM} {b : Int32 × jM} (h : b_X12_keep_24  k24 v0 v1 v2 M = some b) : V G m_X12_keep d 24 [(0, .ref v0), (1, .int v1), (2, .int v2)] [] M (jQb cI b) := by
  unfold b_X12_keep_24 at h
  refine v_iload_n dX12_keep_24 rfl 2 rfl ?_
  refine v_aload_n dX12_keep_25 rfl 0 rfl ?_
  refine x_gI dX12_keep_26 kf_X12_234 rfl h (fun x1 h => ?_)
  refine x_ic_ge (tgt := 80) dX12_keep_29 (by decide) h (fun h => ?_) (fun h => ?_)
  · refine v_aload_n dX12_keep_80 rfl 0 rfl ?_
    refine v_iload_n dX12_keep_81 rfl 1 rfl ?_
    refine x_inv (cv := cU) (As := [.int v1]) (rest := []) (ls2 := [(0, .ref v0), (1, .int v1)]) (ci := 11) (by omega) dX12_keep_82 ke_X12_findEnds kv_X12_293 rfl rfl (by decide) (Nat.le_of_ble_eq_true rfl) rfl rfl rfl rfl h (fun _ hq => s_X12_findEnds (by omega) hq) (fun _ M2 h => ?_)
    refine v_aload_n dX12_keep_85 rfl 0 rfl ?_
    refine v_dup dX12_keep_86 rfl ?_
    refine x_gI dX12_keep_87 kf_X12_290 rfl h (fun x3 h => ?_)
    refine v_iconst dX12_keep_90 ic_1 ?_
    refine v_iadd dX12_keep_91 ?_
    refine x_pI dX12_keep_92 kf_X12_290 rfl (fun q => Bool.noConfusion q) h (fun M4 h => ?_)
    refine v_aload_n dX12_keep_95 rfl 0 rfl ?_
    refine x_gI dX12_keep_96 kf_X12_290 rfl h (fun x5 h => ?_)
    refine v_iconst dX12_keep_99 ic_1 ?_
    refine v_isub dX12_keep_100 ?_
    exact x_iret dX12_keep_101 rfl h
  · refine v_aload_n dX12_keep_32 rfl 0 rfl ?_
    refine x_gR dX12_keep_33 kf_X12_40 rfl h (fun r6 h => ?_)
    refine v_iload_n dX12_keep_36 rfl 1 rfl ?_
    refine v_iload_n dX12_keep_37 rfl 2 rfl ?_
    refine v_iadd dX12_keep_38 ?_
    refine v_aload_n dX12_keep_39 rfl 0 rfl ?_
    refine x_gR dX12_keep_40 kf_X12_53 rfl h (fun r7 h => ?_)
    refine v_iload_n dX12_keep_43 rfl 2 rfl ?_
    refine x_ldB dX12_keep_44 h (fun x8 h => ?_)
    refine x_stB dX12_keep_45 h (fun M9 h => ?_)
    refine v_aload_n dX12_keep_46 rfl 0 rfl ?_
    refine x_gR dX12_keep_47 kf_X12_44 rfl h (fun r10 h => ?_)
    refine v_iload_n dX12_keep_50 rfl 1 rfl ?_
    refine v_iload_n dX12_keep_51 rfl 2 rfl ?_
    refine v_iadd dX12_keep_52 ?_
    refine v_aload_n dX12_keep_53 rfl 0 rfl ?_
    refine x_gR dX12_keep_54 kf_X12_56 rfl h (fun r11 h => ?_)
    refine v_iload_n dX12_keep_57 rfl 2 rfl ?_
    refine x_ldI dX12_keep_58 h (fun x12 h => ?_)
    refine x_stI dX12_keep_59 h (fun M13 h => ?_)
    refine v_aload_n dX12_keep_60 rfl 0 rfl ?_
    refine x_gR dX12_keep_61 kf_X12_47 rfl h (fun r14 h => ?_)
    refine v_iload_n dX12_keep_64 rfl 1 rfl ?_
    refine v_iload_n dX12_keep_65 rfl 2 rfl ?_
    refine v_iadd dX12_keep_66 ?_
    refine v_aload_n dX12_keep_67 rfl 0 rfl ?_
    refine x_gR dX12_keep_68 kf_X12_59 rfl h (fun r15 h => ?_)
    refine v_iload_n dX12_keep_71 rfl 2 rfl ?_
    refine x_ldB dX12_keep_72 h (fun x16 h => ?_)
    refine x_stB dX12_keep_73 h (fun M17 h => ?_)
    refine v_iincC (ls2 := [(2, .int (v2 + (nI 1))), (0, .ref v0), (1, .int v1)]) dX12_keep_74 ic_1 2 rfl (by decide) rfl ?_
    refine v_goto (tgt := 24) dX12_keep_77 (by decide) ?_
    exact V.pick [1, 2, 0] rfl (hk24 _ _ _ _ _ h)
theorem t_X12_keep_24 {G : jG} {d : Nat} (hd_ : 1 ≤ d)  : ∀ (n : Nat) (v0 : Nat) (v1 : Int32) (v2 : Int32) (M : jM) (b : Int32 × jM), l_X12_keep_24  n v0 v1 v2 M = some b → V G m_X12_keep d 24 [(0, .ref v0), (1, .int v1), (2, .int v2)] [] M (jQb cI b) := by
  intro n
  induction n with
  | zero => intro v0 v1 v2 M b h; exact nomatch (show (none : jO Int32) = some b from h)
  | succ n ih => intro v0 v1 v2 M b h; exact tb_X12_keep_24 hd_  ih h
def f_X12_keep (v0 : Nat) (M : jM) : jO Int32 :=
  (gI 11 M v0 17).bind fun x1 =>
  (jv ((nI 600) * x1)).bind fun y2 =>
  (gR 11 M v0 18).bind fun r3 =>
  (gI 11 M v0 17).bind fun x4 =>
  (gI 11 M v0 23).bind fun x5 =>
  (stI M r3 x4 x5).bind fun M6 =>
  l_X12_keep_24 jF0 v0 y2 (nI 0) M6
theorem s_X12_keep {G : jG} {d : Nat} (hd_ : 1 ≤ d) {v0 : Nat} {M : jM} {b : Int32 × jM} (h : f_X12_keep  v0 M = some b) : V G m_X12_keep d 0 [(0, .ref v0)] [] M (jQb cI b) := by
  unfold f_X12_keep at h
  refine v_sipush dX12_keep_0 sp_600 ?_
  refine v_aload_n dX12_keep_3 rfl 0 rfl ?_
  refine x_gI dX12_keep_4 kf_X12_290 rfl h (fun x1 h => ?_)
  refine v_imul dX12_keep_7 ?_
  refine x_jvI h (fun y2 h => ?_)
  refine v_istore_n (ls2 := [(1, .int y2), (0, .ref v0)]) dX12_keep_8 rfl (by decide) rfl ?_
  refine v_aload_n dX12_keep_9 rfl 1 rfl ?_
  refine x_gR dX12_keep_10 kf_X12_37 rfl h (fun r3 h => ?_)
  refine v_aload_n dX12_keep_13 rfl 1 rfl ?_
  refine x_gI dX12_keep_14 kf_X12_290 rfl h (fun x4 h => ?_)
  refine v_aload_n dX12_keep_17 rfl 1 rfl ?_
  refine x_gI dX12_keep_18 kf_X12_234 rfl h (fun x5 h => ?_)
  refine x_stI dX12_keep_21 h (fun M6 h => ?_)
  refine v_iconst dX12_keep_22 ic_0 ?_
  refine v_istore_n (ls2 := [(2, .int (nI 0)), (1, .int y2), (0, .ref v0)]) dX12_keep_23 rfl (by decide) rfl ?_
  exact V.pick [2, 1, 0] rfl (t_X12_keep_24 hd_ _ _ _ _ _ _ h)
def b_X12_least_2  (k2 : Nat → Int32 → Int32 → jM → jO Int32) (v0 : Nat) (v1 : Int32) (v2 : Int32) (M : jM) : jO Int32 :=
  if v1 < v2 then
    rt (-1 : Int32) M
  else
    jb2 (jiv 11 M v0 (f_X12_keeps v0 v2 M)) fun x2 M1 =>
    if x2 = 0 then
      rt v2 M1
    else
      k2 v0 v1 (v2 + (nI 1)) M1
def l_X12_least_2  : Nat → Nat → Int32 → Int32 → jM → jO Int32
  | 0 => fun _ _ _ _ => none
  | n + 1 => b_X12_least_2  (l_X12_least_2  n)
theorem tb_X12_least_2 {G : jG} {d : Nat} (hd_ : 7 ≤ d)  {k2 : Nat → Int32 → Int32 → jM → jO Int32} (hk2 : ∀ (w0 : Nat) (w1 : Int32) (w2 : Int32) (M : jM) (b : Int32 × jM), k2 w0 w1 w2 M = some b → V G m_X12_least d 2 [(0, .ref w0), (1, .int w1), (2, .int w2)] [] M (jQb cI b)) {v0 : Nat} {v1 : Int32} {v2 : Int32} {M : jM} {b : Int32 × jM} (h : b_X12_least_2  k2 v0 v1 v2 M = some b) : V G m_X12_least d 2 [(0, .ref v0), (1, .int v1), (2, .int v2)] [] M (jQb cI b) := by
  unfold b_X12_least_2 at h
  refine v_iload_n dX12_least_2 rfl 2 rfl ?_
  refine v_iload_n dX12_least_3 rfl 1 rfl ?_
  refine x_ic_gt (tgt := 23) dX12_least_4 (by decide) h (fun h => ?_) (fun h => ?_)
  · refine v_iconst dX12_least_23 ic_m1 ?_
    exact x_iret dX12_least_24 rfl h
  · refine v_aload_n dX12_least_7 rfl 0 rfl ?_
    refine v_iload_n dX12_least_8 rfl 2 rfl ?_
    refine x_inv (cv := cI) (As := [.int v2]) (rest := []) (ls2 := [(0, .ref v0), (1, .int v2)]) (ci := 11) (by omega) dX12_least_9 ke_X12_keeps kv_X12_201 rfl rfl (by decide) (Nat.le_of_ble_eq_true rfl) rfl rfl rfl rfl h (fun _ hq => s_X12_keeps (by omega) hq) (fun x2 M1 h => ?_)
    refine x_if_ne (tgt := 17) dX12_least_12 (by decide) h (fun h => ?_) (fun h => ?_)
    · refine v_iload_n dX12_least_15 rfl 2 rfl ?_
      exact x_iret dX12_least_16 rfl h
    · refine v_iincC (ls2 := [(2, .int (v2 + (nI 1))), (0, .ref v0), (1, .int v1)]) dX12_least_17 ic_1 2 rfl (by decide) rfl ?_
      refine v_goto (tgt := 2) dX12_least_20 (by decide) ?_
      exact V.pick [1, 2, 0] rfl (hk2 _ _ _ _ _ h)
theorem t_X12_least_2 {G : jG} {d : Nat} (hd_ : 7 ≤ d)  : ∀ (n : Nat) (v0 : Nat) (v1 : Int32) (v2 : Int32) (M : jM) (b : Int32 × jM), l_X12_least_2  n v0 v1 v2 M = some b → V G m_X12_least d 2 [(0, .ref v0), (1, .int v1), (2, .int v2)] [] M (jQb cI b) := by
  intro n
  induction n with
  | zero => intro v0 v1 v2 M b h; exact nomatch (show (none : jO Int32) = some b from h)
  | succ n ih => intro v0 v1 v2 M b h; exact tb_X12_least_2 hd_  ih h
def f_X12_least (v0 : Nat) (v1 : Int32) (M : jM) : jO Int32 :=
  l_X12_least_2 jF0 v0 v1 (nI 0) M
theorem s_X12_least {G : jG} {d : Nat} (hd_ : 7 ≤ d) {v0 : Nat} {v1 : Int32} {M : jM} {b : Int32 × jM} (h : f_X12_least  v0 v1 M = some b) : V G m_X12_least d 0 [(0, .ref v0), (1, .int v1)] [] M (jQb cI b) := by
  unfold f_X12_least at h
  refine v_iconst dX12_least_0 ic_0 ?_
  refine v_istore_n (ls2 := [(2, .int (nI 0)), (0, .ref v0), (1, .int v1)]) dX12_least_1 rfl (by decide) rfl ?_
  exact V.pick [1, 2, 0] rfl (t_X12_least_2 hd_ _ _ _ _ _ _ h)
def f_X12_emit (v0 : Nat) (v1 : Int32) (v2 : Int32) (v3 : Int32) (M : jM) : jO Unit :=
  (gR 11 M v0 24).bind fun r1 =>
  (gI 11 M v0 23).bind fun x2 =>
  (stB M r1 x2 (Int8.toInt32 (Int32.toInt8 v1))).bind fun M3 =>
  (gR 11 M3 v0 25).bind fun r4 =>
  (gI 11 M3 v0 23).bind fun x5 =>
  (stI M3 r4 x5 v2).bind fun M6 =>
  (gR 11 M6 v0 26).bind fun r7 =>
  (gI 11 M6 v0 23).bind fun x8 =>
  (stB M6 r7 x8 (Int8.toInt32 (Int32.toInt8 v3))).bind fun M9 =>
  (gI 11 M9 v0 23).bind fun x10 =>
  (pI 11 M9 v0 23 (x10 + (nI 1))).bind fun M11 =>
  rt () M11
theorem s_X12_emit {G : jG} {d : Nat} (hd_ : 0 ≤ d) {v0 : Nat} {v1 : Int32} {v2 : Int32} {v3 : Int32} {M : jM} {b : Unit × jM} (h : f_X12_emit  v0 v1 v2 v3 M = some b) : V G m_X12_emit d 0 [(0, .ref v0), (1, .int v1), (2, .int v2), (3, .int v3)] [] M (jQb cU b) := by
  unfold f_X12_emit at h
  refine v_aload_n dX12_emit_0 rfl 0 rfl ?_
  refine x_gR dX12_emit_1 kf_X12_53 rfl h (fun r1 h => ?_)
  refine v_aload_n dX12_emit_4 rfl 0 rfl ?_
  refine x_gI dX12_emit_5 kf_X12_234 rfl h (fun x2 h => ?_)
  refine v_iload_n dX12_emit_8 rfl 1 rfl ?_
  refine v_i2b dX12_emit_9 ?_
  refine x_stB dX12_emit_10 h (fun M3 h => ?_)
  refine v_aload_n dX12_emit_11 rfl 0 rfl ?_
  refine x_gR dX12_emit_12 kf_X12_56 rfl h (fun r4 h => ?_)
  refine v_aload_n dX12_emit_15 rfl 0 rfl ?_
  refine x_gI dX12_emit_16 kf_X12_234 rfl h (fun x5 h => ?_)
  refine v_iload_n dX12_emit_19 rfl 2 rfl ?_
  refine x_stI dX12_emit_20 h (fun M6 h => ?_)
  refine v_aload_n dX12_emit_21 rfl 0 rfl ?_
  refine x_gR dX12_emit_22 kf_X12_59 rfl h (fun r7 h => ?_)
  refine v_aload_n dX12_emit_25 rfl 0 rfl ?_
  refine x_gI dX12_emit_26 kf_X12_234 rfl h (fun x8 h => ?_)
  refine v_iload_n dX12_emit_29 rfl 3 rfl ?_
  refine v_i2b dX12_emit_30 ?_
  refine x_stB dX12_emit_31 h (fun M9 h => ?_)
  refine v_aload_n dX12_emit_32 rfl 0 rfl ?_
  refine v_dup dX12_emit_33 rfl ?_
  refine x_gI dX12_emit_34 kf_X12_234 rfl h (fun x10 h => ?_)
  refine v_iconst dX12_emit_37 ic_1 ?_
  refine v_iadd dX12_emit_38 ?_
  refine x_pI dX12_emit_39 kf_X12_234 rfl (fun q => Bool.noConfusion q) h (fun M11 h => ?_)
  exact x_vret dX12_emit_42 rfl h
def b_X12_swapRows_20  (k20 : Nat → Int32 → jM → jO Unit) (v0 : Nat) (v2 : Int32) (M : jM) : jO Unit :=
  (gI 11 M v0 7).bind fun x1 =>
  if x1 ≤ v2 then
    rt () M
  else
    (gR 11 M v0 8).bind fun r2 =>
    (ldI M r2 v2).bind fun x3 =>
    (gR 11 M v0 8).bind fun r4 =>
    (gR 11 M v0 9).bind fun r5 =>
    (ldI M r5 v2).bind fun x6 =>
    (stI M r4 v2 x6).bind fun M7 =>
    (gR 11 M7 v0 9).bind fun r8 =>
    (stI M7 r8 v2 x3).bind fun M9 =>
    k20 v0 (v2 + (nI 1)) M9
def l_X12_swapRows_20  : Nat → Nat → Int32 → jM → jO Unit
  | 0 => fun _ _ _ => none
  | n + 1 => b_X12_swapRows_20  (l_X12_swapRows_20  n)
theorem tb_X12_swapRows_20 {G : jG} {d : Nat} (hd_ : 0 ≤ d)  {k20 : Nat → Int32 → jM → jO Unit} (hk20 : ∀ (w0 : Nat) (w2 : Int32) (M : jM) (b : Unit × jM), k20 w0 w2 M = some b → V G m_X12_swapRows d 20 [(0, .ref w0), (2, .int w2)] [] M (jQb cU b)) {v0 : Nat} {v2 : Int32} {M : jM} {b : Unit × jM} (h : b_X12_swapRows_20  k20 v0 v2 M = some b) : V G m_X12_swapRows d 20 [(0, .ref v0), (2, .int v2)] [] M (jQb cU b) := by
  unfold b_X12_swapRows_20 at h
  refine v_iload_n dX12_swapRows_20 rfl 1 rfl ?_
  refine v_aload_n dX12_swapRows_21 rfl 0 rfl ?_
  refine x_gI dX12_swapRows_22 kf_X12_169 rfl h (fun x1 h => ?_)
  refine x_ic_ge (tgt := 60) dX12_swapRows_25 (by decide) h (fun h => ?_) (fun h => ?_)
  · exact x_vret dX12_swapRows_60 rfl h
  · refine v_aload_n dX12_swapRows_28 rfl 0 rfl ?_
    refine x_gR dX12_swapRows_29 kf_X12_25 rfl h (fun r2 h => ?_)
    refine v_iload_n dX12_swapRows_32 rfl 1 rfl ?_
    refine x_ldI dX12_swapRows_33 h (fun x3 h => ?_)
    refine v_istore_n (ls2 := [(3, .int x3), (0, .ref v0), (2, .int v2)]) dX12_swapRows_34 rfl (by decide) rfl ?_
    refine v_aload_n dX12_swapRows_35 rfl 1 rfl ?_
    refine x_gR dX12_swapRows_36 kf_X12_25 rfl h (fun r4 h => ?_)
    refine v_iload_n dX12_swapRows_39 rfl 2 rfl ?_
    refine v_aload_n dX12_swapRows_40 rfl 1 rfl ?_
    refine x_gR dX12_swapRows_41 kf_X12_28 rfl h (fun r5 h => ?_)
    refine v_iload_n dX12_swapRows_44 rfl 2 rfl ?_
    refine x_ldI dX12_swapRows_45 h (fun x6 h => ?_)
    refine x_stI dX12_swapRows_46 h (fun M7 h => ?_)
    refine v_aload_n dX12_swapRows_47 rfl 1 rfl ?_
    refine x_gR dX12_swapRows_48 kf_X12_28 rfl h (fun r8 h => ?_)
    refine v_iload_n dX12_swapRows_51 rfl 2 rfl ?_
    refine v_iload_n dX12_swapRows_52 rfl 0 rfl ?_
    refine x_stI dX12_swapRows_53 h (fun M9 h => ?_)
    refine v_iincC (ls2 := [(2, .int (v2 + (nI 1))), (3, .int x3), (0, .ref v0)]) dX12_swapRows_54 ic_1 2 rfl (by decide) rfl ?_
    refine v_goto (tgt := 20) dX12_swapRows_57 (by decide) ?_
    exact V.pick [2, 0] rfl (hk20 _ _ _ _ h)
theorem t_X12_swapRows_20 {G : jG} {d : Nat} (hd_ : 0 ≤ d)  : ∀ (n : Nat) (v0 : Nat) (v2 : Int32) (M : jM) (b : Unit × jM), l_X12_swapRows_20  n v0 v2 M = some b → V G m_X12_swapRows d 20 [(0, .ref v0), (2, .int v2)] [] M (jQb cU b) := by
  intro n
  induction n with
  | zero => intro v0 v2 M b h; exact nomatch (show (none : jO Unit) = some b from h)
  | succ n ih => intro v0 v2 M b h; exact tb_X12_swapRows_20 hd_  ih h
def f_X12_swapRows (v0 : Nat) (M : jM) : jO Unit :=
  (gI 11 M v0 5).bind fun x1 =>
  (gI 11 M v0 6).bind fun x2 =>
  (pI 11 M v0 5 x2).bind fun M3 =>
  (pI 11 M3 v0 6 x1).bind fun M4 =>
  l_X12_swapRows_20 jF0 v0 (nI 0) M4
theorem s_X12_swapRows {G : jG} {d : Nat} (hd_ : 0 ≤ d) {v0 : Nat} {M : jM} {b : Unit × jM} (h : f_X12_swapRows  v0 M = some b) : V G m_X12_swapRows d 0 [(0, .ref v0)] [] M (jQb cU b) := by
  unfold f_X12_swapRows at h
  refine v_aload_n dX12_swapRows_0 rfl 0 rfl ?_
  refine x_gI dX12_swapRows_1 kf_X12_163 rfl h (fun x1 h => ?_)
  refine v_istore_n (ls2 := [(1, .int x1), (0, .ref v0)]) dX12_swapRows_4 rfl (by decide) rfl ?_
  refine v_aload_n dX12_swapRows_5 rfl 1 rfl ?_
  refine v_aload_n dX12_swapRows_6 rfl 1 rfl ?_
  refine x_gI dX12_swapRows_7 kf_X12_166 rfl h (fun x2 h => ?_)
  refine x_pI dX12_swapRows_10 kf_X12_163 rfl (fun q => Bool.noConfusion q) h (fun M3 h => ?_)
  refine v_aload_n dX12_swapRows_13 rfl 1 rfl ?_
  refine v_iload_n dX12_swapRows_14 rfl 0 rfl ?_
  refine x_pI dX12_swapRows_15 kf_X12_166 rfl (fun q => Bool.noConfusion q) h (fun M4 h => ?_)
  refine v_iconst dX12_swapRows_18 ic_0 ?_
  refine v_istore_n (ls2 := [(2, .int (nI 0)), (1, .int x1), (0, .ref v0)]) dX12_swapRows_19 rfl (by decide) rfl ?_
  exact V.pick [2, 0] rfl (t_X12_swapRows_20 hd_ _ _ _ _ _ h)
def j_X12_beginPick_17  (v0 : Nat) (M : jM) : jO Int32 :=
  (gI 11 M v0 7).bind fun x1 =>
  jb2 (jiv 11 M v0 (f_X12_emit v0 (nI 3) x1 (nI 0) M)) fun _ M2 =>
  jb2 (jiv 11 M2 v0 (f_X12_emit v0 (nI 4) (nI 0) (nI 0) M2)) fun _ M3 =>
  (gI 11 M3 v0 23).bind fun x4 =>
  rt (x4 - (nI 1)) M3
theorem t_X12_beginPick_17 {G : jG} {d : Nat} (hd_ : 1 ≤ d)  {v0 : Nat} {M : jM} {b : Int32 × jM} (h : j_X12_beginPick_17  v0 M = some b) : V G m_X12_beginPick d 17 [(0, .ref v0)] [] M (jQb cI b) := by
  unfold j_X12_beginPick_17 at h
  refine v_aload_n dX12_beginPick_17 rfl 0 rfl ?_
  refine v_iconst dX12_beginPick_18 ic_3 ?_
  refine v_aload_n dX12_beginPick_19 rfl 0 rfl ?_
  refine x_gI dX12_beginPick_20 kf_X12_169 rfl h (fun x1 h => ?_)
  refine v_iconst dX12_beginPick_23 ic_0 ?_
  refine x_inv (cv := cU) (As := [.int (nI 3), .int x1, .int (nI 0)]) (rest := []) (ls2 := [(0, .ref v0), (1, .int (nI 3)), (2, .int x1), (3, .int (nI 0))]) (ci := 11) (by omega) dX12_beginPick_24 ke_X12_emit kv_X12_262 rfl rfl (by decide) (Nat.le_of_ble_eq_true rfl) rfl rfl rfl rfl h (fun _ hq => s_X12_emit (by omega) hq) (fun _ M2 h => ?_)
  refine v_aload_n dX12_beginPick_27 rfl 0 rfl ?_
  refine v_iconst dX12_beginPick_28 ic_4 ?_
  refine v_iconst dX12_beginPick_29 ic_0 ?_
  refine v_iconst dX12_beginPick_30 ic_0 ?_
  refine x_inv (cv := cU) (As := [.int (nI 4), .int (nI 0), .int (nI 0)]) (rest := []) (ls2 := [(0, .ref v0), (1, .int (nI 4)), (2, .int (nI 0)), (3, .int (nI 0))]) (ci := 11) (by omega) dX12_beginPick_31 ke_X12_emit kv_X12_262 rfl rfl (by decide) (Nat.le_of_ble_eq_true rfl) rfl rfl rfl rfl h (fun _ hq => s_X12_emit (by omega) hq) (fun _ M3 h => ?_)
  refine v_aload_n dX12_beginPick_34 rfl 0 rfl ?_
  refine x_gI dX12_beginPick_35 kf_X12_234 rfl h (fun x4 h => ?_)
  refine v_iconst dX12_beginPick_38 ic_1 ?_
  refine v_isub dX12_beginPick_39 ?_
  exact x_iret dX12_beginPick_40 rfl h
def f_X12_beginPick (v0 : Nat) (v1 : Int32) (M : jM) : jO Int32 :=
  if v1 < (nI 10) then
    j_X12_beginPick_17 v0 M
  else
    jb2 (jiv 11 M v0 (f_X12_emit v0 (nI 1) (nI 0) (nI 0) M)) fun _ M1 =>
    jb2 (jiv 11 M1 v0 (f_X12_swapRows v0 M1)) fun _ M2 =>
    j_X12_beginPick_17 v0 M2
theorem s_X12_beginPick {G : jG} {d : Nat} (hd_ : 1 ≤ d) {v0 : Nat} {v1 : Int32} {M : jM} {b : Int32 × jM} (h : f_X12_beginPick  v0 v1 M = some b) : V G m_X12_beginPick d 0 [(0, .ref v0), (1, .int v1)] [] M (jQb cI b) := by
  unfold f_X12_beginPick at h
  refine v_iload_n dX12_beginPick_0 rfl 1 rfl ?_
  refine v_bipush dX12_beginPick_1 bp_10 ?_
  refine x_ic_lt (tgt := 17) dX12_beginPick_3 (by decide) h (fun h => ?_) (fun h => ?_)
  · exact V.pick [0] rfl (t_X12_beginPick_17 hd_ h)
  · refine v_aload_n dX12_beginPick_6 rfl 0 rfl ?_
    refine v_iconst dX12_beginPick_7 ic_1 ?_
    refine v_iconst dX12_beginPick_8 ic_0 ?_
    refine v_iconst dX12_beginPick_9 ic_0 ?_
    refine x_inv (cv := cU) (As := [.int (nI 1), .int (nI 0), .int (nI 0)]) (rest := []) (ls2 := [(0, .ref v0), (1, .int (nI 1)), (2, .int (nI 0)), (3, .int (nI 0))]) (ci := 11) (by omega) dX12_beginPick_10 ke_X12_emit kv_X12_262 rfl rfl (by decide) (Nat.le_of_ble_eq_true rfl) rfl rfl rfl rfl h (fun _ hq => s_X12_emit (by omega) hq) (fun _ M1 h => ?_)
    refine v_aload_n dX12_beginPick_13 rfl 0 rfl ?_
    refine x_inv (cv := cU) (As := []) (rest := []) (ls2 := [(0, .ref v0)]) (ci := 11) (by omega) dX12_beginPick_14 ke_X12_swapRows kv_X12_350 rfl rfl (by decide) (Nat.le_of_ble_eq_true rfl) rfl rfl rfl rfl h (fun _ hq => s_X12_swapRows (by omega) hq) (fun _ M2 h => ?_)
    exact V.pick [0] rfl (t_X12_beginPick_17 hd_ h)
def b_X12_closeParts_14  (k14 : Nat → Int32 → jM → jO Unit) (v0 : Nat) (v3 : Int32) (M : jM) : jO Unit :=
  (gI 11 M v0 23).bind fun x1 =>
  if x1 ≤ (v3 + (nI 1)) then
    (gI 11 M v0 23).bind fun x2 =>
    (pI 11 M v0 23 (x2 - (nI 1))).bind fun M3 =>
    rt () M3
  else
    (gR 11 M v0 24).bind fun r4 =>
    (gR 11 M v0 24).bind fun r5 =>
    (ldB M r5 (v3 + (nI 1))).bind fun x6 =>
    (stB M r4 v3 x6).bind fun M7 =>
    (gR 11 M7 v0 25).bind fun r8 =>
    (gR 11 M7 v0 25).bind fun r9 =>
    (ldI M7 r9 (v3 + (nI 1))).bind fun x10 =>
    (stI M7 r8 v3 x10).bind fun M11 =>
    (gR 11 M11 v0 26).bind fun r12 =>
    (gR 11 M11 v0 26).bind fun r13 =>
    (ldB M11 r13 (v3 + (nI 1))).bind fun x14 =>
    (stB M11 r12 v3 x14).bind fun M15 =>
    k14 v0 (v3 + (nI 1)) M15
def l_X12_closeParts_14  : Nat → Nat → Int32 → jM → jO Unit
  | 0 => fun _ _ _ => none
  | n + 1 => b_X12_closeParts_14  (l_X12_closeParts_14  n)
theorem tb_X12_closeParts_14 {G : jG} {d : Nat} (hd_ : 0 ≤ d)  {k14 : Nat → Int32 → jM → jO Unit} (hk14 : ∀ (w0 : Nat) (w3 : Int32) (M : jM) (b : Unit × jM), k14 w0 w3 M = some b → V G m_X12_closeParts d 14 [(0, .ref w0), (3, .int w3)] [] M (jQb cU b)) {v0 : Nat} {v3 : Int32} {M : jM} {b : Unit × jM} (h : b_X12_closeParts_14  k14 v0 v3 M = some b) : V G m_X12_closeParts d 14 [(0, .ref v0), (3, .int v3)] [] M (jQb cU b) := by
  unfold b_X12_closeParts_14 at h
  refine v_iload_n dX12_closeParts_14 rfl 1 rfl ?_
  refine v_iconst dX12_closeParts_15 ic_1 ?_
  refine v_iadd dX12_closeParts_16 ?_
  refine v_aload_n dX12_closeParts_17 rfl 0 rfl ?_
  refine x_gI dX12_closeParts_18 kf_X12_234 rfl h (fun x1 h => ?_)
  refine x_ic_ge (tgt := 72) dX12_closeParts_21 (by decide) h (fun h => ?_) (fun h => ?_)
  · refine v_aload_n dX12_closeParts_72 rfl 0 rfl ?_
    refine v_dup dX12_closeParts_73 rfl ?_
    refine x_gI dX12_closeParts_74 kf_X12_234 rfl h (fun x2 h => ?_)
    refine v_iconst dX12_closeParts_77 ic_1 ?_
    refine v_isub dX12_closeParts_78 ?_
    refine x_pI dX12_closeParts_79 kf_X12_234 rfl (fun q => Bool.noConfusion q) h (fun M3 h => ?_)
    exact x_vret dX12_closeParts_82 rfl h
  · refine v_aload_n dX12_closeParts_24 rfl 0 rfl ?_
    refine x_gR dX12_closeParts_25 kf_X12_53 rfl h (fun r4 h => ?_)
    refine v_iload_n dX12_closeParts_28 rfl 1 rfl ?_
    refine v_aload_n dX12_closeParts_29 rfl 0 rfl ?_
    refine x_gR dX12_closeParts_30 kf_X12_53 rfl h (fun r5 h => ?_)
    refine v_iload_n dX12_closeParts_33 rfl 1 rfl ?_
    refine v_iconst dX12_closeParts_34 ic_1 ?_
    refine v_iadd dX12_closeParts_35 ?_
    refine x_ldB dX12_closeParts_36 h (fun x6 h => ?_)
    refine x_stB dX12_closeParts_37 h (fun M7 h => ?_)
    refine v_aload_n dX12_closeParts_38 rfl 0 rfl ?_
    refine x_gR dX12_closeParts_39 kf_X12_56 rfl h (fun r8 h => ?_)
    refine v_iload_n dX12_closeParts_42 rfl 1 rfl ?_
    refine v_aload_n dX12_closeParts_43 rfl 0 rfl ?_
    refine x_gR dX12_closeParts_44 kf_X12_56 rfl h (fun r9 h => ?_)
    refine v_iload_n dX12_closeParts_47 rfl 1 rfl ?_
    refine v_iconst dX12_closeParts_48 ic_1 ?_
    refine v_iadd dX12_closeParts_49 ?_
    refine x_ldI dX12_closeParts_50 h (fun x10 h => ?_)
    refine x_stI dX12_closeParts_51 h (fun M11 h => ?_)
    refine v_aload_n dX12_closeParts_52 rfl 0 rfl ?_
    refine x_gR dX12_closeParts_53 kf_X12_59 rfl h (fun r12 h => ?_)
    refine v_iload_n dX12_closeParts_56 rfl 1 rfl ?_
    refine v_aload_n dX12_closeParts_57 rfl 0 rfl ?_
    refine x_gR dX12_closeParts_58 kf_X12_59 rfl h (fun r13 h => ?_)
    refine v_iload_n dX12_closeParts_61 rfl 1 rfl ?_
    refine v_iconst dX12_closeParts_62 ic_1 ?_
    refine v_iadd dX12_closeParts_63 ?_
    refine x_ldB dX12_closeParts_64 h (fun x14 h => ?_)
    refine x_stB dX12_closeParts_65 h (fun M15 h => ?_)
    refine v_iincC (ls2 := [(3, .int (v3 + (nI 1))), (0, .ref v0)]) dX12_closeParts_66 ic_1 1 rfl (by decide) rfl ?_
    refine v_goto (tgt := 14) dX12_closeParts_69 (by decide) ?_
    exact V.pick [1, 0] rfl (hk14 _ _ _ _ h)
theorem t_X12_closeParts_14 {G : jG} {d : Nat} (hd_ : 0 ≤ d)  : ∀ (n : Nat) (v0 : Nat) (v3 : Int32) (M : jM) (b : Unit × jM), l_X12_closeParts_14  n v0 v3 M = some b → V G m_X12_closeParts d 14 [(0, .ref v0), (3, .int v3)] [] M (jQb cU b) := by
  intro n
  induction n with
  | zero => intro v0 v3 M b h; exact nomatch (show (none : jO Unit) = some b from h)
  | succ n ih => intro v0 v3 M b h; exact tb_X12_closeParts_14 hd_  ih h
def f_X12_closeParts (v0 : Nat) (v1 : Int32) (v2 : Int32) (M : jM) : jO Unit :=
  (gR 11 M v0 25).bind fun r1 =>
  (stI M r1 v1 v2).bind fun M2 =>
  if v2 = (nI 1) then
    l_X12_closeParts_14 jF0 v0 v1 M2
  else
    rt () M2
theorem s_X12_closeParts {G : jG} {d : Nat} (hd_ : 0 ≤ d) {v0 : Nat} {v1 : Int32} {v2 : Int32} {M : jM} {b : Unit × jM} (h : f_X12_closeParts  v0 v1 v2 M = some b) : V G m_X12_closeParts d 0 [(0, .ref v0), (1, .int v1), (2, .int v2)] [] M (jQb cU b) := by
  unfold f_X12_closeParts at h
  refine v_aload_n dX12_closeParts_0 rfl 0 rfl ?_
  refine x_gR dX12_closeParts_1 kf_X12_56 rfl h (fun r1 h => ?_)
  refine v_iload_n dX12_closeParts_4 rfl 1 rfl ?_
  refine v_iload_n dX12_closeParts_5 rfl 2 rfl ?_
  refine x_stI dX12_closeParts_6 h (fun M2 h => ?_)
  refine v_iload_n dX12_closeParts_7 rfl 2 rfl ?_
  refine v_iconst dX12_closeParts_8 ic_1 ?_
  refine x_ic_ne (tgt := 82) dX12_closeParts_9 (by decide) h (fun h => ?_) (fun h => ?_)
  · refine v_iload_n dX12_closeParts_12 rfl 1 rfl ?_
    refine v_istore_n (ls2 := [(3, .int v1), (0, .ref v0), (1, .int v1), (2, .int v2)]) dX12_closeParts_13 rfl (by decide) rfl ?_
    exact V.pick [1, 0] rfl (t_X12_closeParts_14 hd_ _ _ _ _ _ h)
  · exact x_vret dX12_closeParts_82 rfl h
def f_X12_endPick (v0 : Nat) (v1 : Int32) (M : jM) : jO Unit :=
  if v1 < (nI 10) then
    rt () M
  else
    jb2 (jiv 11 M v0 (f_X12_swapRows v0 M)) fun _ M1 =>
    rt () M1
theorem s_X12_endPick {G : jG} {d : Nat} (hd_ : 1 ≤ d) {v0 : Nat} {v1 : Int32} {M : jM} {b : Unit × jM} (h : f_X12_endPick  v0 v1 M = some b) : V G m_X12_endPick d 0 [(0, .ref v0), (1, .int v1)] [] M (jQb cU b) := by
  unfold f_X12_endPick at h
  refine v_iload_n dX12_endPick_0 rfl 1 rfl ?_
  refine v_bipush dX12_endPick_1 bp_10 ?_
  refine x_ic_lt (tgt := 10) dX12_endPick_3 (by decide) h (fun h => ?_) (fun h => ?_)
  · exact x_vret dX12_endPick_10 rfl h
  · refine v_aload_n dX12_endPick_6 rfl 0 rfl ?_
    refine x_inv (cv := cU) (As := []) (rest := []) (ls2 := [(0, .ref v0)]) (ci := 11) (by omega) dX12_endPick_7 ke_X12_swapRows kv_X12_350 rfl rfl (by decide) (Nat.le_of_ble_eq_true rfl) rfl rfl rfl rfl h (fun _ hq => s_X12_swapRows (by omega) hq) (fun _ M1 h => ?_)
    exact x_vret dX12_endPick_10 rfl h
def j_X12_stops_49 (k4 : Nat → Int32 → Int32 → jM → jO Int32) (v0 : Nat) (v3 : Int32) (s0 : Int32) (s1 : Int32) (M : jM) : jO Int32 :=
  (jv (s0 + (s1 - (nI 1)))).bind fun y1 =>
  k4 v0 y1 (v3 + (nI 1)) M
theorem t_X12_stops_49 {G : jG} {d : Nat} (hd_ : 0 ≤ d) {k4 : Nat → Int32 → Int32 → jM → jO Int32} (hk4 : ∀ (w0 : Nat) (w2 : Int32) (w3 : Int32) (M : jM) (b : Int32 × jM), k4 w0 w2 w3 M = some b → V G m_X12_stops d 4 [(0, .ref w0), (2, .int w2), (3, .int w3)] [] M (jQb cI b)) {v0 : Nat} {v3 : Int32} {s0 : Int32} {s1 : Int32} {M : jM} {b : Int32 × jM} (h : j_X12_stops_49 k4 v0 v3 s0 s1 M = some b) : V G m_X12_stops d 49 [(0, .ref v0), (3, .int v3)] [.int s1, .int s0] M (jQb cI b) := by
  unfold j_X12_stops_49 at h
  refine v_iconst dX12_stops_49 ic_1 ?_
  refine v_isub dX12_stops_50 ?_
  refine v_iadd dX12_stops_51 ?_
  refine x_jvI h (fun y1 h => ?_)
  refine v_istore_n (ls2 := [(2, .int y1), (0, .ref v0), (3, .int v3)]) dX12_stops_52 rfl (by decide) rfl ?_
  refine v_iincC (ls2 := [(3, .int (v3 + (nI 1))), (2, .int y1), (0, .ref v0)]) dX12_stops_53 ic_1 2 rfl (by decide) rfl ?_
  refine v_goto (tgt := 4) dX12_stops_56 (by decide) ?_
  exact V.pick [2, 1, 0] rfl (hk4 _ _ _ _ _ h)
def j_X12_stops_29 (k4 : Nat → Int32 → Int32 → jM → jO Int32) (v0 : Nat) (v3 : Int32) (s0 : Int32) (M : jM) : jO Int32 :=
  (gR 11 M v0 25).bind fun r1 =>
  (ldI M r1 v3).bind fun x2 =>
  j_X12_stops_49 k4 v0 v3 s0 x2 M
theorem t_X12_stops_29 {G : jG} {d : Nat} (hd_ : 0 ≤ d) {k4 : Nat → Int32 → Int32 → jM → jO Int32} (hk4 : ∀ (w0 : Nat) (w2 : Int32) (w3 : Int32) (M : jM) (b : Int32 × jM), k4 w0 w2 w3 M = some b → V G m_X12_stops d 4 [(0, .ref w0), (2, .int w2), (3, .int w3)] [] M (jQb cI b)) {v0 : Nat} {v3 : Int32} {s0 : Int32} {M : jM} {b : Int32 × jM} (h : j_X12_stops_29 k4 v0 v3 s0 M = some b) : V G m_X12_stops d 29 [(0, .ref v0), (3, .int v3)] [.int s0] M (jQb cI b) := by
  unfold j_X12_stops_29 at h
  refine v_aload_n dX12_stops_29 rfl 0 rfl ?_
  refine x_gR dX12_stops_30 kf_X12_56 rfl h (fun r1 h => ?_)
  refine v_iload_n dX12_stops_33 rfl 1 rfl ?_
  refine x_ldI dX12_stops_34 h (fun x2 h => ?_)
  refine v_goto (tgt := 49) dX12_stops_35 (by decide) ?_
  exact t_X12_stops_49 hd_ hk4 h
def b_X12_stops_4  (k4 : Nat → Int32 → Int32 → jM → jO Int32) (v0 : Nat) (v2 : Int32) (v3 : Int32) (M : jM) : jO Int32 :=
  if v2 ≤ 0 then
    rt v3 M
  else
    (gR 11 M v0 24).bind fun r1 =>
    (ldB M r1 v3).bind fun x2 =>
    if x2 = (nI 4) then
      j_X12_stops_29 k4 v0 v3 v2 M
    else
      if x2 = (nI 5) then
        j_X12_stops_29 k4 v0 v3 v2 M
      else
        if (nI 3) < x2 then
          j_X12_stops_49 k4 v0 v3 v2 (nI 0) M
        else
          j_X12_stops_49 k4 v0 v3 v2 (nI 1) M
def l_X12_stops_4  : Nat → Nat → Int32 → Int32 → jM → jO Int32
  | 0 => fun _ _ _ _ => none
  | n + 1 => b_X12_stops_4  (l_X12_stops_4  n)
theorem tb_X12_stops_4 {G : jG} {d : Nat} (hd_ : 0 ≤ d)  {k4 : Nat → Int32 → Int32 → jM → jO Int32} (hk4 : ∀ (w0 : Nat) (w2 : Int32) (w3 : Int32) (M : jM) (b : Int32 × jM), k4 w0 w2 w3 M = some b → V G m_X12_stops d 4 [(0, .ref w0), (2, .int w2), (3, .int w3)] [] M (jQb cI b)) {v0 : Nat} {v2 : Int32} {v3 : Int32} {M : jM} {b : Int32 × jM} (h : b_X12_stops_4  k4 v0 v2 v3 M = some b) : V G m_X12_stops d 4 [(0, .ref v0), (2, .int v2), (3, .int v3)] [] M (jQb cI b) := by
  unfold b_X12_stops_4 at h
  refine v_iload_n dX12_stops_4 rfl 1 rfl ?_
  refine x_if_le (tgt := 59) dX12_stops_5 (by decide) h (fun h => ?_) (fun h => ?_)
  · refine v_iload_n dX12_stops_59 rfl 2 rfl ?_
    exact x_iret dX12_stops_60 rfl h
  · refine v_aload_n dX12_stops_8 rfl 0 rfl ?_
    refine x_gR dX12_stops_9 kf_X12_53 rfl h (fun r1 h => ?_)
    refine v_iload_n dX12_stops_12 rfl 2 rfl ?_
    refine x_ldB dX12_stops_13 h (fun x2 h => ?_)
    refine v_istore (ls2 := [(4, .int x2), (0, .ref v0), (2, .int v2), (3, .int v3)]) dX12_stops_14 (by decide) rfl ?_
    refine v_iload_n dX12_stops_16 rfl 2 rfl ?_
    refine v_iload dX12_stops_17 0 rfl ?_
    refine v_iconst dX12_stops_19 ic_4 ?_
    refine x_ic_eq (tgt := 29) dX12_stops_20 (by decide) h (fun h => ?_) (fun h => ?_)
    · exact V.pick [1, 3] rfl (t_X12_stops_29 hd_ hk4 h)
    · refine v_iload dX12_stops_23 0 rfl ?_
      refine v_iconst dX12_stops_25 ic_5 ?_
      refine x_ic_ne (tgt := 38) dX12_stops_26 (by decide) h (fun h => ?_) (fun h => ?_)
      · exact V.pick [1, 3] rfl (t_X12_stops_29 hd_ hk4 h)
      · refine v_iload dX12_stops_38 0 rfl ?_
        refine v_iconst dX12_stops_40 ic_3 ?_
        refine x_ic_gt (tgt := 48) dX12_stops_41 (by decide) h (fun h => ?_) (fun h => ?_)
        · refine v_iconst dX12_stops_48 ic_0 ?_
          exact V.pick [1, 3] rfl (t_X12_stops_49 hd_ hk4 h)
        · refine v_iconst dX12_stops_44 ic_1 ?_
          refine v_goto (tgt := 49) dX12_stops_45 (by decide) ?_
          exact V.pick [1, 3] rfl (t_X12_stops_49 hd_ hk4 h)
theorem t_X12_stops_4 {G : jG} {d : Nat} (hd_ : 0 ≤ d)  : ∀ (n : Nat) (v0 : Nat) (v2 : Int32) (v3 : Int32) (M : jM) (b : Int32 × jM), l_X12_stops_4  n v0 v2 v3 M = some b → V G m_X12_stops d 4 [(0, .ref v0), (2, .int v2), (3, .int v3)] [] M (jQb cI b) := by
  intro n
  induction n with
  | zero => intro v0 v2 v3 M b h; exact nomatch (show (none : jO Int32) = some b from h)
  | succ n ih => intro v0 v2 v3 M b h; exact tb_X12_stops_4 hd_  ih h
def f_X12_stops (v0 : Nat) (v1 : Int32) (M : jM) : jO Int32 :=
  l_X12_stops_4 jF0 v0 (nI 1) v1 M
theorem s_X12_stops {G : jG} {d : Nat} (hd_ : 0 ≤ d) {v0 : Nat} {v1 : Int32} {M : jM} {b : Int32 × jM} (h : f_X12_stops  v0 v1 M = some b) : V G m_X12_stops d 0 [(0, .ref v0), (1, .int v1)] [] M (jQb cI b) := by
  unfold f_X12_stops at h
  refine v_iconst dX12_stops_0 ic_1 ?_
  refine v_istore_n (ls2 := [(2, .int (nI 1)), (0, .ref v0), (1, .int v1)]) dX12_stops_1 rfl (by decide) rfl ?_
  refine v_iload_n dX12_stops_2 rfl 2 rfl ?_
  refine v_istore_n (ls2 := [(3, .int v1), (2, .int (nI 1)), (0, .ref v0), (1, .int v1)]) dX12_stops_3 rfl (by decide) rfl ?_
  exact V.pick [2, 1, 0] rfl (t_X12_stops_4 hd_ _ _ _ _ _ _ h)
