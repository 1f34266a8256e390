/-! The bytecode does as the programs say (by program). -/
set_option maxRecDepth 20000 in
theorem abX11_init_256 {C : Cx} {res : Unit × Hp}  {k256 : Nat → Int32 → Mo Unit} (h256 : ∀ (t : Nat) (v1 : Int32), AW C cX11_init mX11_init qV res 256 [vr (some t), vi v1] [] (k256 t v1)) : ∀ (t : Nat) (v1 : Int32), AW C cX11_init mX11_init qV res 256 [vr (some t), vi v1] [] (bX11_init_256  k256 t v1) := by
  intro t v1
  refine aw_iload_n dX11_init_256 rfl ?_
  refine aw_bipush (6 : Int32) dX11_init_257 rfl ?_
  refine aw_icmp_ge 291 dX11_init_259 (by decide) ?_ ?_
  · exact aw_vret dX11_init_291 rfl
  · refine aw_aload_n dX11_init_262 rfl ?_
    refine aw_gA dX11_init_263 fl_X11_22 (fun x263 => ?_)
    refine aw_iload_n dX11_init_266 rfl ?_
    refine aw_bipush (30 : Int32) dX11_init_267 rfl ?_
    refine aw_iast dX11_init_269 (fun _ => ?_)
    refine aw_aload_n dX11_init_270 rfl ?_
    refine aw_gA dX11_init_271 fl_X11_25 (fun x271 => ?_)
    refine aw_iload_n dX11_init_274 rfl ?_
    refine aw_iconst (1 : Int32) dX11_init_275 rfl ?_
    refine aw_iast dX11_init_276 (fun _ => ?_)
    refine aw_aload_n dX11_init_277 rfl ?_
    refine aw_gA dX11_init_278 fl_X11_28 (fun x278 => ?_)
    refine aw_iload_n dX11_init_281 rfl ?_
    refine aw_bipush (50 : Int32) dX11_init_282 rfl ?_
    refine aw_iast dX11_init_284 (fun _ => ?_)
    refine aw_iinc (v1 + (1 : Int32)) dX11_init_285 rfl rfl (by decide) ?_
    refine aw_goto 256 dX11_init_288 (by decide) ?_
    refine aw_msk [true, true] ?_
    exact h256 t ((v1 + (1 : Int32)))
theorem afX11_init_256 {C : Cx} {res : Unit × Hp}   : ∀ (n : Nat) (t : Nat) (v1 : Int32), AW C cX11_init mX11_init qV res 256 [vr (some t), vi v1] [] (fX11_init_256   n t v1)
  | 0, _, _ => aw_fl
  | n + 1, t, v1 => abX11_init_256  (fun t v1 => afX11_init_256   n t v1) t v1
set_option maxRecDepth 20000 in
theorem ctX11_init (t : Nat) : Ct yX11_init cX11_init mX11_init qV [vr (some t)] (pX11_init t) := by
  refine ct_go rfl rfl (fun _ => rfl) (Nat.le_of_ble_eq_true rfl) (fun C res => ?_)
  refine aw_aload_n dX11_init_0 rfl ?_
  refine aw_obj dX11_init_1 mo_X11_1 (by decide) (by decide) (Nat.le_of_ble_eq_true rfl) (fun _ => ?_)
  refine aw_aload_n dX11_init_4 rfl ?_
  refine aw_bipush (6 : Int32) dX11_init_5 rfl ?_
  refine aw_newi dX11_init_7 (fun x7 => ?_)
  refine aw_pA dX11_init_9 pl_X11_7i (fun _ => ?_)
  refine aw_aload_n dX11_init_12 rfl ?_
  refine aw_bipush (6 : Int32) dX11_init_13 rfl ?_
  refine aw_newi dX11_init_15 (fun x15 => ?_)
  refine aw_pA dX11_init_17 pl_X11_13i (fun _ => ?_)
  refine aw_aload_n dX11_init_20 rfl ?_
  refine aw_bipush (6 : Int32) dX11_init_21 rfl ?_
  refine aw_newi dX11_init_23 (fun x23 => ?_)
  refine aw_pA dX11_init_25 pl_X11_16i (fun _ => ?_)
  refine aw_aload_n dX11_init_28 rfl ?_
  refine aw_bipush (30 : Int32) dX11_init_29 rfl ?_
  refine aw_newi dX11_init_31 (fun x31 => ?_)
  refine aw_pA dX11_init_33 pl_X11_19i (fun _ => ?_)
  refine aw_aload_n dX11_init_36 rfl ?_
  refine aw_bipush (6 : Int32) dX11_init_37 rfl ?_
  refine aw_newi dX11_init_39 (fun x39 => ?_)
  refine aw_pA dX11_init_41 pl_X11_22i (fun _ => ?_)
  refine aw_aload_n dX11_init_44 rfl ?_
  refine aw_bipush (6 : Int32) dX11_init_45 rfl ?_
  refine aw_newi dX11_init_47 (fun x47 => ?_)
  refine aw_pA dX11_init_49 pl_X11_25i (fun _ => ?_)
  refine aw_aload_n dX11_init_52 rfl ?_
  refine aw_bipush (6 : Int32) dX11_init_53 rfl ?_
  refine aw_newi dX11_init_55 (fun x55 => ?_)
  refine aw_pA dX11_init_57 pl_X11_28i (fun _ => ?_)
  refine aw_aload_n dX11_init_60 rfl ?_
  refine aw_sipush (1830 : Int32) dX11_init_61 rfl ?_
  refine aw_newl dX11_init_64 (fun x64 => ?_)
  refine aw_pA dX11_init_66 pl_X11_31i (fun _ => ?_)
  refine aw_aload_n dX11_init_69 rfl ?_
  refine aw_bipush (6 : Int32) dX11_init_70 rfl ?_
  refine aw_newl dX11_init_72 (fun x72 => ?_)
  refine aw_pA dX11_init_74 pl_X11_35i (fun _ => ?_)
  refine aw_aload_n dX11_init_77 rfl ?_
  refine aw_bipush (30 : Int32) dX11_init_78 rfl ?_
  refine aw_newl dX11_init_80 (fun x80 => ?_)
  refine aw_pA dX11_init_82 pl_X11_38i (fun _ => ?_)
  refine aw_aload_n dX11_init_85 rfl ?_
  refine aw_bipush (7 : Int32) dX11_init_86 rfl ?_
  refine aw_newi dX11_init_88 (fun x88 => ?_)
  refine aw_pA dX11_init_90 pl_X11_41i (fun _ => ?_)
  refine aw_aload_n dX11_init_93 rfl ?_
  refine aw_bipush (8 : Int32) dX11_init_94 rfl ?_
  refine aw_newi dX11_init_96 (fun x96 => ?_)
  refine aw_pA dX11_init_98 pl_X11_44i (fun _ => ?_)
  refine aw_aload_n dX11_init_101 rfl ?_
  refine aw_bipush (64 : Int32) dX11_init_102 rfl ?_
  refine aw_newi dX11_init_104 (fun x104 => ?_)
  refine aw_pA dX11_init_106 pl_X11_47i (fun _ => ?_)
  refine aw_aload_n dX11_init_109 rfl ?_
  refine aw_bipush (64 : Int32) dX11_init_110 rfl ?_
  refine aw_newi dX11_init_112 (fun x112 => ?_)
  refine aw_pA dX11_init_114 pl_X11_50i (fun _ => ?_)
  refine aw_aload_n dX11_init_117 rfl ?_
  refine aw_bipush (8 : Int32) dX11_init_118 rfl ?_
  refine aw_newi dX11_init_120 (fun x120 => ?_)
  refine aw_pA dX11_init_122 pl_X11_53i (fun _ => ?_)
  refine aw_aload_n dX11_init_125 rfl ?_
  refine aw_iconst (-1 : Int32) dX11_init_126 rfl ?_
  refine aw_pI dX11_init_127 pl_X11_56i (fun _ => ?_)
  refine aw_aload_n dX11_init_130 rfl ?_
  refine aw_bipush (100 : Int32) dX11_init_131 rfl ?_
  refine aw_pI dX11_init_133 pl_X11_60i (fun _ => ?_)
  refine aw_aload_n dX11_init_136 rfl ?_
  refine aw_iconst (-1 : Int32) dX11_init_137 rfl ?_
  refine aw_pI dX11_init_138 pl_X11_63i (fun _ => ?_)
  refine aw_aload_n dX11_init_141 rfl ?_
  refine aw_bipush (6 : Int32) dX11_init_142 rfl ?_
  refine aw_newi dX11_init_144 (fun x144 => ?_)
  refine aw_pA dX11_init_146 pl_X11_66i (fun _ => ?_)
  refine aw_aload_n dX11_init_149 rfl ?_
  refine aw_bipush (30 : Int32) dX11_init_150 rfl ?_
  refine aw_newi dX11_init_152 (fun x152 => ?_)
  refine aw_pA dX11_init_154 pl_X11_69i (fun _ => ?_)
  refine aw_aload_n dX11_init_157 rfl ?_
  refine aw_bipush (30 : Int32) dX11_init_158 rfl ?_
  refine aw_newi dX11_init_160 (fun x160 => ?_)
  refine aw_pA dX11_init_162 pl_X11_72i (fun _ => ?_)
  refine aw_aload_n dX11_init_165 rfl ?_
  refine aw_bipush (30 : Int32) dX11_init_166 rfl ?_
  refine aw_newi dX11_init_168 (fun x168 => ?_)
  refine aw_pA dX11_init_170 pl_X11_75i (fun _ => ?_)
  refine aw_aload_n dX11_init_173 rfl ?_
  refine aw_bipush (30 : Int32) dX11_init_174 rfl ?_
  refine aw_newi dX11_init_176 (fun x176 => ?_)
  refine aw_pA dX11_init_178 pl_X11_78i (fun _ => ?_)
  refine aw_aload_n dX11_init_181 rfl ?_
  refine aw_bipush (24 : Int32) dX11_init_182 rfl ?_
  refine aw_newi dX11_init_184 (fun x184 => ?_)
  refine aw_pA dX11_init_186 pl_X11_81i (fun _ => ?_)
  refine aw_aload_n dX11_init_189 rfl ?_
  refine aw_bipush (24 : Int32) dX11_init_190 rfl ?_
  refine aw_newi dX11_init_192 (fun x192 => ?_)
  refine aw_pA dX11_init_194 pl_X11_84i (fun _ => ?_)
  refine aw_aload_n dX11_init_197 rfl ?_
  refine aw_bipush (24 : Int32) dX11_init_198 rfl ?_
  refine aw_newi dX11_init_200 (fun x200 => ?_)
  refine aw_pA dX11_init_202 pl_X11_87i (fun _ => ?_)
  refine aw_aload_n dX11_init_205 rfl ?_
  refine aw_bipush (24 : Int32) dX11_init_206 rfl ?_
  refine aw_newi dX11_init_208 (fun x208 => ?_)
  refine aw_pA dX11_init_210 pl_X11_90i (fun _ => ?_)
  refine aw_aload_n dX11_init_213 rfl ?_
  refine aw_bipush (24 : Int32) dX11_init_214 rfl ?_
  refine aw_newz dX11_init_216 (fun x216 => ?_)
  refine aw_pA dX11_init_218 pl_X11_93i (fun _ => ?_)
  refine aw_aload_n dX11_init_221 rfl ?_
  refine aw_bipush (10 : Int32) dX11_init_222 rfl ?_
  refine aw_newi dX11_init_224 (fun x224 => ?_)
  refine aw_pA dX11_init_226 pl_X11_97i (fun _ => ?_)
  refine aw_aload_n dX11_init_229 rfl ?_
  refine aw_bipush (10 : Int32) dX11_init_230 rfl ?_
  refine aw_newi dX11_init_232 (fun x232 => ?_)
  refine aw_pA dX11_init_234 pl_X11_100i (fun _ => ?_)
  refine aw_aload_n dX11_init_237 rfl ?_
  refine aw_bipush (12 : Int32) dX11_init_238 rfl ?_
  refine aw_newi dX11_init_240 (fun x240 => ?_)
  refine aw_pA dX11_init_242 pl_X11_103i (fun _ => ?_)
  refine aw_aload_n dX11_init_245 rfl ?_
  refine aw_sipush (210 : Int32) dX11_init_246 rfl ?_
  refine aw_newl dX11_init_249 (fun x249 => ?_)
  refine aw_pA dX11_init_251 pl_X11_106i (fun _ => ?_)
  refine aw_iconst (0 : Int32) dX11_init_254 rfl ?_
  refine aw_istore_n dX11_init_255 (by decide) ?_
  refine aw_msk [true, true] ?_
  exact afX11_init_256   FU t ((0 : Int32))
set_option maxRecDepth 20000 in
theorem ctX11_in (v0 : Int64) (v2 : Int64) (v4 : Int64) : Ct yX11_in cX11_in mX11_in qI [vl v0, vl v2, vl v4] (pX11_in v0 v2 v4) := by
  refine ct_go rfl rfl (fun h9 => by cases h9) (Nat.le_of_ble_eq_true rfl) (fun C res => ?_)
  refine aw_lload_n dX11_in_0 rfl ?_
  refine aw_lload_n dX11_in_1 rfl ?_
  refine aw_llt 17 dX11_in_2 dX11_in_3 (by decide) ?_ ?_
  · refine aw_iconst (0 : Int32) dX11_in_17 rfl ?_
    exact aw_zret dX11_in_18 rfl
  · refine aw_lload_n dX11_in_6 rfl ?_
    refine aw_lload dX11_in_7 rfl ?_
    refine aw_lgt 17 dX11_in_9 dX11_in_10 (by decide) ?_ ?_
    · refine aw_iconst (0 : Int32) dX11_in_17 rfl ?_
      exact aw_zret dX11_in_18 rfl
    · refine aw_iconst (1 : Int32) dX11_in_13 rfl ?_
      refine aw_goto 18 dX11_in_14 (by decide) ?_
      exact aw_zret dX11_in_18 rfl
set_option maxRecDepth 20000 in
theorem ctX11_noTrain (t : Nat) (v1 : Int32) : Ct yX11_noTrain cX11_noTrain mX11_noTrain qI [vr (some t), vi v1] (pX11_noTrain t v1) := by
  refine ct_go rfl rfl (fun h9 => by cases h9) (Nat.le_of_ble_eq_true rfl) (fun C res => ?_)
  refine aw_iload_n dX11_noTrain_0 rfl ?_
  refine aw_i2l dX11_noTrain_1 ?_
  refine aw_lconst (0 : Int64) dX11_noTrain_2 rfl ?_
  refine aw_aload_n dX11_noTrain_3 rfl ?_
  refine aw_gI dX11_noTrain_4 fl_X11_185 (fun x4 => ?_)
  refine aw_iconst (1 : Int32) dX11_noTrain_7 rfl ?_
  refine aw_isub dX11_noTrain_8 ?_
  refine aw_i2l dX11_noTrain_9 ?_
  refine aw_cS3 puI dX11_noTrain_10 (ctX11_in _ _ _) mcX11_in ml_X11_133 msX11_in rfl (by decide) (Nat.le_of_ble_eq_true rfl) (fun x10 => ?_)
  refine aw_if_ne 20 dX11_noTrain_13 (by decide) ?_ ?_
  · refine aw_iconst (0 : Int32) dX11_noTrain_20 rfl ?_
    exact aw_zret dX11_noTrain_21 rfl
  · refine aw_iconst (1 : Int32) dX11_noTrain_16 rfl ?_
    refine aw_goto 21 dX11_noTrain_17 (by decide) ?_
    exact aw_zret dX11_noTrain_21 rfl
set_option maxRecDepth 20000 in
theorem ctX11_axle (t : Nat) (v1 : Int32) (v2 : Int32) (v3 : Int32) : Ct yX11_axle cX11_axle mX11_axle qI [vr (some t), vi v1, vi v2, vi v3] (pX11_axle t v1 v2 v3) := by
  refine ct_go rfl rfl (fun h9 => by cases h9) (Nat.le_of_ble_eq_true rfl) (fun C res => ?_)
  refine aw_aload_n dX11_axle_0 rfl ?_
  refine aw_iload_n dX11_axle_1 rfl ?_
  refine aw_cV1 puI dX11_axle_2 (fun o => ctX11_noTrain o _) mcX11_noTrain ml_X11_190 rfl rfl msX11_noTrain rfl (by decide) (Nat.le_of_ble_eq_true rfl) (fun x2 => ?_)
  refine aw_if_eq 12 dX11_axle_5 (by decide) ?_ ?_
  · refine aw_iload_n dX11_axle_12 rfl ?_
    refine aw_i2l dX11_axle_13 ?_
    refine aw_lconst (1 : Int64) dX11_axle_14 rfl ?_
    refine aw_ldc2 dX11_axle_15 cj_X11_193 ?_
    refine aw_cS3 puI dX11_axle_18 (ctX11_in _ _ _) mcX11_in ml_X11_133 msX11_in rfl (by decide) (Nat.le_of_ble_eq_true rfl) (fun x18 => ?_)
    refine aw_if_eq 36 dX11_axle_21 (by decide) ?_ ?_
    · refine aw_sipush (-1002 : Int32) dX11_axle_36 rfl ?_
      exact aw_iret dX11_axle_39 rfl
    · refine aw_iload_n dX11_axle_24 rfl ?_
      refine aw_i2l dX11_axle_25 ?_
      refine aw_lconst (1 : Int64) dX11_axle_26 rfl ?_
      refine aw_ldc2 dX11_axle_27 cj_X11_188 ?_
      refine aw_cS3 puI dX11_axle_30 (ctX11_in _ _ _) mcX11_in ml_X11_133 msX11_in rfl (by decide) (Nat.le_of_ble_eq_true rfl) (fun x30 => ?_)
      refine aw_if_ne 40 dX11_axle_33 (by decide) ?_ ?_
      · refine aw_aload_n dX11_axle_40 rfl ?_
        refine aw_gA dX11_axle_41 fl_X11_44 (fun x41 => ?_)
        refine aw_iload_n dX11_axle_44 rfl ?_
        refine aw_iald dX11_axle_45 (fun x45 => ?_)
        refine aw_bipush (8 : Int32) dX11_axle_46 rfl ?_
        refine aw_icmp_ne 55 dX11_axle_48 (by decide) ?_ ?_
        · refine aw_aload_n dX11_axle_55 rfl ?_
          refine aw_gA dX11_axle_56 fl_X11_47 (fun x56 => ?_)
          refine aw_bipush (8 : Int32) dX11_axle_59 rfl ?_
          refine aw_iload_n dX11_axle_61 rfl ?_
          refine aw_imul dX11_axle_62 ?_
          refine aw_aload_n dX11_axle_63 rfl ?_
          refine aw_gA dX11_axle_64 fl_X11_44 (fun x64 => ?_)
          refine aw_iload_n dX11_axle_67 rfl ?_
          refine aw_iald dX11_axle_68 (fun x68 => ?_)
          refine aw_iadd dX11_axle_69 ?_
          refine aw_iload_n dX11_axle_70 rfl ?_
          refine aw_iast dX11_axle_71 (fun _ => ?_)
          refine aw_aload_n dX11_axle_72 rfl ?_
          refine aw_gA dX11_axle_73 fl_X11_50 (fun x73 => ?_)
          refine aw_bipush (8 : Int32) dX11_axle_76 rfl ?_
          refine aw_iload_n dX11_axle_78 rfl ?_
          refine aw_imul dX11_axle_79 ?_
          refine aw_aload_n dX11_axle_80 rfl ?_
          refine aw_gA dX11_axle_81 fl_X11_44 (fun x81 => ?_)
          refine aw_iload_n dX11_axle_84 rfl ?_
          refine aw_iald dX11_axle_85 (fun x85 => ?_)
          refine aw_iadd dX11_axle_86 ?_
          refine aw_iload_n dX11_axle_87 rfl ?_
          refine aw_iast dX11_axle_88 (fun _ => ?_)
          refine aw_aload_n dX11_axle_89 rfl ?_
          refine aw_gA dX11_axle_90 fl_X11_44 (fun x90 => ?_)
          refine aw_iload_n dX11_axle_93 rfl ?_
          refine aw_dup2 dX11_axle_94 rfl rfl ?_
          refine aw_iald dX11_axle_95 (fun x95 => ?_)
          refine aw_iconst (1 : Int32) dX11_axle_96 rfl ?_
          refine aw_iadd dX11_axle_97 ?_
          refine aw_iast dX11_axle_98 (fun _ => ?_)
          refine aw_aload_n dX11_axle_99 rfl ?_
          refine aw_gA dX11_axle_100 fl_X11_44 (fun x100 => ?_)
          refine aw_iload_n dX11_axle_103 rfl ?_
          refine aw_iald dX11_axle_104 (fun x104 => ?_)
          exact aw_iret dX11_axle_105 rfl
        · refine aw_sipush (-1004 : Int32) dX11_axle_51 rfl ?_
          exact aw_iret dX11_axle_54 rfl
      · refine aw_sipush (-1002 : Int32) dX11_axle_36 rfl ?_
        exact aw_iret dX11_axle_39 rfl
  · refine aw_sipush (-1001 : Int32) dX11_axle_8 rfl ?_
    exact aw_iret dX11_axle_11 rfl
set_option maxRecDepth 20000 in
theorem ctX11_gapOf (t : Nat) (v1 : Int32) (v2 : Int32) : Ct yX11_gapOf cX11_gapOf mX11_gapOf qI [vr (some t), vi v1, vi v2] (pX11_gapOf t v1 v2) := by
  refine ct_go rfl rfl (fun h9 => by cases h9) (Nat.le_of_ble_eq_true rfl) (fun C res => ?_)
  refine aw_iload_n dX11_gapOf_0 rfl ?_
  refine aw_if_ne 8 dX11_gapOf_1 (by decide) ?_ ?_
  · refine aw_aload_n dX11_gapOf_8 rfl ?_
    refine aw_gA dX11_gapOf_9 fl_X11_50 (fun x9 => ?_)
    refine aw_bipush (8 : Int32) dX11_gapOf_12 rfl ?_
    refine aw_iload_n dX11_gapOf_14 rfl ?_
    refine aw_imul dX11_gapOf_15 ?_
    refine aw_iload_n dX11_gapOf_16 rfl ?_
    refine aw_iadd dX11_gapOf_17 ?_
    refine aw_iald dX11_gapOf_18 (fun x18 => ?_)
    refine aw_iload_n dX11_gapOf_19 rfl ?_
    refine aw_aload_n dX11_gapOf_20 rfl ?_
    refine aw_gI dX11_gapOf_21 fl_X11_63 (fun x21 => ?_)
    refine aw_icmp_ne 34 dX11_gapOf_24 (by decide) ?_ ?_
    · refine aw_iconst (0 : Int32) dX11_gapOf_34 rfl ?_
      refine aw_iadd dX11_gapOf_35 ?_
      exact aw_iret dX11_gapOf_36 rfl
    · refine aw_aload_n dX11_gapOf_27 rfl ?_
      refine aw_gI dX11_gapOf_28 fl_X11_195 (fun x28 => ?_)
      refine aw_goto 35 dX11_gapOf_31 (by decide) ?_
      refine aw_iadd dX11_gapOf_35 ?_
      exact aw_iret dX11_gapOf_36 rfl
  · refine aw_iconst (0 : Int32) dX11_gapOf_4 rfl ?_
    refine aw_goto 36 dX11_gapOf_5 (by decide) ?_
    exact aw_iret dX11_gapOf_36 rfl
set_option maxRecDepth 20000 in
theorem abX11_allGaps_4 {C : Cx} {res : Int32 × Hp}  {k4 : Nat → Int32 → Int32 → Int32 → Mo Int32} (h4 : ∀ (t : Nat) (v1 : Int32) (v2 : Int32) (v3 : Int32), AW C cX11_allGaps mX11_allGaps qI res 4 [vr (some t), vi v1, vi v2, vi v3] [] (k4 t v1 v2 v3)) : ∀ (t : Nat) (v1 : Int32) (v2 : Int32) (v3 : Int32), AW C cX11_allGaps mX11_allGaps qI res 4 [vr (some t), vi v1, vi v2, vi v3] [] (bX11_allGaps_4  k4 t v1 v2 v3) := by
  intro t v1 v2 v3
  refine aw_iload_n dX11_allGaps_4 rfl ?_
  refine aw_aload_n dX11_allGaps_5 rfl ?_
  refine aw_gA dX11_allGaps_6 fl_X11_44 (fun x6 => ?_)
  refine aw_iload_n dX11_allGaps_9 rfl ?_
  refine aw_iald dX11_allGaps_10 (fun x10 => ?_)
  refine aw_icmp_ge 29 dX11_allGaps_11 (by decide) ?_ ?_
  · refine aw_iload_n dX11_allGaps_29 rfl ?_
    exact aw_iret dX11_allGaps_30 rfl
  · refine aw_iload_n dX11_allGaps_14 rfl ?_
    refine aw_aload_n dX11_allGaps_15 rfl ?_
    refine aw_iload_n dX11_allGaps_16 rfl ?_
    refine aw_iload_n dX11_allGaps_17 rfl ?_
    refine aw_cV2 puI dX11_allGaps_18 (fun o => ctX11_gapOf o _ _) mcX11_gapOf ml_X11_198 rfl rfl msX11_gapOf rfl (by decide) (Nat.le_of_ble_eq_true rfl) (fun x18 => ?_)
    refine aw_iadd dX11_allGaps_21 ?_
    refine aw_istore_n dX11_allGaps_22 (by decide) ?_
    refine aw_iinc (v3 + (1 : Int32)) dX11_allGaps_23 rfl rfl (by decide) ?_
    refine aw_goto 4 dX11_allGaps_26 (by decide) ?_
    refine aw_msk [true, true, true, true] ?_
    exact h4 t v1 ((v2 + x18)) ((v3 + (1 : Int32)))
theorem afX11_allGaps_4 {C : Cx} {res : Int32 × Hp}   : ∀ (n : Nat) (t : Nat) (v1 : Int32) (v2 : Int32) (v3 : Int32), AW C cX11_allGaps mX11_allGaps qI res 4 [vr (some t), vi v1, vi v2, vi v3] [] (fX11_allGaps_4   n t v1 v2 v3)
  | 0, _, _, _, _ => aw_fl
  | n + 1, t, v1, v2, v3 => abX11_allGaps_4  (fun t v1 v2 v3 => afX11_allGaps_4   n t v1 v2 v3) t v1 v2 v3
set_option maxRecDepth 20000 in
theorem ctX11_allGaps (t : Nat) (v1 : Int32) : Ct yX11_allGaps cX11_allGaps mX11_allGaps qI [vr (some t), vi v1] (pX11_allGaps t v1) := by
  refine ct_go rfl rfl (fun h9 => by cases h9) (Nat.le_of_ble_eq_true rfl) (fun C res => ?_)
  refine aw_iconst (0 : Int32) dX11_allGaps_0 rfl ?_
  refine aw_istore_n dX11_allGaps_1 (by decide) ?_
  refine aw_iconst (0 : Int32) dX11_allGaps_2 rfl ?_
  refine aw_istore_n dX11_allGaps_3 (by decide) ?_
  refine aw_msk [true, true, true, true] ?_
  exact afX11_allGaps_4   FU t v1 ((0 : Int32)) ((0 : Int32))
set_option maxRecDepth 20000 in
theorem ctX11_axles (t : Nat) (v1 : Int32) (v2 : Int32) (v3 : Int32) : Ct yX11_axles cX11_axles mX11_axles qI [vr (some t), vi v1, vi v2, vi v3] (pX11_axles t v1 v2 v3) := by
  refine ct_go rfl rfl (fun h9 => by cases h9) (Nat.le_of_ble_eq_true rfl) (fun C res => ?_)
  refine aw_aload_n dX11_axles_0 rfl ?_
  refine aw_iload_n dX11_axles_1 rfl ?_
  refine aw_cV1 puI dX11_axles_2 (fun o => ctX11_noTrain o _) mcX11_noTrain ml_X11_190 rfl rfl msX11_noTrain rfl (by decide) (Nat.le_of_ble_eq_true rfl) (fun x2 => ?_)
  refine aw_if_eq 12 dX11_axles_5 (by decide) ?_ ?_
  · refine aw_iload_n dX11_axles_12 rfl ?_
    refine aw_i2l dX11_axles_13 ?_
    refine aw_lconst (0 : Int64) dX11_axles_14 rfl ?_
    refine aw_lconst (1 : Int64) dX11_axles_15 rfl ?_
    refine aw_cS3 puI dX11_axles_16 (ctX11_in _ _ _) mcX11_in ml_X11_133 msX11_in rfl (by decide) (Nat.le_of_ble_eq_true rfl) (fun x16 => ?_)
    refine aw_if_ne 26 dX11_axles_19 (by decide) ?_ ?_
    · refine aw_iload_n dX11_axles_26 rfl ?_
      refine aw_iconst (-1 : Int32) dX11_axles_27 rfl ?_
      refine aw_icmp_ne 50 dX11_axles_28 (by decide) ?_ ?_
      · refine aw_iload_n dX11_axles_50 rfl ?_
        refine aw_i2l dX11_axles_51 ?_
        refine aw_lconst (0 : Int64) dX11_axles_52 rfl ?_
        refine aw_aload_n dX11_axles_53 rfl ?_
        refine aw_gA dX11_axles_54 fl_X11_44 (fun x54 => ?_)
        refine aw_iload_n dX11_axles_57 rfl ?_
        refine aw_iald dX11_axles_58 (fun x58 => ?_)
        refine aw_iconst (1 : Int32) dX11_axles_59 rfl ?_
        refine aw_isub dX11_axles_60 ?_
        refine aw_i2l dX11_axles_61 ?_
        refine aw_cS3 puI dX11_axles_62 (ctX11_in _ _ _) mcX11_in ml_X11_133 msX11_in rfl (by decide) (Nat.le_of_ble_eq_true rfl) (fun x62 => ?_)
        refine aw_if_ne 70 dX11_axles_65 (by decide) ?_ ?_
        · refine aw_iload_n dX11_axles_70 rfl ?_
          refine aw_if_ne 88 dX11_axles_71 (by decide) ?_ ?_
          · refine aw_aload_n dX11_axles_88 rfl ?_
            refine aw_gA dX11_axles_89 fl_X11_50 (fun x89 => ?_)
            refine aw_bipush (8 : Int32) dX11_axles_92 rfl ?_
            refine aw_iload_n dX11_axles_94 rfl ?_
            refine aw_imul dX11_axles_95 ?_
            refine aw_iload_n dX11_axles_96 rfl ?_
            refine aw_iadd dX11_axles_97 ?_
            refine aw_iald dX11_axles_98 (fun x98 => ?_)
            exact aw_iret dX11_axles_99 rfl
          · refine aw_aload_n dX11_axles_74 rfl ?_
            refine aw_gA dX11_axles_75 fl_X11_47 (fun x75 => ?_)
            refine aw_bipush (8 : Int32) dX11_axles_78 rfl ?_
            refine aw_iload_n dX11_axles_80 rfl ?_
            refine aw_imul dX11_axles_81 ?_
            refine aw_iload_n dX11_axles_82 rfl ?_
            refine aw_iadd dX11_axles_83 ?_
            refine aw_iald dX11_axles_84 (fun x84 => ?_)
            refine aw_goto 99 dX11_axles_85 (by decide) ?_
            exact aw_iret dX11_axles_99 rfl
        · refine aw_iconst (-1 : Int32) dX11_axles_68 rfl ?_
          exact aw_iret dX11_axles_69 rfl
      · refine aw_iload_n dX11_axles_31 rfl ?_
        refine aw_if_ne 44 dX11_axles_32 (by decide) ?_ ?_
        · refine aw_aload_n dX11_axles_44 rfl ?_
          refine aw_iload_n dX11_axles_45 rfl ?_
          refine aw_cV1 puI dX11_axles_46 (fun o => ctX11_allGaps o _) mcX11_allGaps ml_X11_202 rfl rfl msX11_allGaps rfl (by decide) (Nat.le_of_ble_eq_true rfl) (fun x46 => ?_)
          exact aw_iret dX11_axles_49 rfl
        · refine aw_aload_n dX11_axles_35 rfl ?_
          refine aw_gA dX11_axles_36 fl_X11_44 (fun x36 => ?_)
          refine aw_iload_n dX11_axles_39 rfl ?_
          refine aw_iald dX11_axles_40 (fun x40 => ?_)
          refine aw_goto 49 dX11_axles_41 (by decide) ?_
          exact aw_iret dX11_axles_49 rfl
    · refine aw_sipush (-1002 : Int32) dX11_axles_22 rfl ?_
      exact aw_iret dX11_axles_25 rfl
  · refine aw_sipush (-1001 : Int32) dX11_axles_8 rfl ?_
    exact aw_iret dX11_axles_11 rfl
set_option maxRecDepth 20000 in
theorem abX11_countOf_4 {C : Cx} {res : Int32 × Hp}  {k4 : Int64 → Int32 → Int32 → Mo Int32} (h4 : ∀ (v0 : Int64) (v2 : Int32) (v3 : Int32), AW C cX11_countOf mX11_countOf qI res 4 [vl v0, vu, vi v2, vi v3] [] (k4 v0 v2 v3)) : ∀ (v0 : Int64) (v2 : Int32) (v3 : Int32), AW C cX11_countOf mX11_countOf qI res 4 [vl v0, vu, vi v2, vi v3] [] (bX11_countOf_4  k4 v0 v2 v3) := by
  intro v0 v2 v3
  refine aw_iload_n dX11_countOf_4 rfl ?_
  refine aw_bipush (64 : Int32) dX11_countOf_5 rfl ?_
  refine aw_icmp_ge 25 dX11_countOf_7 (by decide) ?_ ?_
  · refine aw_iload_n dX11_countOf_25 rfl ?_
    exact aw_iret dX11_countOf_26 rfl
  · refine aw_iload_n dX11_countOf_10 rfl ?_
    refine aw_lload_n dX11_countOf_11 rfl ?_
    refine aw_iload_n dX11_countOf_12 rfl ?_
    refine aw_lshr dX11_countOf_13 ?_
    refine aw_lconst (1 : Int64) dX11_countOf_14 rfl ?_
    refine aw_land dX11_countOf_15 ?_
    refine aw_l2i dX11_countOf_16 ?_
    refine aw_iadd dX11_countOf_17 ?_
    refine aw_istore_n dX11_countOf_18 (by decide) ?_
    refine aw_iinc (v3 + (1 : Int32)) dX11_countOf_19 rfl rfl (by decide) ?_
    refine aw_goto 4 dX11_countOf_22 (by decide) ?_
    refine aw_msk [true, false, true, true] ?_
    exact h4 v0 ((v2 + (Int64.toInt32 ((srL v0 v3) &&& (1 : Int64))))) ((v3 + (1 : Int32)))
theorem afX11_countOf_4 {C : Cx} {res : Int32 × Hp}   : ∀ (n : Nat) (v0 : Int64) (v2 : Int32) (v3 : Int32), AW C cX11_countOf mX11_countOf qI res 4 [vl v0, vu, vi v2, vi v3] [] (fX11_countOf_4   n v0 v2 v3)
  | 0, _, _, _ => aw_fl
  | n + 1, v0, v2, v3 => abX11_countOf_4  (fun v0 v2 v3 => afX11_countOf_4   n v0 v2 v3) v0 v2 v3
set_option maxRecDepth 20000 in
theorem ctX11_countOf (v0 : Int64) : Ct yX11_countOf cX11_countOf mX11_countOf qI [vl v0] (pX11_countOf v0) := by
  refine ct_go rfl rfl (fun h9 => by cases h9) (Nat.le_of_ble_eq_true rfl) (fun C res => ?_)
  refine aw_iconst (0 : Int32) dX11_countOf_0 rfl ?_
  refine aw_istore_n dX11_countOf_1 (by decide) ?_
  refine aw_iconst (0 : Int32) dX11_countOf_2 rfl ?_
  refine aw_istore_n dX11_countOf_3 (by decide) ?_
  refine aw_msk [true, false, true, true] ?_
  exact afX11_countOf_4   FU v0 ((0 : Int32)) ((0 : Int32))
set_option maxRecDepth 20000 in
theorem abX11_layTable_174 {C : Cx} {res : Unit × Hp}  {k14 : Nat → Int32 → Int64 → Int32 → Int32 → Int32 → Int32 → Mo Unit} (h14 : ∀ (t : Nat) (v1 : Int32) (v2 : Int64) (v4 : Int32) (v5 : Int32) (v6 : Int32) (v7 : Int32), AW C cX11_layTable mX11_layTable qV res 14 [vr (some t), vi v1, vl v2, vu, vi v4, vi v5, vi v6, vi v7, vu, vu, vu] [] (k14 t v1 v2 v4 v5 v6 v7)) : ∀ (t : Nat) (v1 : Int32) (v2 : Int64) (v4 : Int32) (v5 : Int32) (v6 : Int32) (v7 : Int32) (s0 : Option Nat) (s1 : Int32) (s2 : Int64), AW C cX11_layTable mX11_layTable qV res 174 [vr (some t), vi v1, vl v2, vu, vi v4, vi v5, vi v6, vi v7, vu, vu, vu] [vl s2, vi s1, vr s0] (bX11_layTable_174  k14 t v1 v2 v4 v5 v6 v7 s0 s1 s2) := by
  intro t v1 v2 v4 v5 v6 v7 s0 s1 s2
  refine aw_last dX11_layTable_174 (fun _ => ?_)
  refine aw_iinc (v6 + (1 : Int32)) dX11_layTable_175 rfl rfl (by decide) ?_
  refine aw_iinc (v7 + (1 : Int32)) dX11_layTable_178 rfl rfl (by decide) ?_
  refine aw_goto 14 dX11_layTable_181 (by decide) ?_
  refine aw_msk [true, true, true, false, true, true, true, true, false, false, false] ?_
  exact h14 t v1 v2 v4 v5 ((v6 + (1 : Int32))) ((v7 + (1 : Int32)))
set_option maxRecDepth 20000 in
theorem abX11_layTable_132 {C : Cx} {res : Unit × Hp}  {k14 : Nat → Int32 → Int64 → Int32 → Int32 → Int32 → Int32 → Mo Unit} (h14 : ∀ (t : Nat) (v1 : Int32) (v2 : Int64) (v4 : Int32) (v5 : Int32) (v6 : Int32) (v7 : Int32), AW C cX11_layTable mX11_layTable qV res 14 [vr (some t), vi v1, vl v2, vu, vi v4, vi v5, vi v6, vi v7, vu, vu, vu] [] (k14 t v1 v2 v4 v5 v6 v7)) : ∀ (t : Nat) (v1 : Int32) (v2 : Int64) (v4 : Int32) (v5 : Int32) (v6 : Int32) (v7 : Int32) (v8 : Int32), AW C cX11_layTable mX11_layTable qV res 132 [vr (some t), vi v1, vl v2, vu, vi v4, vi v5, vi v6, vi v7, vi v8, vu, vu] [] (bX11_layTable_132  k14 t v1 v2 v4 v5 v6 v7 v8) := by
  intro t v1 v2 v4 v5 v6 v7 v8
  refine aw_iload dX11_layTable_132 rfl ?_
  refine aw_if_eq 178 dX11_layTable_134 (by decide) ?_ ?_
  · refine aw_iinc (v7 + (1 : Int32)) dX11_layTable_178 rfl rfl (by decide) ?_
    refine aw_goto 14 dX11_layTable_181 (by decide) ?_
    refine aw_msk [true, true, true, false, true, true, true, true, false, false, false] ?_
    exact h14 t v1 v2 v4 v5 v6 ((v7 + (1 : Int32)))
  · refine aw_aload_n dX11_layTable_137 rfl ?_
    refine aw_gA dX11_layTable_138 fl_X11_38 (fun x138 => ?_)
    refine aw_bipush (6 : Int32) dX11_layTable_141 rfl ?_
    refine aw_iload dX11_layTable_143 rfl ?_
    refine aw_imul dX11_layTable_145 ?_
    refine aw_iconst (5 : Int32) dX11_layTable_146 rfl ?_
    refine aw_iadd dX11_layTable_147 ?_
    refine aw_iload dX11_layTable_148 rfl ?_
    refine aw_if_ne 157 dX11_layTable_150 (by decide) ?_ ?_
    · refine aw_iload dX11_layTable_157 rfl ?_
      refine aw_iload dX11_layTable_159 rfl ?_
      refine aw_icmp_ge 173 dX11_layTable_161 (by decide) ?_ ?_
      · refine aw_lconst (0 : Int64) dX11_layTable_173 rfl ?_
        refine aw_msk [true, true, true, false, true, true, true, true, false, false, false] ?_
        exact abX11_layTable_174  h14 t v1 v2 v4 v5 v6 v7 x138 ((((6 : Int32) * v6) + (5 : Int32))) ((0 : Int64))
      · refine aw_iload dX11_layTable_164 rfl ?_
        refine aw_iload dX11_layTable_166 rfl ?_
        refine aw_isub dX11_layTable_168 ?_
        refine aw_i2l dX11_layTable_169 ?_
        refine aw_goto 174 dX11_layTable_170 (by decide) ?_
        refine aw_msk [true, true, true, false, true, true, true, true, false, false, false] ?_
        exact abX11_layTable_174  h14 t v1 v2 v4 v5 v6 v7 x138 ((((6 : Int32) * v6) + (5 : Int32))) ((Int32.toInt64 (v7 - v4)))
    · refine aw_lconst (1 : Int64) dX11_layTable_153 rfl ?_
      refine aw_goto 174 dX11_layTable_154 (by decide) ?_
      refine aw_msk [true, true, true, false, true, true, true, true, false, false, false] ?_
      exact abX11_layTable_174  h14 t v1 v2 v4 v5 v6 v7 x138 ((((6 : Int32) * v6) + (5 : Int32))) ((1 : Int64))
set_option maxRecDepth 20000 in
theorem abX11_layTable_125 {C : Cx} {res : Unit × Hp}  {k14 : Nat → Int32 → Int64 → Int32 → Int32 → Int32 → Int32 → Mo Unit} (h14 : ∀ (t : Nat) (v1 : Int32) (v2 : Int64) (v4 : Int32) (v5 : Int32) (v6 : Int32) (v7 : Int32), AW C cX11_layTable mX11_layTable qV res 14 [vr (some t), vi v1, vl v2, vu, vi v4, vi v5, vi v6, vi v7, vu, vu, vu] [] (k14 t v1 v2 v4 v5 v6 v7)) {k62 : Nat → Int32 → Int64 → Int32 → Int32 → Int32 → Int32 → Int32 → Int32 → Mo Unit} (h62 : ∀ (t : Nat) (v1 : Int32) (v2 : Int64) (v4 : Int32) (v5 : Int32) (v6 : Int32) (v7 : Int32) (v8 : Int32) (v9 : Int32), AW C cX11_layTable mX11_layTable qV res 62 [vr (some t), vi v1, vl v2, vu, vi v4, vi v5, vi v6, vi v7, vi v8, vi v9, vu] [] (k62 t v1 v2 v4 v5 v6 v7 v8 v9)) : ∀ (t : Nat) (v1 : Int32) (v2 : Int64) (v4 : Int32) (v5 : Int32) (v6 : Int32) (v7 : Int32) (v8 : Int32) (v9 : Int32) (s0 : Option Nat) (s1 : Int32) (s2 : Int64), AW C cX11_layTable mX11_layTable qV res 125 [vr (some t), vi v1, vl v2, vu, vi v4, vi v5, vi v6, vi v7, vi v8, vi v9, vu] [vl s2, vi s1, vr s0] (bX11_layTable_125  k14 k62 t v1 v2 v4 v5 v6 v7 v8 v9 s0 s1 s2) := by
  intro t v1 v2 v4 v5 v6 v7 v8 v9 s0 s1 s2
  refine aw_last dX11_layTable_125 (fun _ => ?_)
  refine aw_iinc (v9 + (1 : Int32)) dX11_layTable_126 rfl rfl (by decide) ?_
  refine aw_goto 62 dX11_layTable_129 (by decide) ?_
  refine aw_msk [true, true, true, false, true, true, true, true, true, true, false] ?_
  exact h62 t v1 v2 v4 v5 v6 v7 v8 ((v9 + (1 : Int32)))
set_option maxRecDepth 20000 in
theorem abX11_layTable_62 {C : Cx} {res : Unit × Hp}  {k14 : Nat → Int32 → Int64 → Int32 → Int32 → Int32 → Int32 → Mo Unit} (h14 : ∀ (t : Nat) (v1 : Int32) (v2 : Int64) (v4 : Int32) (v5 : Int32) (v6 : Int32) (v7 : Int32), AW C cX11_layTable mX11_layTable qV res 14 [vr (some t), vi v1, vl v2, vu, vi v4, vi v5, vi v6, vi v7, vu, vu, vu] [] (k14 t v1 v2 v4 v5 v6 v7)) {k62 : Nat → Int32 → Int64 → Int32 → Int32 → Int32 → Int32 → Int32 → Int32 → Mo Unit} (h62 : ∀ (t : Nat) (v1 : Int32) (v2 : Int64) (v4 : Int32) (v5 : Int32) (v6 : Int32) (v7 : Int32) (v8 : Int32) (v9 : Int32), AW C cX11_layTable mX11_layTable qV res 62 [vr (some t), vi v1, vl v2, vu, vi v4, vi v5, vi v6, vi v7, vi v8, vi v9, vu] [] (k62 t v1 v2 v4 v5 v6 v7 v8 v9)) : ∀ (t : Nat) (v1 : Int32) (v2 : Int64) (v4 : Int32) (v5 : Int32) (v6 : Int32) (v7 : Int32) (v8 : Int32) (v9 : Int32), AW C cX11_layTable mX11_layTable qV res 62 [vr (some t), vi v1, vl v2, vu, vi v4, vi v5, vi v6, vi v7, vi v8, vi v9, vu] [] (bX11_layTable_62  k14 k62 t v1 v2 v4 v5 v6 v7 v8 v9) := by
  intro t v1 v2 v4 v5 v6 v7 v8 v9
  refine aw_iload dX11_layTable_62 rfl ?_
  refine aw_iload dX11_layTable_64 rfl ?_
  refine aw_icmp_ge 132 dX11_layTable_66 (by decide) ?_ ?_
  · refine aw_msk [true, true, true, false, true, true, true, true, true, false, false] ?_
    exact abX11_layTable_132  h14 t v1 v2 v4 v5 v6 v7 v8
  · refine aw_iload dX11_layTable_69 rfl ?_
    refine aw_if_eq 132 dX11_layTable_71 (by decide) ?_ ?_
    · refine aw_msk [true, true, true, false, true, true, true, true, true, false, false] ?_
      exact abX11_layTable_132  h14 t v1 v2 v4 v5 v6 v7 v8
    · refine aw_aload_n dX11_layTable_74 rfl ?_
      refine aw_gA dX11_layTable_75 fl_X11_19 (fun x75 => ?_)
      refine aw_iconst (5 : Int32) dX11_layTable_78 rfl ?_
      refine aw_iload_n dX11_layTable_79 rfl ?_
      refine aw_imul dX11_layTable_80 ?_
      refine aw_iload dX11_layTable_81 rfl ?_
      refine aw_iadd dX11_layTable_83 ?_
      refine aw_iald dX11_layTable_84 (fun x84 => ?_)
      refine aw_istore dX11_layTable_85 (by decide) ?_
      refine aw_aload_n dX11_layTable_87 rfl ?_
      refine aw_gA dX11_layTable_88 fl_X11_38 (fun x88 => ?_)
      refine aw_bipush (6 : Int32) dX11_layTable_91 rfl ?_
      refine aw_iload dX11_layTable_93 rfl ?_
      refine aw_imul dX11_layTable_95 ?_
      refine aw_iload dX11_layTable_96 rfl ?_
      refine aw_iadd dX11_layTable_98 ?_
      refine aw_iload dX11_layTable_99 rfl ?_
      refine aw_if_ne 108 dX11_layTable_101 (by decide) ?_ ?_
      · refine aw_iload dX11_layTable_108 rfl ?_
        refine aw_iload dX11_layTable_110 rfl ?_
        refine aw_icmp_ge 124 dX11_layTable_112 (by decide) ?_ ?_
        · refine aw_lconst (0 : Int64) dX11_layTable_124 rfl ?_
          refine aw_msk [true, true, true, false, true, true, true, true, true, true, false] ?_
          exact abX11_layTable_125  h14 h62 t v1 v2 v4 v5 v6 v7 v8 v9 x88 ((((6 : Int32) * v6) + v9)) ((0 : Int64))
        · refine aw_iload dX11_layTable_115 rfl ?_
          refine aw_iload dX11_layTable_117 rfl ?_
          refine aw_isub dX11_layTable_119 ?_
          refine aw_i2l dX11_layTable_120 ?_
          refine aw_goto 125 dX11_layTable_121 (by decide) ?_
          refine aw_msk [true, true, true, false, true, true, true, true, true, true, false] ?_
          exact abX11_layTable_125  h14 h62 t v1 v2 v4 v5 v6 v7 v8 v9 x88 ((((6 : Int32) * v6) + v9)) ((Int32.toInt64 (v7 - x84)))
      · refine aw_lconst (1 : Int64) dX11_layTable_104 rfl ?_
        refine aw_goto 125 dX11_layTable_105 (by decide) ?_
        refine aw_msk [true, true, true, false, true, true, true, true, true, true, false] ?_
        exact abX11_layTable_125  h14 h62 t v1 v2 v4 v5 v6 v7 v8 v9 x88 ((((6 : Int32) * v6) + v9)) ((1 : Int64))
theorem afX11_layTable_62 {C : Cx} {res : Unit × Hp}  {k14 : Nat → Int32 → Int64 → Int32 → Int32 → Int32 → Int32 → Mo Unit} (h14 : ∀ (t : Nat) (v1 : Int32) (v2 : Int64) (v4 : Int32) (v5 : Int32) (v6 : Int32) (v7 : Int32), AW C cX11_layTable mX11_layTable qV res 14 [vr (some t), vi v1, vl v2, vu, vi v4, vi v5, vi v6, vi v7, vu, vu, vu] [] (k14 t v1 v2 v4 v5 v6 v7)) : ∀ (n : Nat) (t : Nat) (v1 : Int32) (v2 : Int64) (v4 : Int32) (v5 : Int32) (v6 : Int32) (v7 : Int32) (v8 : Int32) (v9 : Int32), AW C cX11_layTable mX11_layTable qV res 62 [vr (some t), vi v1, vl v2, vu, vi v4, vi v5, vi v6, vi v7, vi v8, vi v9, vu] [] (fX11_layTable_62  k14 n t v1 v2 v4 v5 v6 v7 v8 v9)
  | 0, _, _, _, _, _, _, _, _, _ => aw_fl
  | n + 1, t, v1, v2, v4, v5, v6, v7, v8, v9 => abX11_layTable_62  h14 (fun t v1 v2 v4 v5 v6 v7 v8 v9 => afX11_layTable_62  h14 n t v1 v2 v4 v5 v6 v7 v8 v9) t v1 v2 v4 v5 v6 v7 v8 v9
set_option maxRecDepth 20000 in
theorem abX11_layTable_14 {C : Cx} {res : Unit × Hp}  {k14 : Nat → Int32 → Int64 → Int32 → Int32 → Int32 → Int32 → Mo Unit} (h14 : ∀ (t : Nat) (v1 : Int32) (v2 : Int64) (v4 : Int32) (v5 : Int32) (v6 : Int32) (v7 : Int32), AW C cX11_layTable mX11_layTable qV res 14 [vr (some t), vi v1, vl v2, vu, vi v4, vi v5, vi v6, vi v7, vu, vu, vu] [] (k14 t v1 v2 v4 v5 v6 v7)) : ∀ (t : Nat) (v1 : Int32) (v2 : Int64) (v4 : Int32) (v5 : Int32) (v6 : Int32) (v7 : Int32), AW C cX11_layTable mX11_layTable qV res 14 [vr (some t), vi v1, vl v2, vu, vi v4, vi v5, vi v6, vi v7, vu, vu, vu] [] (bX11_layTable_14  k14 t v1 v2 v4 v5 v6 v7) := by
  intro t v1 v2 v4 v5 v6 v7
  refine aw_iload dX11_layTable_14 rfl ?_
  refine aw_aload_n dX11_layTable_16 rfl ?_
  refine aw_gA dX11_layTable_17 fl_X11_7 (fun x17 => ?_)
  refine aw_iload_n dX11_layTable_20 rfl ?_
  refine aw_iald dX11_layTable_21 (fun x21 => ?_)
  refine aw_icmp_gt 184 dX11_layTable_22 (by decide) ?_ ?_
  · exact aw_vret dX11_layTable_184 rfl
  · refine aw_iload dX11_layTable_25 rfl ?_
    refine aw_if_eq 52 dX11_layTable_27 (by decide) ?_ ?_
    · refine aw_iconst (1 : Int32) dX11_layTable_52 rfl ?_
      refine aw_goto 57 dX11_layTable_53 (by decide) ?_
      refine aw_istore dX11_layTable_57 (by decide) ?_
      refine aw_iconst (0 : Int32) dX11_layTable_59 rfl ?_
      refine aw_istore dX11_layTable_60 (by decide) ?_
      refine aw_msk [true, true, true, false, true, true, true, true, true, true, false] ?_
      exact afX11_layTable_62  h14 FU t v1 v2 v4 v5 v6 v7 ((1 : Int32)) ((0 : Int32))
    · refine aw_iload dX11_layTable_30 rfl ?_
      refine aw_aload_n dX11_layTable_32 rfl ?_
      refine aw_gA dX11_layTable_33 fl_X11_7 (fun x33 => ?_)
      refine aw_iload_n dX11_layTable_36 rfl ?_
      refine aw_iald dX11_layTable_37 (fun x37 => ?_)
      refine aw_icmp_eq 52 dX11_layTable_38 (by decide) ?_ ?_
      · refine aw_iconst (1 : Int32) dX11_layTable_52 rfl ?_
        refine aw_goto 57 dX11_layTable_53 (by decide) ?_
        refine aw_istore dX11_layTable_57 (by decide) ?_
        refine aw_iconst (0 : Int32) dX11_layTable_59 rfl ?_
        refine aw_istore dX11_layTable_60 (by decide) ?_
        refine aw_msk [true, true, true, false, true, true, true, true, true, true, false] ?_
        exact afX11_layTable_62  h14 FU t v1 v2 v4 v5 v6 v7 ((1 : Int32)) ((0 : Int32))
      · refine aw_lload_n dX11_layTable_41 rfl ?_
        refine aw_iload dX11_layTable_42 rfl ?_
        refine aw_lshr dX11_layTable_44 ?_
        refine aw_lconst (1 : Int64) dX11_layTable_45 rfl ?_
        refine aw_land dX11_layTable_46 ?_
        refine aw_lconst (1 : Int64) dX11_layTable_47 rfl ?_
        refine aw_lne 56 dX11_layTable_48 dX11_layTable_49 (by decide) ?_ ?_
        · refine aw_iconst (0 : Int32) dX11_layTable_56 rfl ?_
          refine aw_istore dX11_layTable_57 (by decide) ?_
          refine aw_iconst (0 : Int32) dX11_layTable_59 rfl ?_
          refine aw_istore dX11_layTable_60 (by decide) ?_
          refine aw_msk [true, true, true, false, true, true, true, true, true, true, false] ?_
          exact afX11_layTable_62  h14 FU t v1 v2 v4 v5 v6 v7 ((0 : Int32)) ((0 : Int32))
        · refine aw_iconst (1 : Int32) dX11_layTable_52 rfl ?_
          refine aw_goto 57 dX11_layTable_53 (by decide) ?_
          refine aw_istore dX11_layTable_57 (by decide) ?_
          refine aw_iconst (0 : Int32) dX11_layTable_59 rfl ?_
          refine aw_istore dX11_layTable_60 (by decide) ?_
          refine aw_msk [true, true, true, false, true, true, true, true, true, true, false] ?_
          exact afX11_layTable_62  h14 FU t v1 v2 v4 v5 v6 v7 ((1 : Int32)) ((0 : Int32))
theorem afX11_layTable_14 {C : Cx} {res : Unit × Hp}   : ∀ (n : Nat) (t : Nat) (v1 : Int32) (v2 : Int64) (v4 : Int32) (v5 : Int32) (v6 : Int32) (v7 : Int32), AW C cX11_layTable mX11_layTable qV res 14 [vr (some t), vi v1, vl v2, vu, vi v4, vi v5, vi v6, vi v7, vu, vu, vu] [] (fX11_layTable_14   n t v1 v2 v4 v5 v6 v7)
  | 0, _, _, _, _, _, _, _ => aw_fl
  | n + 1, t, v1, v2, v4, v5, v6, v7 => abX11_layTable_14  (fun t v1 v2 v4 v5 v6 v7 => afX11_layTable_14   n t v1 v2 v4 v5 v6 v7) t v1 v2 v4 v5 v6 v7
set_option maxRecDepth 20000 in
theorem ctX11_layTable (t : Nat) (v1 : Int32) (v2 : Int64) (v4 : Int32) : Ct yX11_layTable cX11_layTable mX11_layTable qV [vr (some t), vi v1, vl v2, vi v4] (pX11_layTable t v1 v2 v4) := by
  refine ct_go rfl rfl (fun h9 => by cases h9) (Nat.le_of_ble_eq_true rfl) (fun C res => ?_)
  refine aw_aload_n dX11_layTable_0 rfl ?_
  refine aw_gA dX11_layTable_1 fl_X11_13 (fun x1 => ?_)
  refine aw_iload_n dX11_layTable_4 rfl ?_
  refine aw_iald dX11_layTable_5 (fun x5 => ?_)
  refine aw_istore dX11_layTable_6 (by decide) ?_
  refine aw_iconst (0 : Int32) dX11_layTable_8 rfl ?_
  refine aw_istore dX11_layTable_9 (by decide) ?_
  refine aw_iconst (0 : Int32) dX11_layTable_11 rfl ?_
  refine aw_istore dX11_layTable_12 (by decide) ?_
  refine aw_msk [true, true, true, false, true, true, true, true, false, false, false] ?_
  exact afX11_layTable_14   FU t v1 v2 v4 x5 ((0 : Int32)) ((0 : Int32))
set_option maxRecDepth 20000 in
theorem ctX11_size (v0 : Int64) : Ct yX11_size cX11_size mX11_size qL [vl v0] (pX11_size v0) := by
  refine ct_go rfl rfl (fun h9 => by cases h9) (Nat.le_of_ble_eq_true rfl) (fun C res => ?_)
  refine aw_lload_n dX11_size_0 rfl ?_
  refine aw_lconst (0 : Int64) dX11_size_1 rfl ?_
  refine aw_lge 11 dX11_size_2 dX11_size_3 (by decide) ?_ ?_
  · refine aw_lload_n dX11_size_11 rfl ?_
    exact aw_lret dX11_size_12 rfl
  · refine aw_lload_n dX11_size_6 rfl ?_
    refine aw_lneg dX11_size_7 ?_
    refine aw_goto 12 dX11_size_8 (by decide) ?_
    exact aw_lret dX11_size_12 rfl
set_option maxRecDepth 20000 in
theorem abX11_change_2 {C : Cx} {res : Unit × Hp}  {k2 : Nat → Int32 → Int32 → Int32 → Mo Unit} (h2 : ∀ (t : Nat) (v1 : Int32) (v2 : Int32) (v3 : Int32), AW C cX11_change mX11_change qV res 2 [vr (some t), vi v1, vi v2, vi v3, vu, vu] [] (k2 t v1 v2 v3)) : ∀ (t : Nat) (v1 : Int32) (v2 : Int32) (v3 : Int32), AW C cX11_change mX11_change qV res 2 [vr (some t), vi v1, vi v2, vi v3, vu, vu] [] (bX11_change_2  k2 t v1 v2 v3) := by
  intro t v1 v2 v3
  refine aw_iload_n dX11_change_2 rfl ?_
  refine aw_bipush (6 : Int32) dX11_change_3 rfl ?_
  refine aw_icmp_ge 62 dX11_change_5 (by decide) ?_ ?_
  · exact aw_vret dX11_change_62 rfl
  · refine aw_aload_n dX11_change_8 rfl ?_
    refine aw_gA dX11_change_9 fl_X11_38 (fun x9 => ?_)
    refine aw_bipush (6 : Int32) dX11_change_12 rfl ?_
    refine aw_iload_n dX11_change_14 rfl ?_
    refine aw_imul dX11_change_15 ?_
    refine aw_iload_n dX11_change_16 rfl ?_
    refine aw_iadd dX11_change_17 ?_
    refine aw_lald dX11_change_18 (fun x18 => ?_)
    refine aw_lstore dX11_change_19 (by decide) ?_
    refine aw_aload_n dX11_change_21 rfl ?_
    refine aw_gA dX11_change_22 fl_X11_38 (fun x22 => ?_)
    refine aw_bipush (6 : Int32) dX11_change_25 rfl ?_
    refine aw_iload_n dX11_change_27 rfl ?_
    refine aw_imul dX11_change_28 ?_
    refine aw_iload_n dX11_change_29 rfl ?_
    refine aw_iadd dX11_change_30 ?_
    refine aw_aload_n dX11_change_31 rfl ?_
    refine aw_gA dX11_change_32 fl_X11_38 (fun x32 => ?_)
    refine aw_bipush (6 : Int32) dX11_change_35 rfl ?_
    refine aw_iload_n dX11_change_37 rfl ?_
    refine aw_imul dX11_change_38 ?_
    refine aw_iload_n dX11_change_39 rfl ?_
    refine aw_iadd dX11_change_40 ?_
    refine aw_lald dX11_change_41 (fun x41 => ?_)
    refine aw_last dX11_change_42 (fun _ => ?_)
    refine aw_aload_n dX11_change_43 rfl ?_
    refine aw_gA dX11_change_44 fl_X11_38 (fun x44 => ?_)
    refine aw_bipush (6 : Int32) dX11_change_47 rfl ?_
    refine aw_iload_n dX11_change_49 rfl ?_
    refine aw_imul dX11_change_50 ?_
    refine aw_iload_n dX11_change_51 rfl ?_
    refine aw_iadd dX11_change_52 ?_
    refine aw_lload dX11_change_53 rfl ?_
    refine aw_last dX11_change_55 (fun _ => ?_)
    refine aw_iinc (v3 + (1 : Int32)) dX11_change_56 rfl rfl (by decide) ?_
    refine aw_goto 2 dX11_change_59 (by decide) ?_
    refine aw_msk [true, true, true, true, false, false] ?_
    exact h2 t v1 v2 ((v3 + (1 : Int32)))
theorem afX11_change_2 {C : Cx} {res : Unit × Hp}   : ∀ (n : Nat) (t : Nat) (v1 : Int32) (v2 : Int32) (v3 : Int32), AW C cX11_change mX11_change qV res 2 [vr (some t), vi v1, vi v2, vi v3, vu, vu] [] (fX11_change_2   n t v1 v2 v3)
  | 0, _, _, _, _ => aw_fl
  | n + 1, t, v1, v2, v3 => abX11_change_2  (fun t v1 v2 v3 => afX11_change_2   n t v1 v2 v3) t v1 v2 v3
set_option maxRecDepth 20000 in
theorem ctX11_change (t : Nat) (v1 : Int32) (v2 : Int32) : Ct yX11_change cX11_change mX11_change qV [vr (some t), vi v1, vi v2] (pX11_change t v1 v2) := by
  refine ct_go rfl rfl (fun h9 => by cases h9) (Nat.le_of_ble_eq_true rfl) (fun C res => ?_)
  refine aw_iconst (0 : Int32) dX11_change_0 rfl ?_
  refine aw_istore_n dX11_change_1 (by decide) ?_
  refine aw_msk [true, true, true, true, false, false] ?_
  exact afX11_change_2   FU t v1 v2 ((0 : Int32))
set_option maxRecDepth 20000 in
theorem abX11_solve_154 {C : Cx} {res : Int64 × Hp}  {k5 : Nat → Int32 → Int64 → Int32 → Mo Int64} (h5 : ∀ (t : Nat) (v1 : Int32) (v2 : Int64) (v4 : Int32), AW C cX11_solve mX11_solve qL res 5 [vr (some t), vi v1, vl v2, vu, vi v4, vu, vu, vu, vu, vu, vu, vu] [] (k5 t v1 v2 v4)) {k130 : Nat → Int32 → Int64 → Int32 → Int64 → Int32 → Mo Int64} (h130 : ∀ (t : Nat) (v1 : Int32) (v2 : Int64) (v4 : Int32) (v6 : Int64) (v8 : Int32), AW C cX11_solve mX11_solve qL res 130 [vr (some t), vi v1, vl v2, vu, vi v4, vu, vl v6, vu, vi v8, vu, vu, vu] [] (k130 t v1 v2 v4 v6 v8)) {k154 : Nat → Int32 → Int64 → Int32 → Int64 → Int32 → Int64 → Int32 → Mo Int64} (h154 : ∀ (t : Nat) (v1 : Int32) (v2 : Int64) (v4 : Int32) (v6 : Int64) (v8 : Int32) (v9 : Int64) (v11 : Int32), AW C cX11_solve mX11_solve qL res 154 [vr (some t), vi v1, vl v2, vu, vi v4, vu, vl v6, vu, vi v8, vl v9, vu, vi v11] [] (k154 t v1 v2 v4 v6 v8 v9 v11)) : ∀ (t : Nat) (v1 : Int32) (v2 : Int64) (v4 : Int32) (v6 : Int64) (v8 : Int32) (v9 : Int64) (v11 : Int32), AW C cX11_solve mX11_solve qL res 154 [vr (some t), vi v1, vl v2, vu, vi v4, vu, vl v6, vu, vi v8, vl v9, vu, vi v11] [] (bX11_solve_154  k5 k130 k154 t v1 v2 v4 v6 v8 v9 v11) := by
  intro t v1 v2 v4 v6 v8 v9 v11
  refine aw_iload dX11_solve_154 rfl ?_
  refine aw_bipush (6 : Int32) dX11_solve_156 rfl ?_
  refine aw_icmp_ge 222 dX11_solve_158 (by decide) ?_ ?_
  · refine aw_iinc (v8 + (1 : Int32)) dX11_solve_222 rfl rfl (by decide) ?_
    refine aw_goto 130 dX11_solve_225 (by decide) ?_
    refine aw_msk [true, true, true, false, true, false, true, false, true, false, false, false] ?_
    exact h130 t v1 v2 v4 v6 ((v8 + (1 : Int32)))
  · refine aw_iload dX11_solve_161 rfl ?_
    refine aw_iload dX11_solve_163 rfl ?_
    refine aw_icmp_eq 222 dX11_solve_165 (by decide) ?_ ?_
    · refine aw_iinc (v8 + (1 : Int32)) dX11_solve_222 rfl rfl (by decide) ?_
      refine aw_goto 130 dX11_solve_225 (by decide) ?_
      refine aw_msk [true, true, true, false, true, false, true, false, true, false, false, false] ?_
      exact h130 t v1 v2 v4 v6 ((v8 + (1 : Int32)))
    · refine aw_aload_n dX11_solve_168 rfl ?_
      refine aw_gA dX11_solve_169 fl_X11_38 (fun x169 => ?_)
      refine aw_bipush (6 : Int32) dX11_solve_172 rfl ?_
      refine aw_iload dX11_solve_174 rfl ?_
      refine aw_imul dX11_solve_176 ?_
      refine aw_iload dX11_solve_177 rfl ?_
      refine aw_iadd dX11_solve_179 ?_
      refine aw_aload_n dX11_solve_180 rfl ?_
      refine aw_gA dX11_solve_181 fl_X11_38 (fun x181 => ?_)
      refine aw_bipush (6 : Int32) dX11_solve_184 rfl ?_
      refine aw_iload dX11_solve_186 rfl ?_
      refine aw_imul dX11_solve_188 ?_
      refine aw_iload dX11_solve_189 rfl ?_
      refine aw_iadd dX11_solve_191 ?_
      refine aw_lald dX11_solve_192 (fun x192 => ?_)
      refine aw_lload dX11_solve_193 rfl ?_
      refine aw_lmul dX11_solve_195 ?_
      refine aw_lload dX11_solve_196 rfl ?_
      refine aw_aload_n dX11_solve_198 rfl ?_
      refine aw_gA dX11_solve_199 fl_X11_38 (fun x199 => ?_)
      refine aw_bipush (6 : Int32) dX11_solve_202 rfl ?_
      refine aw_iload dX11_solve_204 rfl ?_
      refine aw_imul dX11_solve_206 ?_
      refine aw_iload dX11_solve_207 rfl ?_
      refine aw_iadd dX11_solve_209 ?_
      refine aw_lald dX11_solve_210 (fun x210 => ?_)
      refine aw_lmul dX11_solve_211 ?_
      refine aw_lsub dX11_solve_212 ?_
      refine aw_lload_n dX11_solve_213 rfl ?_
      refine aw_ldiv dX11_solve_214 (fun x214 => ?_)
      refine aw_last dX11_solve_215 (fun _ => ?_)
      refine aw_iinc (v11 + (1 : Int32)) dX11_solve_216 rfl rfl (by decide) ?_
      refine aw_goto 154 dX11_solve_219 (by decide) ?_
      refine aw_msk [true, true, true, false, true, false, true, false, true, true, false, true] ?_
      exact h154 t v1 v2 v4 v6 v8 v9 ((v11 + (1 : Int32)))
theorem afX11_solve_154 {C : Cx} {res : Int64 × Hp}  {k5 : Nat → Int32 → Int64 → Int32 → Mo Int64} (h5 : ∀ (t : Nat) (v1 : Int32) (v2 : Int64) (v4 : Int32), AW C cX11_solve mX11_solve qL res 5 [vr (some t), vi v1, vl v2, vu, vi v4, vu, vu, vu, vu, vu, vu, vu] [] (k5 t v1 v2 v4)) {k130 : Nat → Int32 → Int64 → Int32 → Int64 → Int32 → Mo Int64} (h130 : ∀ (t : Nat) (v1 : Int32) (v2 : Int64) (v4 : Int32) (v6 : Int64) (v8 : Int32), AW C cX11_solve mX11_solve qL res 130 [vr (some t), vi v1, vl v2, vu, vi v4, vu, vl v6, vu, vi v8, vu, vu, vu] [] (k130 t v1 v2 v4 v6 v8)) : ∀ (n : Nat) (t : Nat) (v1 : Int32) (v2 : Int64) (v4 : Int32) (v6 : Int64) (v8 : Int32) (v9 : Int64) (v11 : Int32), AW C cX11_solve mX11_solve qL res 154 [vr (some t), vi v1, vl v2, vu, vi v4, vu, vl v6, vu, vi v8, vl v9, vu, vi v11] [] (fX11_solve_154  k5 k130 n t v1 v2 v4 v6 v8 v9 v11)
  | 0, _, _, _, _, _, _, _, _ => aw_fl
  | n + 1, t, v1, v2, v4, v6, v8, v9, v11 => abX11_solve_154  h5 h130 (fun t v1 v2 v4 v6 v8 v9 v11 => afX11_solve_154  h5 h130 n t v1 v2 v4 v6 v8 v9 v11) t v1 v2 v4 v6 v8 v9 v11
set_option maxRecDepth 20000 in
theorem abX11_solve_130 {C : Cx} {res : Int64 × Hp}  {k5 : Nat → Int32 → Int64 → Int32 → Mo Int64} (h5 : ∀ (t : Nat) (v1 : Int32) (v2 : Int64) (v4 : Int32), AW C cX11_solve mX11_solve qL res 5 [vr (some t), vi v1, vl v2, vu, vi v4, vu, vu, vu, vu, vu, vu, vu] [] (k5 t v1 v2 v4)) {k130 : Nat → Int32 → Int64 → Int32 → Int64 → Int32 → Mo Int64} (h130 : ∀ (t : Nat) (v1 : Int32) (v2 : Int64) (v4 : Int32) (v6 : Int64) (v8 : Int32), AW C cX11_solve mX11_solve qL res 130 [vr (some t), vi v1, vl v2, vu, vi v4, vu, vl v6, vu, vi v8, vu, vu, vu] [] (k130 t v1 v2 v4 v6 v8)) : ∀ (t : Nat) (v1 : Int32) (v2 : Int64) (v4 : Int32) (v6 : Int64) (v8 : Int32), AW C cX11_solve mX11_solve qL res 130 [vr (some t), vi v1, vl v2, vu, vi v4, vu, vl v6, vu, vi v8, vu, vu, vu] [] (bX11_solve_130  k5 k130 t v1 v2 v4 v6 v8) := by
  intro t v1 v2 v4 v6 v8
  refine aw_iload dX11_solve_130 rfl ?_
  refine aw_iload_n dX11_solve_132 rfl ?_
  refine aw_icmp_ge 228 dX11_solve_133 (by decide) ?_ ?_
  · refine aw_lload dX11_solve_228 rfl ?_
    refine aw_lstore_n dX11_solve_230 (by decide) ?_
    refine aw_iinc (v4 + (1 : Int32)) dX11_solve_231 rfl rfl (by decide) ?_
    refine aw_goto 5 dX11_solve_234 (by decide) ?_
    refine aw_msk [true, true, true, false, true, false, false, false, false, false, false, false] ?_
    exact h5 t v1 v6 ((v4 + (1 : Int32)))
  · refine aw_aload_n dX11_solve_136 rfl ?_
    refine aw_gA dX11_solve_137 fl_X11_38 (fun x137 => ?_)
    refine aw_bipush (6 : Int32) dX11_solve_140 rfl ?_
    refine aw_iload dX11_solve_142 rfl ?_
    refine aw_imul dX11_solve_144 ?_
    refine aw_iload dX11_solve_145 rfl ?_
    refine aw_iadd dX11_solve_147 ?_
    refine aw_lald dX11_solve_148 (fun x148 => ?_)
    refine aw_lstore dX11_solve_149 (by decide) ?_
    refine aw_iconst (0 : Int32) dX11_solve_151 rfl ?_
    refine aw_istore dX11_solve_152 (by decide) ?_
    refine aw_msk [true, true, true, false, true, false, true, false, true, true, false, true] ?_
    exact afX11_solve_154  h5 h130 FU t v1 v2 v4 v6 v8 x148 ((0 : Int32))
theorem afX11_solve_130 {C : Cx} {res : Int64 × Hp}  {k5 : Nat → Int32 → Int64 → Int32 → Mo Int64} (h5 : ∀ (t : Nat) (v1 : Int32) (v2 : Int64) (v4 : Int32), AW C cX11_solve mX11_solve qL res 5 [vr (some t), vi v1, vl v2, vu, vi v4, vu, vu, vu, vu, vu, vu, vu] [] (k5 t v1 v2 v4)) : ∀ (n : Nat) (t : Nat) (v1 : Int32) (v2 : Int64) (v4 : Int32) (v6 : Int64) (v8 : Int32), AW C cX11_solve mX11_solve qL res 130 [vr (some t), vi v1, vl v2, vu, vi v4, vu, vl v6, vu, vi v8, vu, vu, vu] [] (fX11_solve_130  k5 n t v1 v2 v4 v6 v8)
  | 0, _, _, _, _, _, _ => aw_fl
  | n + 1, t, v1, v2, v4, v6, v8 => abX11_solve_130  h5 (fun t v1 v2 v4 v6 v8 => afX11_solve_130  h5 n t v1 v2 v4 v6 v8) t v1 v2 v4 v6 v8
set_option maxRecDepth 20000 in
theorem abX11_solve_112 {C : Cx} {res : Int64 × Hp}  {k5 : Nat → Int32 → Int64 → Int32 → Mo Int64} (h5 : ∀ (t : Nat) (v1 : Int32) (v2 : Int64) (v4 : Int32), AW C cX11_solve mX11_solve qL res 5 [vr (some t), vi v1, vl v2, vu, vi v4, vu, vu, vu, vu, vu, vu, vu] [] (k5 t v1 v2 v4)) : ∀ (t : Nat) (v1 : Int32) (v2 : Int64) (v4 : Int32), AW C cX11_solve mX11_solve qL res 112 [vr (some t), vi v1, vl v2, vu, vi v4, vu, vu, vu, vu, vu, vu, vu] [] (bX11_solve_112  k5 t v1 v2 v4) := by
  intro t v1 v2 v4
  refine aw_aload_n dX11_solve_112 rfl ?_
  refine aw_gA dX11_solve_113 fl_X11_38 (fun x113 => ?_)
  refine aw_bipush (6 : Int32) dX11_solve_116 rfl ?_
  refine aw_iload dX11_solve_118 rfl ?_
  refine aw_imul dX11_solve_120 ?_
  refine aw_iload dX11_solve_121 rfl ?_
  refine aw_iadd dX11_solve_123 ?_
  refine aw_lald dX11_solve_124 (fun x124 => ?_)
  refine aw_lstore dX11_solve_125 (by decide) ?_
  refine aw_iconst (0 : Int32) dX11_solve_127 rfl ?_
  refine aw_istore dX11_solve_128 (by decide) ?_
  refine aw_msk [true, true, true, false, true, false, true, false, true, false, false, false] ?_
  exact afX11_solve_130  h5 FU t v1 v2 v4 x124 ((0 : Int32))
set_option maxRecDepth 20000 in
theorem abX11_solve_71 {C : Cx} {res : Int64 × Hp}  {k5 : Nat → Int32 → Int64 → Int32 → Mo Int64} (h5 : ∀ (t : Nat) (v1 : Int32) (v2 : Int64) (v4 : Int32), AW C cX11_solve mX11_solve qL res 5 [vr (some t), vi v1, vl v2, vu, vi v4, vu, vu, vu, vu, vu, vu, vu] [] (k5 t v1 v2 v4)) {k71 : Nat → Int32 → Int64 → Int32 → Int32 → Int32 → Mo Int64} (h71 : ∀ (t : Nat) (v1 : Int32) (v2 : Int64) (v4 : Int32) (v5 : Int32) (v6 : Int32), AW C cX11_solve mX11_solve qL res 71 [vr (some t), vi v1, vl v2, vu, vi v4, vi v5, vi v6, vu, vu, vu, vu, vu] [] (k71 t v1 v2 v4 v5 v6)) : ∀ (t : Nat) (v1 : Int32) (v2 : Int64) (v4 : Int32) (v5 : Int32) (v6 : Int32), AW C cX11_solve mX11_solve qL res 71 [vr (some t), vi v1, vl v2, vu, vi v4, vi v5, vi v6, vu, vu, vu, vu, vu] [] (bX11_solve_71  k5 k71 t v1 v2 v4 v5 v6) := by
  intro t v1 v2 v4 v5 v6
  refine aw_iload dX11_solve_71 rfl ?_
  refine aw_bipush (6 : Int32) dX11_solve_73 rfl ?_
  refine aw_icmp_ge 112 dX11_solve_75 (by decide) ?_ ?_
  · refine aw_msk [true, true, true, false, true, false, false, false, false, false, false, false] ?_
    exact abX11_solve_112  h5 t v1 v2 v4
  · refine aw_aload_n dX11_solve_78 rfl ?_
    refine aw_gA dX11_solve_79 fl_X11_38 (fun x79 => ?_)
    refine aw_bipush (6 : Int32) dX11_solve_82 rfl ?_
    refine aw_iload dX11_solve_84 rfl ?_
    refine aw_imul dX11_solve_86 ?_
    refine aw_iload dX11_solve_87 rfl ?_
    refine aw_iadd dX11_solve_89 ?_
    refine aw_lconst (0 : Int64) dX11_solve_90 rfl ?_
    refine aw_aload_n dX11_solve_91 rfl ?_
    refine aw_gA dX11_solve_92 fl_X11_38 (fun x92 => ?_)
    refine aw_bipush (6 : Int32) dX11_solve_95 rfl ?_
    refine aw_iload dX11_solve_97 rfl ?_
    refine aw_imul dX11_solve_99 ?_
    refine aw_iload dX11_solve_100 rfl ?_
    refine aw_iadd dX11_solve_102 ?_
    refine aw_lald dX11_solve_103 (fun x103 => ?_)
    refine aw_lsub dX11_solve_104 ?_
    refine aw_last dX11_solve_105 (fun _ => ?_)
    refine aw_iinc (v6 + (1 : Int32)) dX11_solve_106 rfl rfl (by decide) ?_
    refine aw_goto 71 dX11_solve_109 (by decide) ?_
    refine aw_msk [true, true, true, false, true, true, true, false, false, false, false, false] ?_
    exact h71 t v1 v2 v4 v5 ((v6 + (1 : Int32)))
theorem afX11_solve_71 {C : Cx} {res : Int64 × Hp}  {k5 : Nat → Int32 → Int64 → Int32 → Mo Int64} (h5 : ∀ (t : Nat) (v1 : Int32) (v2 : Int64) (v4 : Int32), AW C cX11_solve mX11_solve qL res 5 [vr (some t), vi v1, vl v2, vu, vi v4, vu, vu, vu, vu, vu, vu, vu] [] (k5 t v1 v2 v4)) : ∀ (n : Nat) (t : Nat) (v1 : Int32) (v2 : Int64) (v4 : Int32) (v5 : Int32) (v6 : Int32), AW C cX11_solve mX11_solve qL res 71 [vr (some t), vi v1, vl v2, vu, vi v4, vi v5, vi v6, vu, vu, vu, vu, vu] [] (fX11_solve_71  k5 n t v1 v2 v4 v5 v6)
  | 0, _, _, _, _, _, _ => aw_fl
  | n + 1, t, v1, v2, v4, v5, v6 => abX11_solve_71  h5 (fun t v1 v2 v4 v5 v6 => afX11_solve_71  h5 n t v1 v2 v4 v5 v6) t v1 v2 v4 v5 v6
set_option maxRecDepth 20000 in
theorem abX11_solve_45 {C : Cx} {res : Int64 × Hp}  {k5 : Nat → Int32 → Int64 → Int32 → Mo Int64} (h5 : ∀ (t : Nat) (v1 : Int32) (v2 : Int64) (v4 : Int32), AW C cX11_solve mX11_solve qL res 5 [vr (some t), vi v1, vl v2, vu, vi v4, vu, vu, vu, vu, vu, vu, vu] [] (k5 t v1 v2 v4)) : ∀ (t : Nat) (v1 : Int32) (v2 : Int64) (v4 : Int32) (v5 : Int32), AW C cX11_solve mX11_solve qL res 45 [vr (some t), vi v1, vl v2, vu, vi v4, vi v5, vu, vu, vu, vu, vu, vu] [] (bX11_solve_45  k5 t v1 v2 v4 v5) := by
  intro t v1 v2 v4 v5
  refine aw_iload dX11_solve_45 rfl ?_
  refine aw_iload_n dX11_solve_47 rfl ?_
  refine aw_icmp_ne 53 dX11_solve_48 (by decide) ?_ ?_
  · refine aw_iload dX11_solve_53 rfl ?_
    refine aw_iload dX11_solve_55 rfl ?_
    refine aw_icmp_eq 112 dX11_solve_57 (by decide) ?_ ?_
    · refine aw_msk [true, true, true, false, true, false, false, false, false, false, false, false] ?_
      exact abX11_solve_112  h5 t v1 v2 v4
    · refine aw_aload_n dX11_solve_60 rfl ?_
      refine aw_iload dX11_solve_61 rfl ?_
      refine aw_iload dX11_solve_63 rfl ?_
      refine aw_cV2 puV dX11_solve_65 (fun o => ctX11_change o _ _) mcX11_change ml_X11_117 rfl rfl msX11_change rfl (by decide) (Nat.le_of_ble_eq_true rfl) (fun _ => ?_)
      refine aw_iconst (0 : Int32) dX11_solve_68 rfl ?_
      refine aw_istore dX11_solve_69 (by decide) ?_
      refine aw_msk [true, true, true, false, true, true, true, false, false, false, false, false] ?_
      exact afX11_solve_71  h5 FU t v1 v2 v4 v5 ((0 : Int32))
  · refine aw_lconst (0 : Int64) dX11_solve_51 rfl ?_
    exact aw_lret dX11_solve_52 rfl
set_option maxRecDepth 20000 in
theorem abX11_solve_15 {C : Cx} {res : Int64 × Hp}  {k5 : Nat → Int32 → Int64 → Int32 → Mo Int64} (h5 : ∀ (t : Nat) (v1 : Int32) (v2 : Int64) (v4 : Int32), AW C cX11_solve mX11_solve qL res 5 [vr (some t), vi v1, vl v2, vu, vi v4, vu, vu, vu, vu, vu, vu, vu] [] (k5 t v1 v2 v4)) {k15 : Nat → Int32 → Int64 → Int32 → Int32 → Mo Int64} (h15 : ∀ (t : Nat) (v1 : Int32) (v2 : Int64) (v4 : Int32) (v5 : Int32), AW C cX11_solve mX11_solve qL res 15 [vr (some t), vi v1, vl v2, vu, vi v4, vi v5, vu, vu, vu, vu, vu, vu] [] (k15 t v1 v2 v4 v5)) : ∀ (t : Nat) (v1 : Int32) (v2 : Int64) (v4 : Int32) (v5 : Int32), AW C cX11_solve mX11_solve qL res 15 [vr (some t), vi v1, vl v2, vu, vi v4, vi v5, vu, vu, vu, vu, vu, vu] [] (bX11_solve_15  k5 k15 t v1 v2 v4 v5) := by
  intro t v1 v2 v4 v5
  refine aw_iload dX11_solve_15 rfl ?_
  refine aw_iload_n dX11_solve_17 rfl ?_
  refine aw_icmp_ge 45 dX11_solve_18 (by decide) ?_ ?_
  · refine aw_msk [true, true, true, false, true, true, false, false, false, false, false, false] ?_
    exact abX11_solve_45  h5 t v1 v2 v4 v5
  · refine aw_aload_n dX11_solve_21 rfl ?_
    refine aw_gA dX11_solve_22 fl_X11_38 (fun x22 => ?_)
    refine aw_bipush (6 : Int32) dX11_solve_25 rfl ?_
    refine aw_iload dX11_solve_27 rfl ?_
    refine aw_imul dX11_solve_29 ?_
    refine aw_iload dX11_solve_30 rfl ?_
    refine aw_iadd dX11_solve_32 ?_
    refine aw_lald dX11_solve_33 (fun x33 => ?_)
    refine aw_lconst (0 : Int64) dX11_solve_34 rfl ?_
    refine aw_lne 45 dX11_solve_35 dX11_solve_36 (by decide) ?_ ?_
    · refine aw_msk [true, true, true, false, true, true, false, false, false, false, false, false] ?_
      exact abX11_solve_45  h5 t v1 v2 v4 v5
    · refine aw_iinc (v5 + (1 : Int32)) dX11_solve_39 rfl rfl (by decide) ?_
      refine aw_goto 15 dX11_solve_42 (by decide) ?_
      refine aw_msk [true, true, true, false, true, true, false, false, false, false, false, false] ?_
      exact h15 t v1 v2 v4 ((v5 + (1 : Int32)))
theorem afX11_solve_15 {C : Cx} {res : Int64 × Hp}  {k5 : Nat → Int32 → Int64 → Int32 → Mo Int64} (h5 : ∀ (t : Nat) (v1 : Int32) (v2 : Int64) (v4 : Int32), AW C cX11_solve mX11_solve qL res 5 [vr (some t), vi v1, vl v2, vu, vi v4, vu, vu, vu, vu, vu, vu, vu] [] (k5 t v1 v2 v4)) : ∀ (n : Nat) (t : Nat) (v1 : Int32) (v2 : Int64) (v4 : Int32) (v5 : Int32), AW C cX11_solve mX11_solve qL res 15 [vr (some t), vi v1, vl v2, vu, vi v4, vi v5, vu, vu, vu, vu, vu, vu] [] (fX11_solve_15  k5 n t v1 v2 v4 v5)
  | 0, _, _, _, _, _ => aw_fl
  | n + 1, t, v1, v2, v4, v5 => abX11_solve_15  h5 (fun t v1 v2 v4 v5 => afX11_solve_15  h5 n t v1 v2 v4 v5) t v1 v2 v4 v5
set_option maxRecDepth 20000 in
theorem abX11_solve_5 {C : Cx} {res : Int64 × Hp}  {k5 : Nat → Int32 → Int64 → Int32 → Mo Int64} (h5 : ∀ (t : Nat) (v1 : Int32) (v2 : Int64) (v4 : Int32), AW C cX11_solve mX11_solve qL res 5 [vr (some t), vi v1, vl v2, vu, vi v4, vu, vu, vu, vu, vu, vu, vu] [] (k5 t v1 v2 v4)) : ∀ (t : Nat) (v1 : Int32) (v2 : Int64) (v4 : Int32), AW C cX11_solve mX11_solve qL res 5 [vr (some t), vi v1, vl v2, vu, vi v4, vu, vu, vu, vu, vu, vu, vu] [] (bX11_solve_5  k5 t v1 v2 v4) := by
  intro t v1 v2 v4
  refine aw_iload dX11_solve_5 rfl ?_
  refine aw_iload_n dX11_solve_7 rfl ?_
  refine aw_icmp_ge 237 dX11_solve_8 (by decide) ?_ ?_
  · refine aw_lload_n dX11_solve_237 rfl ?_
    exact aw_lret dX11_solve_238 rfl
  · refine aw_iload dX11_solve_11 rfl ?_
    refine aw_istore dX11_solve_13 (by decide) ?_
    refine aw_msk [true, true, true, false, true, true, false, false, false, false, false, false] ?_
    exact afX11_solve_15  h5 FU t v1 v2 v4 v4
theorem afX11_solve_5 {C : Cx} {res : Int64 × Hp}   : ∀ (n : Nat) (t : Nat) (v1 : Int32) (v2 : Int64) (v4 : Int32), AW C cX11_solve mX11_solve qL res 5 [vr (some t), vi v1, vl v2, vu, vi v4, vu, vu, vu, vu, vu, vu, vu] [] (fX11_solve_5   n t v1 v2 v4)
  | 0, _, _, _, _ => aw_fl
  | n + 1, t, v1, v2, v4 => abX11_solve_5  (fun t v1 v2 v4 => afX11_solve_5   n t v1 v2 v4) t v1 v2 v4
set_option maxRecDepth 20000 in
theorem ctX11_solve (t : Nat) (v1 : Int32) : Ct yX11_solve cX11_solve mX11_solve qL [vr (some t), vi v1] (pX11_solve t v1) := by
  refine ct_go rfl rfl (fun h9 => by cases h9) (Nat.le_of_ble_eq_true rfl) (fun C res => ?_)
  refine aw_lconst (1 : Int64) dX11_solve_0 rfl ?_
  refine aw_lstore_n dX11_solve_1 (by decide) ?_
  refine aw_iconst (0 : Int32) dX11_solve_2 rfl ?_
  refine aw_istore dX11_solve_3 (by decide) ?_
  refine aw_msk [true, true, true, false, true, false, false, false, false, false, false, false] ?_
  exact afX11_solve_5   FU t v1 ((1 : Int64)) ((0 : Int32))
set_option maxRecDepth 20000 in
theorem abX11_findBridge_144 {C : Cx} {res : Int32 × Hp}  {k11 : Nat → Int32 → Int64 → Int32 → Int32 → Mo Int32} (h11 : ∀ (t : Nat) (v1 : Int32) (v2 : Int64) (v4 : Int32) (v5 : Int32), AW C cX11_findBridge mX11_findBridge qI res 11 [vr (some t), vi v1, vl v2, vu, vi v4, vi v5, vu, vu, vu] [] (k11 t v1 v2 v4 v5)) {k85 : Nat → Int32 → Int64 → Int32 → Int32 → Int64 → Int32 → Mo Int32} (h85 : ∀ (t : Nat) (v1 : Int32) (v2 : Int64) (v4 : Int32) (v5 : Int32) (v6 : Int64) (v8 : Int32), AW C cX11_findBridge mX11_findBridge qI res 85 [vr (some t), vi v1, vl v2, vu, vi v4, vi v5, vl v6, vu, vi v8] [] (k85 t v1 v2 v4 v5 v6 v8)) : ∀ (t : Nat) (v1 : Int32) (v2 : Int64) (v4 : Int32) (v5 : Int32) (v6 : Int64) (v8 : Int32) (s0 : Option Nat) (s1 : Int32) (s2 : Int64), AW C cX11_findBridge mX11_findBridge qI res 144 [vr (some t), vi v1, vl v2, vu, vi v4, vi v5, vl v6, vu, vi v8] [vl s2, vi s1, vr s0] (bX11_findBridge_144  k11 k85 t v1 v2 v4 v5 v6 v8 s0 s1 s2) := by
  intro t v1 v2 v4 v5 v6 v8 s0 s1 s2
  refine aw_last dX11_findBridge_144 (fun _ => ?_)
  refine aw_iinc (v8 + (1 : Int32)) dX11_findBridge_145 rfl rfl (by decide) ?_
  refine aw_goto 85 dX11_findBridge_148 (by decide) ?_
  refine aw_msk [true, true, true, false, true, true, true, false, true] ?_
  exact h85 t v1 v2 v4 v5 v6 ((v8 + (1 : Int32)))
set_option maxRecDepth 20000 in
theorem abX11_findBridge_85 {C : Cx} {res : Int32 × Hp}  {k11 : Nat → Int32 → Int64 → Int32 → Int32 → Mo Int32} (h11 : ∀ (t : Nat) (v1 : Int32) (v2 : Int64) (v4 : Int32) (v5 : Int32), AW C cX11_findBridge mX11_findBridge qI res 11 [vr (some t), vi v1, vl v2, vu, vi v4, vi v5, vu, vu, vu] [] (k11 t v1 v2 v4 v5)) {k85 : Nat → Int32 → Int64 → Int32 → Int32 → Int64 → Int32 → Mo Int32} (h85 : ∀ (t : Nat) (v1 : Int32) (v2 : Int64) (v4 : Int32) (v5 : Int32) (v6 : Int64) (v8 : Int32), AW C cX11_findBridge mX11_findBridge qI res 85 [vr (some t), vi v1, vl v2, vu, vi v4, vi v5, vl v6, vu, vi v8] [] (k85 t v1 v2 v4 v5 v6 v8)) : ∀ (t : Nat) (v1 : Int32) (v2 : Int64) (v4 : Int32) (v5 : Int32) (v6 : Int64) (v8 : Int32), AW C cX11_findBridge mX11_findBridge qI res 85 [vr (some t), vi v1, vl v2, vu, vi v4, vi v5, vl v6, vu, vi v8] [] (bX11_findBridge_85  k11 k85 t v1 v2 v4 v5 v6 v8) := by
  intro t v1 v2 v4 v5 v6 v8
  refine aw_iload dX11_findBridge_85 rfl ?_
  refine aw_iload dX11_findBridge_87 rfl ?_
  refine aw_icmp_ge 151 dX11_findBridge_89 (by decide) ?_ ?_
  · refine aw_iinc (v5 + (1 : Int32)) dX11_findBridge_151 rfl rfl (by decide) ?_
    refine aw_goto 11 dX11_findBridge_154 (by decide) ?_
    refine aw_msk [true, true, true, false, true, true, false, false, false] ?_
    exact h11 t v1 v2 v4 ((v5 + (1 : Int32)))
  · refine aw_aload_n dX11_findBridge_92 rfl ?_
    refine aw_gA dX11_findBridge_93 fl_X11_31 (fun x93 => ?_)
    refine aw_iconst (5 : Int32) dX11_findBridge_96 rfl ?_
    refine aw_bipush (61 : Int32) dX11_findBridge_97 rfl ?_
    refine aw_iload_n dX11_findBridge_99 rfl ?_
    refine aw_imul dX11_findBridge_100 ?_
    refine aw_iload dX11_findBridge_101 rfl ?_
    refine aw_iadd dX11_findBridge_103 ?_
    refine aw_imul dX11_findBridge_104 ?_
    refine aw_iload dX11_findBridge_105 rfl ?_
    refine aw_iadd dX11_findBridge_107 ?_
    refine aw_lload dX11_findBridge_108 rfl ?_
    refine aw_lconst (0 : Int64) dX11_findBridge_110 rfl ?_
    refine aw_lge 132 dX11_findBridge_111 dX11_findBridge_112 (by decide) ?_ ?_
    · refine aw_aload_n dX11_findBridge_132 rfl ?_
      refine aw_gA dX11_findBridge_133 fl_X11_38 (fun x133 => ?_)
      refine aw_bipush (6 : Int32) dX11_findBridge_136 rfl ?_
      refine aw_iload dX11_findBridge_138 rfl ?_
      refine aw_imul dX11_findBridge_140 ?_
      refine aw_iconst (5 : Int32) dX11_findBridge_141 rfl ?_
      refine aw_iadd dX11_findBridge_142 ?_
      refine aw_lald dX11_findBridge_143 (fun x143 => ?_)
      refine aw_msk [true, true, true, false, true, true, true, false, true] ?_
      exact abX11_findBridge_144  h11 h85 t v1 v2 v4 v5 v6 v8 x93 ((((5 : Int32) * (((61 : Int32) * v1) + v5)) + v8)) x143
    · refine aw_lconst (0 : Int64) dX11_findBridge_115 rfl ?_
      refine aw_aload_n dX11_findBridge_116 rfl ?_
      refine aw_gA dX11_findBridge_117 fl_X11_38 (fun x117 => ?_)
      refine aw_bipush (6 : Int32) dX11_findBridge_120 rfl ?_
      refine aw_iload dX11_findBridge_122 rfl ?_
      refine aw_imul dX11_findBridge_124 ?_
      refine aw_iconst (5 : Int32) dX11_findBridge_125 rfl ?_
      refine aw_iadd dX11_findBridge_126 ?_
      refine aw_lald dX11_findBridge_127 (fun x127 => ?_)
      refine aw_lsub dX11_findBridge_128 ?_
      refine aw_goto 144 dX11_findBridge_129 (by decide) ?_
      refine aw_msk [true, true, true, false, true, true, true, false, true] ?_
      exact abX11_findBridge_144  h11 h85 t v1 v2 v4 v5 v6 v8 x93 ((((5 : Int32) * (((61 : Int32) * v1) + v5)) + v8)) (((0 : Int64) - x127))
theorem afX11_findBridge_85 {C : Cx} {res : Int32 × Hp}  {k11 : Nat → Int32 → Int64 → Int32 → Int32 → Mo Int32} (h11 : ∀ (t : Nat) (v1 : Int32) (v2 : Int64) (v4 : Int32) (v5 : Int32), AW C cX11_findBridge mX11_findBridge qI res 11 [vr (some t), vi v1, vl v2, vu, vi v4, vi v5, vu, vu, vu] [] (k11 t v1 v2 v4 v5)) : ∀ (n : Nat) (t : Nat) (v1 : Int32) (v2 : Int64) (v4 : Int32) (v5 : Int32) (v6 : Int64) (v8 : Int32), AW C cX11_findBridge mX11_findBridge qI res 85 [vr (some t), vi v1, vl v2, vu, vi v4, vi v5, vl v6, vu, vi v8] [] (fX11_findBridge_85  k11 n t v1 v2 v4 v5 v6 v8)
  | 0, _, _, _, _, _, _, _ => aw_fl
  | n + 1, t, v1, v2, v4, v5, v6, v8 => abX11_findBridge_85  h11 (fun t v1 v2 v4 v5 v6 v8 => afX11_findBridge_85  h11 n t v1 v2 v4 v5 v6 v8) t v1 v2 v4 v5 v6 v8
set_option maxRecDepth 20000 in
theorem abX11_findBridge_25 {C : Cx} {res : Int32 × Hp}  {k11 : Nat → Int32 → Int64 → Int32 → Int32 → Mo Int32} (h11 : ∀ (t : Nat) (v1 : Int32) (v2 : Int64) (v4 : Int32) (v5 : Int32), AW C cX11_findBridge mX11_findBridge qI res 11 [vr (some t), vi v1, vl v2, vu, vi v4, vi v5, vu, vu, vu] [] (k11 t v1 v2 v4 v5)) {k25 : Nat → Int32 → Int64 → Int32 → Int32 → Int32 → Mo Int32} (h25 : ∀ (t : Nat) (v1 : Int32) (v2 : Int64) (v4 : Int32) (v5 : Int32) (v6 : Int32), AW C cX11_findBridge mX11_findBridge qI res 25 [vr (some t), vi v1, vl v2, vu, vi v4, vi v5, vi v6, vu, vu] [] (k25 t v1 v2 v4 v5 v6)) : ∀ (t : Nat) (v1 : Int32) (v2 : Int64) (v4 : Int32) (v5 : Int32) (v6 : Int32), AW C cX11_findBridge mX11_findBridge qI res 25 [vr (some t), vi v1, vl v2, vu, vi v4, vi v5, vi v6, vu, vu] [] (bX11_findBridge_25  k11 k25 t v1 v2 v4 v5 v6) := by
  intro t v1 v2 v4 v5 v6
  refine aw_iload dX11_findBridge_25 rfl ?_
  refine aw_bipush (30 : Int32) dX11_findBridge_27 rfl ?_
  refine aw_icmp_ge 46 dX11_findBridge_29 (by decide) ?_ ?_
  · refine aw_aload_n dX11_findBridge_46 rfl ?_
    refine aw_iload_n dX11_findBridge_47 rfl ?_
    refine aw_lload_n dX11_findBridge_48 rfl ?_
    refine aw_iload dX11_findBridge_49 rfl ?_
    refine aw_cV3 puV dX11_findBridge_51 (fun o => ctX11_layTable o _ _ _) mcX11_layTable ml_X11_121 rfl rfl msX11_layTable rfl (by decide) (Nat.le_of_ble_eq_true rfl) (fun _ => ?_)
    refine aw_aload_n dX11_findBridge_54 rfl ?_
    refine aw_iload dX11_findBridge_55 rfl ?_
    refine aw_cV1 puL dX11_findBridge_57 (fun o => ctX11_solve o _) mcX11_solve ml_X11_125 rfl rfl msX11_solve rfl (by decide) (Nat.le_of_ble_eq_true rfl) (fun x57 => ?_)
    refine aw_lstore dX11_findBridge_60 (by decide) ?_
    refine aw_lload dX11_findBridge_62 rfl ?_
    refine aw_lconst (0 : Int64) dX11_findBridge_64 rfl ?_
    refine aw_lne 71 dX11_findBridge_65 dX11_findBridge_66 (by decide) ?_ ?_
    · refine aw_aload_n dX11_findBridge_71 rfl ?_
      refine aw_gA dX11_findBridge_72 fl_X11_35 (fun x72 => ?_)
      refine aw_iload_n dX11_findBridge_75 rfl ?_
      refine aw_lload dX11_findBridge_76 rfl ?_
      refine aw_cS1 puL dX11_findBridge_78 (ctX11_size _) mcX11_size ml_X11_109 msX11_size rfl (by decide) (Nat.le_of_ble_eq_true rfl) (fun x78 => ?_)
      refine aw_last dX11_findBridge_81 (fun _ => ?_)
      refine aw_iconst (0 : Int32) dX11_findBridge_82 rfl ?_
      refine aw_istore dX11_findBridge_83 (by decide) ?_
      refine aw_msk [true, true, true, false, true, true, true, false, true] ?_
      exact afX11_findBridge_85  h11 FU t v1 v2 v4 v5 x57 ((0 : Int32))
    · refine aw_iconst (0 : Int32) dX11_findBridge_69 rfl ?_
      exact aw_zret dX11_findBridge_70 rfl
  · refine aw_aload_n dX11_findBridge_32 rfl ?_
    refine aw_gA dX11_findBridge_33 fl_X11_38 (fun x33 => ?_)
    refine aw_iload dX11_findBridge_36 rfl ?_
    refine aw_lconst (0 : Int64) dX11_findBridge_38 rfl ?_
    refine aw_last dX11_findBridge_39 (fun _ => ?_)
    refine aw_iinc (v6 + (1 : Int32)) dX11_findBridge_40 rfl rfl (by decide) ?_
    refine aw_goto 25 dX11_findBridge_43 (by decide) ?_
    refine aw_msk [true, true, true, false, true, true, true, false, false] ?_
    exact h25 t v1 v2 v4 v5 ((v6 + (1 : Int32)))
theorem afX11_findBridge_25 {C : Cx} {res : Int32 × Hp}  {k11 : Nat → Int32 → Int64 → Int32 → Int32 → Mo Int32} (h11 : ∀ (t : Nat) (v1 : Int32) (v2 : Int64) (v4 : Int32) (v5 : Int32), AW C cX11_findBridge mX11_findBridge qI res 11 [vr (some t), vi v1, vl v2, vu, vi v4, vi v5, vu, vu, vu] [] (k11 t v1 v2 v4 v5)) : ∀ (n : Nat) (t : Nat) (v1 : Int32) (v2 : Int64) (v4 : Int32) (v5 : Int32) (v6 : Int32), AW C cX11_findBridge mX11_findBridge qI res 25 [vr (some t), vi v1, vl v2, vu, vi v4, vi v5, vi v6, vu, vu] [] (fX11_findBridge_25  k11 n t v1 v2 v4 v5 v6)
  | 0, _, _, _, _, _, _ => aw_fl
  | n + 1, t, v1, v2, v4, v5, v6 => abX11_findBridge_25  h11 (fun t v1 v2 v4 v5 v6 => afX11_findBridge_25  h11 n t v1 v2 v4 v5 v6) t v1 v2 v4 v5 v6
set_option maxRecDepth 20000 in
theorem abX11_findBridge_11 {C : Cx} {res : Int32 × Hp}  {k11 : Nat → Int32 → Int64 → Int32 → Int32 → Mo Int32} (h11 : ∀ (t : Nat) (v1 : Int32) (v2 : Int64) (v4 : Int32) (v5 : Int32), AW C cX11_findBridge mX11_findBridge qI res 11 [vr (some t), vi v1, vl v2, vu, vi v4, vi v5, vu, vu, vu] [] (k11 t v1 v2 v4 v5)) : ∀ (t : Nat) (v1 : Int32) (v2 : Int64) (v4 : Int32) (v5 : Int32), AW C cX11_findBridge mX11_findBridge qI res 11 [vr (some t), vi v1, vl v2, vu, vi v4, vi v5, vu, vu, vu] [] (bX11_findBridge_11  k11 t v1 v2 v4 v5) := by
  intro t v1 v2 v4 v5
  refine aw_iload dX11_findBridge_11 rfl ?_
  refine aw_aload_n dX11_findBridge_13 rfl ?_
  refine aw_gA dX11_findBridge_14 fl_X11_7 (fun x14 => ?_)
  refine aw_iload_n dX11_findBridge_17 rfl ?_
  refine aw_iald dX11_findBridge_18 (fun x18 => ?_)
  refine aw_icmp_gt 157 dX11_findBridge_19 (by decide) ?_ ?_
  · refine aw_iconst (1 : Int32) dX11_findBridge_157 rfl ?_
    exact aw_zret dX11_findBridge_158 rfl
  · refine aw_iconst (0 : Int32) dX11_findBridge_22 rfl ?_
    refine aw_istore dX11_findBridge_23 (by decide) ?_
    refine aw_msk [true, true, true, false, true, true, true, false, false] ?_
    exact afX11_findBridge_25  h11 FU t v1 v2 v4 v5 ((0 : Int32))
theorem afX11_findBridge_11 {C : Cx} {res : Int32 × Hp}   : ∀ (n : Nat) (t : Nat) (v1 : Int32) (v2 : Int64) (v4 : Int32) (v5 : Int32), AW C cX11_findBridge mX11_findBridge qI res 11 [vr (some t), vi v1, vl v2, vu, vi v4, vi v5, vu, vu, vu] [] (fX11_findBridge_11   n t v1 v2 v4 v5)
  | 0, _, _, _, _, _ => aw_fl
  | n + 1, t, v1, v2, v4, v5 => abX11_findBridge_11  (fun t v1 v2 v4 v5 => afX11_findBridge_11   n t v1 v2 v4 v5) t v1 v2 v4 v5
set_option maxRecDepth 20000 in
theorem ctX11_findBridge (t : Nat) (v1 : Int32) (v2 : Int64) : Ct yX11_findBridge cX11_findBridge mX11_findBridge qI [vr (some t), vi v1, vl v2] (pX11_findBridge t v1 v2) := by
  refine ct_go rfl rfl (fun h9 => by cases h9) (Nat.le_of_ble_eq_true rfl) (fun C res => ?_)
  refine aw_aload_n dX11_findBridge_0 rfl ?_
  refine aw_gA dX11_findBridge_1 fl_X11_13 (fun x1 => ?_)
  refine aw_iload_n dX11_findBridge_4 rfl ?_
  refine aw_iald dX11_findBridge_5 (fun x5 => ?_)
  refine aw_istore dX11_findBridge_6 (by decide) ?_
  refine aw_iconst (0 : Int32) dX11_findBridge_8 rfl ?_
  refine aw_istore dX11_findBridge_9 (by decide) ?_
  refine aw_msk [true, true, true, false, true, true, false, false, false] ?_
  exact afX11_findBridge_11   FU t v1 v2 x5 ((0 : Int32))
set_option maxRecDepth 20000 in
theorem abX11_laySupports_6 {C : Cx} {res : Unit × Hp}  {k6 : Nat → Int32 → Int64 → Int32 → Int32 → Mo Unit} (h6 : ∀ (t : Nat) (v1 : Int32) (v2 : Int64) (v4 : Int32) (v5 : Int32), AW C cX11_laySupports mX11_laySupports qV res 6 [vr (some t), vi v1, vl v2, vu, vi v4, vi v5] [] (k6 t v1 v2 v4 v5)) : ∀ (t : Nat) (v1 : Int32) (v2 : Int64) (v4 : Int32) (v5 : Int32), AW C cX11_laySupports mX11_laySupports qV res 6 [vr (some t), vi v1, vl v2, vu, vi v4, vi v5] [] (bX11_laySupports_6  k6 t v1 v2 v4 v5) := by
  intro t v1 v2 v4 v5
  refine aw_iload dX11_laySupports_6 rfl ?_
  refine aw_bipush (61 : Int32) dX11_laySupports_8 rfl ?_
  refine aw_icmp_ge 46 dX11_laySupports_10 (by decide) ?_ ?_
  · exact aw_vret dX11_laySupports_46 rfl
  · refine aw_lload_n dX11_laySupports_13 rfl ?_
    refine aw_iload dX11_laySupports_14 rfl ?_
    refine aw_lshr dX11_laySupports_16 ?_
    refine aw_lconst (1 : Int64) dX11_laySupports_17 rfl ?_
    refine aw_land dX11_laySupports_18 ?_
    refine aw_lconst (1 : Int64) dX11_laySupports_19 rfl ?_
    refine aw_lne 40 dX11_laySupports_20 dX11_laySupports_21 (by decide) ?_ ?_
    · refine aw_iinc (v5 + (1 : Int32)) dX11_laySupports_40 rfl rfl (by decide) ?_
      refine aw_goto 6 dX11_laySupports_43 (by decide) ?_
      refine aw_msk [true, true, true, false, true, true] ?_
      exact h6 t v1 v2 v4 ((v5 + (1 : Int32)))
    · refine aw_aload_n dX11_laySupports_24 rfl ?_
      refine aw_gA dX11_laySupports_25 fl_X11_19 (fun x25 => ?_)
      refine aw_iconst (5 : Int32) dX11_laySupports_28 rfl ?_
      refine aw_iload_n dX11_laySupports_29 rfl ?_
      refine aw_imul dX11_laySupports_30 ?_
      refine aw_iload dX11_laySupports_31 rfl ?_
      refine aw_iadd dX11_laySupports_33 ?_
      refine aw_iload dX11_laySupports_34 rfl ?_
      refine aw_iast dX11_laySupports_36 (fun _ => ?_)
      refine aw_iinc (v4 + (1 : Int32)) dX11_laySupports_37 rfl rfl (by decide) ?_
      refine aw_iinc (v5 + (1 : Int32)) dX11_laySupports_40 rfl rfl (by decide) ?_
      refine aw_goto 6 dX11_laySupports_43 (by decide) ?_
      refine aw_msk [true, true, true, false, true, true] ?_
      exact h6 t v1 v2 ((v4 + (1 : Int32))) ((v5 + (1 : Int32)))
theorem afX11_laySupports_6 {C : Cx} {res : Unit × Hp}   : ∀ (n : Nat) (t : Nat) (v1 : Int32) (v2 : Int64) (v4 : Int32) (v5 : Int32), AW C cX11_laySupports mX11_laySupports qV res 6 [vr (some t), vi v1, vl v2, vu, vi v4, vi v5] [] (fX11_laySupports_6   n t v1 v2 v4 v5)
  | 0, _, _, _, _, _ => aw_fl
  | n + 1, t, v1, v2, v4, v5 => abX11_laySupports_6  (fun t v1 v2 v4 v5 => afX11_laySupports_6   n t v1 v2 v4 v5) t v1 v2 v4 v5
set_option maxRecDepth 20000 in
theorem ctX11_laySupports (t : Nat) (v1 : Int32) (v2 : Int64) : Ct yX11_laySupports cX11_laySupports mX11_laySupports qV [vr (some t), vi v1, vl v2] (pX11_laySupports t v1 v2) := by
  refine ct_go rfl rfl (fun h9 => by cases h9) (Nat.le_of_ble_eq_true rfl) (fun C res => ?_)
  refine aw_iconst (0 : Int32) dX11_laySupports_0 rfl ?_
  refine aw_istore dX11_laySupports_1 (by decide) ?_
  refine aw_iconst (0 : Int32) dX11_laySupports_3 rfl ?_
  refine aw_istore dX11_laySupports_4 (by decide) ?_
  refine aw_msk [true, true, true, false, true, true] ?_
  exact afX11_laySupports_6   FU t v1 v2 ((0 : Int32)) ((0 : Int32))
set_option maxRecDepth 20000 in
theorem abX11_isLoose_169 {C : Cx} {res : Int32 × Hp}  {k169 : Nat → Int32 → Int32 → Int32 → Mo Int32} (h169 : ∀ (t : Nat) (v7 : Int32) (v8 : Int32) (v9 : Int32), AW C cX11_isLoose mX11_isLoose qI res 169 [vr (some t), vu, vu, vu, vu, vu, vu, vi v7, vi v8, vi v9] [] (k169 t v7 v8 v9)) : ∀ (t : Nat) (v7 : Int32) (v8 : Int32) (v9 : Int32), AW C cX11_isLoose mX11_isLoose qI res 169 [vr (some t), vu, vu, vu, vu, vu, vu, vi v7, vi v8, vi v9] [] (bX11_isLoose_169  k169 t v7 v8 v9) := by
  intro t v7 v8 v9
  refine aw_iload dX11_isLoose_169 rfl ?_
  refine aw_iconst (5 : Int32) dX11_isLoose_171 rfl ?_
  refine aw_icmp_ge 200 dX11_isLoose_172 (by decide) ?_ ?_
  · refine aw_iload dX11_isLoose_200 rfl ?_
    exact aw_zret dX11_isLoose_202 rfl
  · refine aw_aload_n dX11_isLoose_175 rfl ?_
    refine aw_gA dX11_isLoose_176 fl_X11_19 (fun x176 => ?_)
    refine aw_iconst (5 : Int32) dX11_isLoose_179 rfl ?_
    refine aw_iload dX11_isLoose_180 rfl ?_
    refine aw_imul dX11_isLoose_182 ?_
    refine aw_iload dX11_isLoose_183 rfl ?_
    refine aw_iadd dX11_isLoose_185 ?_
    refine aw_aload_n dX11_isLoose_186 rfl ?_
    refine aw_gA dX11_isLoose_187 fl_X11_41 (fun x187 => ?_)
    refine aw_iload dX11_isLoose_190 rfl ?_
    refine aw_iald dX11_isLoose_192 (fun x192 => ?_)
    refine aw_iast dX11_isLoose_193 (fun _ => ?_)
    refine aw_iinc (v9 + (1 : Int32)) dX11_isLoose_194 rfl rfl (by decide) ?_
    refine aw_goto 169 dX11_isLoose_197 (by decide) ?_
    refine aw_msk [true, false, false, false, false, false, false, true, true, true] ?_
    exact h169 t v7 v8 ((v9 + (1 : Int32)))
theorem afX11_isLoose_169 {C : Cx} {res : Int32 × Hp}   : ∀ (n : Nat) (t : Nat) (v7 : Int32) (v8 : Int32) (v9 : Int32), AW C cX11_isLoose mX11_isLoose qI res 169 [vr (some t), vu, vu, vu, vu, vu, vu, vi v7, vi v8, vi v9] [] (fX11_isLoose_169   n t v7 v8 v9)
  | 0, _, _, _, _ => aw_fl
  | n + 1, t, v7, v8, v9 => abX11_isLoose_169  (fun t v7 v8 v9 => afX11_isLoose_169   n t v7 v8 v9) t v7 v8 v9
set_option maxRecDepth 20000 in
theorem abX11_isLoose_137 {C : Cx} {res : Int32 × Hp}   : ∀ (t : Nat) (v7 : Int32) (s0 : Int32), AW C cX11_isLoose mX11_isLoose qI res 137 [vr (some t), vu, vu, vu, vu, vu, vu, vi v7, vu, vu] [vi s0] (bX11_isLoose_137   t v7 s0) := by
  intro t v7 s0
  refine aw_istore dX11_isLoose_137 (by decide) ?_
  refine aw_aload_n dX11_isLoose_139 rfl ?_
  refine aw_gA dX11_isLoose_140 fl_X11_7 (fun x140 => ?_)
  refine aw_iload dX11_isLoose_143 rfl ?_
  refine aw_aload_n dX11_isLoose_145 rfl ?_
  refine aw_gA dX11_isLoose_146 fl_X11_41 (fun x146 => ?_)
  refine aw_iconst (5 : Int32) dX11_isLoose_149 rfl ?_
  refine aw_iald dX11_isLoose_150 (fun x150 => ?_)
  refine aw_iast dX11_isLoose_151 (fun _ => ?_)
  refine aw_aload_n dX11_isLoose_152 rfl ?_
  refine aw_gA dX11_isLoose_153 fl_X11_13 (fun x153 => ?_)
  refine aw_iload dX11_isLoose_156 rfl ?_
  refine aw_aload_n dX11_isLoose_158 rfl ?_
  refine aw_gA dX11_isLoose_159 fl_X11_41 (fun x159 => ?_)
  refine aw_bipush (6 : Int32) dX11_isLoose_162 rfl ?_
  refine aw_iald dX11_isLoose_164 (fun x164 => ?_)
  refine aw_iast dX11_isLoose_165 (fun _ => ?_)
  refine aw_iconst (0 : Int32) dX11_isLoose_166 rfl ?_
  refine aw_istore dX11_isLoose_167 (by decide) ?_
  refine aw_msk [true, false, false, false, false, false, false, true, true, true] ?_
  exact afX11_isLoose_169   FU t v7 s0 ((0 : Int32))
set_option maxRecDepth 20000 in
theorem abX11_isLoose_91 {C : Cx} {res : Int32 × Hp}  {k91 : Nat → Int64 → Int32 → Int32 → Int32 → Mo Int32} (h91 : ∀ (t : Nat) (v4 : Int64) (v6 : Int32) (v7 : Int32) (v8 : Int32), AW C cX11_isLoose mX11_isLoose qI res 91 [vr (some t), vu, vu, vu, vl v4, vu, vi v6, vi v7, vi v8, vu] [] (k91 t v4 v6 v7 v8)) : ∀ (t : Nat) (v4 : Int64) (v6 : Int32) (v7 : Int32) (v8 : Int32), AW C cX11_isLoose mX11_isLoose qI res 91 [vr (some t), vu, vu, vu, vl v4, vu, vi v6, vi v7, vi v8, vu] [] (bX11_isLoose_91  k91 t v4 v6 v7 v8) := by
  intro t v4 v6 v7 v8
  refine aw_iload dX11_isLoose_91 rfl ?_
  refine aw_bipush (30 : Int32) dX11_isLoose_93 rfl ?_
  refine aw_icmp_ge 112 dX11_isLoose_95 (by decide) ?_ ?_
  · refine aw_aload_n dX11_isLoose_112 rfl ?_
    refine aw_iload dX11_isLoose_113 rfl ?_
    refine aw_lload dX11_isLoose_115 rfl ?_
    refine aw_iconst (0 : Int32) dX11_isLoose_117 rfl ?_
    refine aw_cV3 puV dX11_isLoose_118 (fun o => ctX11_layTable o _ _ _) mcX11_layTable ml_X11_121 rfl rfl msX11_layTable rfl (by decide) (Nat.le_of_ble_eq_true rfl) (fun _ => ?_)
    refine aw_aload_n dX11_isLoose_121 rfl ?_
    refine aw_iload dX11_isLoose_122 rfl ?_
    refine aw_cV1 puL dX11_isLoose_124 (fun o => ctX11_solve o _) mcX11_solve ml_X11_125 rfl rfl msX11_solve rfl (by decide) (Nat.le_of_ble_eq_true rfl) (fun x124 => ?_)
    refine aw_lconst (0 : Int64) dX11_isLoose_127 rfl ?_
    refine aw_lne 136 dX11_isLoose_128 dX11_isLoose_129 (by decide) ?_ ?_
    · refine aw_iconst (0 : Int32) dX11_isLoose_136 rfl ?_
      refine aw_msk [true, false, false, false, false, false, false, true, false, false] ?_
      exact abX11_isLoose_137   t v7 ((0 : Int32))
    · refine aw_iconst (1 : Int32) dX11_isLoose_132 rfl ?_
      refine aw_goto 137 dX11_isLoose_133 (by decide) ?_
      refine aw_msk [true, false, false, false, false, false, false, true, false, false] ?_
      exact abX11_isLoose_137   t v7 ((1 : Int32))
  · refine aw_aload_n dX11_isLoose_98 rfl ?_
    refine aw_gA dX11_isLoose_99 fl_X11_38 (fun x99 => ?_)
    refine aw_iload dX11_isLoose_102 rfl ?_
    refine aw_lconst (0 : Int64) dX11_isLoose_104 rfl ?_
    refine aw_last dX11_isLoose_105 (fun _ => ?_)
    refine aw_iinc (v8 + (1 : Int32)) dX11_isLoose_106 rfl rfl (by decide) ?_
    refine aw_goto 91 dX11_isLoose_109 (by decide) ?_
    refine aw_msk [true, false, false, false, true, false, true, true, true, false] ?_
    exact h91 t v4 v6 v7 ((v8 + (1 : Int32)))
theorem afX11_isLoose_91 {C : Cx} {res : Int32 × Hp}   : ∀ (n : Nat) (t : Nat) (v4 : Int64) (v6 : Int32) (v7 : Int32) (v8 : Int32), AW C cX11_isLoose mX11_isLoose qI res 91 [vr (some t), vu, vu, vu, vl v4, vu, vi v6, vi v7, vi v8, vu] [] (fX11_isLoose_91   n t v4 v6 v7 v8)
  | 0, _, _, _, _, _ => aw_fl
  | n + 1, t, v4, v6, v7, v8 => abX11_isLoose_91  (fun t v4 v6 v7 v8 => afX11_isLoose_91   n t v4 v6 v7 v8) t v4 v6 v7 v8
set_option maxRecDepth 20000 in
theorem abX11_isLoose_33 {C : Cx} {res : Int32 × Hp}  {k33 : Nat → Int32 → Int64 → Int64 → Int32 → Int32 → Int32 → Mo Int32} (h33 : ∀ (t : Nat) (v1 : Int32) (v2 : Int64) (v4 : Int64) (v6 : Int32) (v7 : Int32) (v8 : Int32), AW C cX11_isLoose mX11_isLoose qI res 33 [vr (some t), vi v1, vl v2, vu, vl v4, vu, vi v6, vi v7, vi v8, vu] [] (k33 t v1 v2 v4 v6 v7 v8)) : ∀ (t : Nat) (v1 : Int32) (v2 : Int64) (v4 : Int64) (v6 : Int32) (v7 : Int32) (v8 : Int32), AW C cX11_isLoose mX11_isLoose qI res 33 [vr (some t), vi v1, vl v2, vu, vl v4, vu, vi v6, vi v7, vi v8, vu] [] (bX11_isLoose_33  k33 t v1 v2 v4 v6 v7 v8) := by
  intro t v1 v2 v4 v6 v7 v8
  refine aw_iload dX11_isLoose_33 rfl ?_
  refine aw_iconst (5 : Int32) dX11_isLoose_35 rfl ?_
  refine aw_icmp_ge 64 dX11_isLoose_36 (by decide) ?_ ?_
  · refine aw_aload_n dX11_isLoose_64 rfl ?_
    refine aw_gA dX11_isLoose_65 fl_X11_7 (fun x65 => ?_)
    refine aw_iload dX11_isLoose_68 rfl ?_
    refine aw_iload_n dX11_isLoose_70 rfl ?_
    refine aw_iast dX11_isLoose_71 (fun _ => ?_)
    refine aw_aload_n dX11_isLoose_72 rfl ?_
    refine aw_gA dX11_isLoose_73 fl_X11_13 (fun x73 => ?_)
    refine aw_iload dX11_isLoose_76 rfl ?_
    refine aw_iload dX11_isLoose_78 rfl ?_
    refine aw_iast dX11_isLoose_80 (fun _ => ?_)
    refine aw_aload_n dX11_isLoose_81 rfl ?_
    refine aw_iload dX11_isLoose_82 rfl ?_
    refine aw_lload_n dX11_isLoose_84 rfl ?_
    refine aw_cV2 puV dX11_isLoose_85 (fun o => ctX11_laySupports o _ _) mcX11_laySupports ml_X11_150 rfl rfl msX11_laySupports rfl (by decide) (Nat.le_of_ble_eq_true rfl) (fun _ => ?_)
    refine aw_iconst (0 : Int32) dX11_isLoose_88 rfl ?_
    refine aw_istore dX11_isLoose_89 (by decide) ?_
    refine aw_msk [true, false, false, false, true, false, true, true, true, false] ?_
    exact afX11_isLoose_91   FU t v4 v6 v7 ((0 : Int32))
  · refine aw_aload_n dX11_isLoose_39 rfl ?_
    refine aw_gA dX11_isLoose_40 fl_X11_41 (fun x40 => ?_)
    refine aw_iload dX11_isLoose_43 rfl ?_
    refine aw_aload_n dX11_isLoose_45 rfl ?_
    refine aw_gA dX11_isLoose_46 fl_X11_19 (fun x46 => ?_)
    refine aw_iconst (5 : Int32) dX11_isLoose_49 rfl ?_
    refine aw_iload dX11_isLoose_50 rfl ?_
    refine aw_imul dX11_isLoose_52 ?_
    refine aw_iload dX11_isLoose_53 rfl ?_
    refine aw_iadd dX11_isLoose_55 ?_
    refine aw_iald dX11_isLoose_56 (fun x56 => ?_)
    refine aw_iast dX11_isLoose_57 (fun _ => ?_)
    refine aw_iinc (v8 + (1 : Int32)) dX11_isLoose_58 rfl rfl (by decide) ?_
    refine aw_goto 33 dX11_isLoose_61 (by decide) ?_
    refine aw_msk [true, true, true, false, true, false, true, true, true, false] ?_
    exact h33 t v1 v2 v4 v6 v7 ((v8 + (1 : Int32)))
theorem afX11_isLoose_33 {C : Cx} {res : Int32 × Hp}   : ∀ (n : Nat) (t : Nat) (v1 : Int32) (v2 : Int64) (v4 : Int64) (v6 : Int32) (v7 : Int32) (v8 : Int32), AW C cX11_isLoose mX11_isLoose qI res 33 [vr (some t), vi v1, vl v2, vu, vl v4, vu, vi v6, vi v7, vi v8, vu] [] (fX11_isLoose_33   n t v1 v2 v4 v6 v7 v8)
  | 0, _, _, _, _, _, _, _ => aw_fl
  | n + 1, t, v1, v2, v4, v6, v7, v8 => abX11_isLoose_33  (fun t v1 v2 v4 v6 v7 v8 => afX11_isLoose_33   n t v1 v2 v4 v6 v7 v8) t v1 v2 v4 v6 v7 v8
set_option maxRecDepth 20000 in
theorem ctX11_isLoose (t : Nat) (v1 : Int32) (v2 : Int64) (v4 : Int64) (v6 : Int32) : Ct yX11_isLoose cX11_isLoose mX11_isLoose qI [vr (some t), vi v1, vl v2, vl v4, vi v6] (pX11_isLoose t v1 v2 v4 v6) := by
  refine ct_go rfl rfl (fun h9 => by cases h9) (Nat.le_of_ble_eq_true rfl) (fun C res => ?_)
  refine aw_iconst (5 : Int32) dX11_isLoose_0 rfl ?_
  refine aw_istore dX11_isLoose_1 (by decide) ?_
  refine aw_aload_n dX11_isLoose_3 rfl ?_
  refine aw_gA dX11_isLoose_4 fl_X11_41 (fun x4 => ?_)
  refine aw_iconst (5 : Int32) dX11_isLoose_7 rfl ?_
  refine aw_aload_n dX11_isLoose_8 rfl ?_
  refine aw_gA dX11_isLoose_9 fl_X11_7 (fun x9 => ?_)
  refine aw_iload dX11_isLoose_12 rfl ?_
  refine aw_iald dX11_isLoose_14 (fun x14 => ?_)
  refine aw_iast dX11_isLoose_15 (fun _ => ?_)
  refine aw_aload_n dX11_isLoose_16 rfl ?_
  refine aw_gA dX11_isLoose_17 fl_X11_41 (fun x17 => ?_)
  refine aw_bipush (6 : Int32) dX11_isLoose_20 rfl ?_
  refine aw_aload_n dX11_isLoose_22 rfl ?_
  refine aw_gA dX11_isLoose_23 fl_X11_13 (fun x23 => ?_)
  refine aw_iload dX11_isLoose_26 rfl ?_
  refine aw_iald dX11_isLoose_28 (fun x28 => ?_)
  refine aw_iast dX11_isLoose_29 (fun _ => ?_)
  refine aw_iconst (0 : Int32) dX11_isLoose_30 rfl ?_
  refine aw_istore dX11_isLoose_31 (by decide) ?_
  refine aw_msk [true, true, true, false, true, false, true, true, true, false] ?_
  exact afX11_isLoose_33   FU t v1 v2 v4 v6 ((5 : Int32)) ((0 : Int32))
set_option maxRecDepth 20000 in
theorem abX11_bridge_134 {C : Cx} {res : Int32 × Hp}   : ∀ (t : Nat) (v1 : Int32) (v2 : Int64) (v4 : Int64) (v6 : Int32) (v7 : Int32) (s0 : Int32), AW C cX11_bridge mX11_bridge qI res 134 [vr (some t), vi v1, vl v2, vu, vl v4, vu, vi v6, vi v7, vu] [vi s0] (bX11_bridge_134   t v1 v2 v4 v6 v7 s0) := by
  intro t v1 v2 v4 v6 v7 s0
  refine aw_istore dX11_bridge_134 (by decide) ?_
  refine aw_iload dX11_bridge_136 rfl ?_
  refine aw_if_eq 164 dX11_bridge_138 (by decide) ?_ ?_
  · refine aw_aload_n dX11_bridge_164 rfl ?_
    refine aw_gA dX11_bridge_165 fl_X11_7 (fun x165 => ?_)
    refine aw_iload dX11_bridge_168 rfl ?_
    refine aw_iload_n dX11_bridge_170 rfl ?_
    refine aw_iast dX11_bridge_171 (fun _ => ?_)
    refine aw_aload_n dX11_bridge_172 rfl ?_
    refine aw_gA dX11_bridge_173 fl_X11_13 (fun x173 => ?_)
    refine aw_iload dX11_bridge_176 rfl ?_
    refine aw_iload dX11_bridge_178 rfl ?_
    refine aw_iast dX11_bridge_180 (fun _ => ?_)
    refine aw_aload_n dX11_bridge_181 rfl ?_
    refine aw_gA dX11_bridge_182 fl_X11_16 (fun x182 => ?_)
    refine aw_iload dX11_bridge_185 rfl ?_
    refine aw_iload dX11_bridge_187 rfl ?_
    refine aw_iconst (2 : Int32) dX11_bridge_189 rfl ?_
    refine aw_isub dX11_bridge_190 ?_
    refine aw_iast dX11_bridge_191 (fun _ => ?_)
    refine aw_aload_n dX11_bridge_192 rfl ?_
    refine aw_iload dX11_bridge_193 rfl ?_
    refine aw_lload_n dX11_bridge_195 rfl ?_
    refine aw_cV2 puV dX11_bridge_196 (fun o => ctX11_laySupports o _ _) mcX11_laySupports ml_X11_150 rfl rfl msX11_laySupports rfl (by decide) (Nat.le_of_ble_eq_true rfl) (fun _ => ?_)
    refine aw_aload_n dX11_bridge_199 rfl ?_
    refine aw_iload dX11_bridge_200 rfl ?_
    refine aw_lload dX11_bridge_202 rfl ?_
    refine aw_cV2 puI dX11_bridge_204 (fun o => ctX11_findBridge o _ _) mcX11_findBridge ml_X11_154 rfl rfl msX11_findBridge rfl (by decide) (Nat.le_of_ble_eq_true rfl) (fun x204 => ?_)
    refine aw_if_ne 214 dX11_bridge_207 (by decide) ?_ ?_
    · refine aw_aload_n dX11_bridge_214 rfl ?_
      refine aw_gA dX11_bridge_215 fl_X11_66 (fun x215 => ?_)
      refine aw_iload dX11_bridge_218 rfl ?_
      refine aw_iconst (0 : Int32) dX11_bridge_220 rfl ?_
      refine aw_iast dX11_bridge_221 (fun _ => ?_)
      refine aw_aload_n dX11_bridge_222 rfl ?_
      refine aw_dup dX11_bridge_223 rfl ?_
      refine aw_gI dX11_bridge_224 fl_X11_143 (fun x224 => ?_)
      refine aw_iconst (1 : Int32) dX11_bridge_227 rfl ?_
      refine aw_iadd dX11_bridge_228 ?_
      refine aw_pI dX11_bridge_229 pl_X11_143 (fun _ => ?_)
      refine aw_iload dX11_bridge_232 rfl ?_
      exact aw_iret dX11_bridge_234 rfl
    · refine aw_sipush (-1003 : Int32) dX11_bridge_210 rfl ?_
      exact aw_iret dX11_bridge_213 rfl
  · refine aw_aload_n dX11_bridge_141 rfl ?_
    refine aw_iload_n dX11_bridge_142 rfl ?_
    refine aw_lload_n dX11_bridge_143 rfl ?_
    refine aw_lload dX11_bridge_144 rfl ?_
    refine aw_iload dX11_bridge_146 rfl ?_
    refine aw_cV4 puI dX11_bridge_148 (fun o => ctX11_isLoose o _ _ _ _) mcX11_isLoose ml_X11_146 rfl rfl msX11_isLoose rfl (by decide) (Nat.le_of_ble_eq_true rfl) (fun x148 => ?_)
    refine aw_if_eq 160 dX11_bridge_151 (by decide) ?_ ?_
    · refine aw_sipush (-1004 : Int32) dX11_bridge_160 rfl ?_
      exact aw_iret dX11_bridge_163 rfl
    · refine aw_sipush (-1003 : Int32) dX11_bridge_154 rfl ?_
      refine aw_goto 163 dX11_bridge_157 (by decide) ?_
      exact aw_iret dX11_bridge_163 rfl
set_option maxRecDepth 20000 in
theorem abX11_bridge_119 {C : Cx} {res : Int32 × Hp}   : ∀ (t : Nat) (v1 : Int32) (v2 : Int64) (v4 : Int64) (v6 : Int32) (s0 : Int32), AW C cX11_bridge mX11_bridge qI res 119 [vr (some t), vi v1, vl v2, vu, vl v4, vu, vi v6, vu, vu] [vi s0] (bX11_bridge_119   t v1 v2 v4 v6 s0) := by
  intro t v1 v2 v4 v6 s0
  refine aw_istore dX11_bridge_119 (by decide) ?_
  refine aw_iload dX11_bridge_121 rfl ?_
  refine aw_if_eq 130 dX11_bridge_123 (by decide) ?_ ?_
  · refine aw_aload_n dX11_bridge_130 rfl ?_
    refine aw_gI dX11_bridge_131 fl_X11_143 (fun x131 => ?_)
    refine aw_msk [true, true, true, false, true, false, true, true, false] ?_
    exact abX11_bridge_134   t v1 v2 v4 v6 s0 x131
  · refine aw_iconst (5 : Int32) dX11_bridge_126 rfl ?_
    refine aw_goto 134 dX11_bridge_127 (by decide) ?_
    refine aw_msk [true, true, true, false, true, false, true, true, false] ?_
    exact abX11_bridge_134   t v1 v2 v4 v6 s0 ((5 : Int32))
set_option maxRecDepth 20000 in
theorem ctX11_bridge (t : Nat) (v1 : Int32) (v2 : Int64) (v4 : Int64) : Ct yX11_bridge cX11_bridge mX11_bridge qI [vr (some t), vi v1, vl v2, vl v4] (pX11_bridge t v1 v2 v4) := by
  refine ct_go rfl rfl (fun h9 => by cases h9) (Nat.le_of_ble_eq_true rfl) (fun C res => ?_)
  refine aw_iload_n dX11_bridge_0 rfl ?_
  refine aw_i2l dX11_bridge_1 ?_
  refine aw_ldc2 dX11_bridge_2 cj_X11_129 ?_
  refine aw_ldc2 dX11_bridge_5 cj_X11_131 ?_
  refine aw_cS3 puI dX11_bridge_8 (ctX11_in _ _ _) mcX11_in ml_X11_133 msX11_in rfl (by decide) (Nat.le_of_ble_eq_true rfl) (fun x8 => ?_)
  refine aw_if_eq 46 dX11_bridge_11 (by decide) ?_ ?_
  · refine aw_sipush (-1002 : Int32) dX11_bridge_46 rfl ?_
    exact aw_iret dX11_bridge_49 rfl
  · refine aw_lload_n dX11_bridge_14 rfl ?_
    refine aw_lconst (0 : Int64) dX11_bridge_15 rfl ?_
    refine aw_llt 46 dX11_bridge_16 dX11_bridge_17 (by decide) ?_ ?_
    · refine aw_sipush (-1002 : Int32) dX11_bridge_46 rfl ?_
      exact aw_iret dX11_bridge_49 rfl
    · refine aw_lload dX11_bridge_20 rfl ?_
      refine aw_lconst (0 : Int64) dX11_bridge_22 rfl ?_
      refine aw_llt 46 dX11_bridge_23 dX11_bridge_24 (by decide) ?_ ?_
      · refine aw_sipush (-1002 : Int32) dX11_bridge_46 rfl ?_
        exact aw_iret dX11_bridge_49 rfl
      · refine aw_lload_n dX11_bridge_27 rfl ?_
        refine aw_iload_n dX11_bridge_28 rfl ?_
        refine aw_iconst (1 : Int32) dX11_bridge_29 rfl ?_
        refine aw_iadd dX11_bridge_30 ?_
        refine aw_lshr dX11_bridge_31 ?_
        refine aw_lconst (0 : Int64) dX11_bridge_32 rfl ?_
        refine aw_lne 46 dX11_bridge_33 dX11_bridge_34 (by decide) ?_ ?_
        · refine aw_sipush (-1002 : Int32) dX11_bridge_46 rfl ?_
          exact aw_iret dX11_bridge_49 rfl
        · refine aw_lload dX11_bridge_37 rfl ?_
          refine aw_iload_n dX11_bridge_39 rfl ?_
          refine aw_lshr dX11_bridge_40 ?_
          refine aw_lconst (0 : Int64) dX11_bridge_41 rfl ?_
          refine aw_leq 50 dX11_bridge_42 dX11_bridge_43 (by decide) ?_ ?_
          · refine aw_lload_n dX11_bridge_50 rfl ?_
            refine aw_cS1 puI dX11_bridge_51 (ctX11_countOf _) mcX11_countOf ml_X11_137 msX11_countOf rfl (by decide) (Nat.le_of_ble_eq_true rfl) (fun x51 => ?_)
            refine aw_istore dX11_bridge_54 (by decide) ?_
            refine aw_iload dX11_bridge_56 rfl ?_
            refine aw_i2l dX11_bridge_58 ?_
            refine aw_ldc2 dX11_bridge_59 cj_X11_129 ?_
            refine aw_ldc2 dX11_bridge_62 cj_X11_141 ?_
            refine aw_cS3 puI dX11_bridge_65 (ctX11_in _ _ _) mcX11_in ml_X11_133 msX11_in rfl (by decide) (Nat.le_of_ble_eq_true rfl) (fun x65 => ?_)
            refine aw_if_eq 101 dX11_bridge_68 (by decide) ?_ ?_
            · refine aw_sipush (-1002 : Int32) dX11_bridge_101 rfl ?_
              exact aw_iret dX11_bridge_104 rfl
            · refine aw_lload dX11_bridge_71 rfl ?_
              refine aw_cS1 puI dX11_bridge_73 (ctX11_countOf _) mcX11_countOf ml_X11_137 msX11_countOf rfl (by decide) (Nat.le_of_ble_eq_true rfl) (fun x73 => ?_)
              refine aw_iload dX11_bridge_76 rfl ?_
              refine aw_iconst (2 : Int32) dX11_bridge_78 rfl ?_
              refine aw_isub dX11_bridge_79 ?_
              refine aw_icmp_ne 101 dX11_bridge_80 (by decide) ?_ ?_
              · refine aw_sipush (-1002 : Int32) dX11_bridge_101 rfl ?_
                exact aw_iret dX11_bridge_104 rfl
              · refine aw_lload_n dX11_bridge_83 rfl ?_
                refine aw_lload dX11_bridge_84 rfl ?_
                refine aw_land dX11_bridge_86 ?_
                refine aw_lconst (0 : Int64) dX11_bridge_87 rfl ?_
                refine aw_lne 101 dX11_bridge_88 dX11_bridge_89 (by decide) ?_ ?_
                · refine aw_sipush (-1002 : Int32) dX11_bridge_101 rfl ?_
                  exact aw_iret dX11_bridge_104 rfl
                · refine aw_lload dX11_bridge_92 rfl ?_
                  refine aw_lconst (1 : Int64) dX11_bridge_94 rfl ?_
                  refine aw_land dX11_bridge_95 ?_
                  refine aw_lconst (0 : Int64) dX11_bridge_96 rfl ?_
                  refine aw_leq 105 dX11_bridge_97 dX11_bridge_98 (by decide) ?_ ?_
                  · refine aw_aload_n dX11_bridge_105 rfl ?_
                    refine aw_gI dX11_bridge_106 fl_X11_143 (fun x106 => ?_)
                    refine aw_bipush (6 : Int32) dX11_bridge_109 rfl ?_
                    refine aw_icmp_ne 118 dX11_bridge_111 (by decide) ?_ ?_
                    · refine aw_iconst (0 : Int32) dX11_bridge_118 rfl ?_
                      refine aw_msk [true, true, true, false, true, false, true, false, false] ?_
                      exact abX11_bridge_119   t v1 v2 v4 x51 ((0 : Int32))
                    · refine aw_iconst (1 : Int32) dX11_bridge_114 rfl ?_
                      refine aw_goto 119 dX11_bridge_115 (by decide) ?_
                      refine aw_msk [true, true, true, false, true, false, true, false, false] ?_
                      exact abX11_bridge_119   t v1 v2 v4 x51 ((1 : Int32))
                  · refine aw_sipush (-1002 : Int32) dX11_bridge_101 rfl ?_
                    exact aw_iret dX11_bridge_104 rfl
          · refine aw_sipush (-1002 : Int32) dX11_bridge_46 rfl ?_
            exact aw_iret dX11_bridge_49 rfl
set_option maxRecDepth 20000 in
theorem ctX11_isLimit (v0 : Int32) (v1 : Int32) : Ct yX11_isLimit cX11_isLimit mX11_isLimit qI [vi v0, vi v1] (pX11_isLimit v0 v1) := by
  refine ct_go rfl rfl (fun h9 => by cases h9) (Nat.le_of_ble_eq_true rfl) (fun C res => ?_)
  refine aw_iload_n dX11_isLimit_0 rfl ?_
  refine aw_i2l dX11_isLimit_1 ?_
  refine aw_lconst (0 : Int64) dX11_isLimit_2 rfl ?_
  refine aw_ldc2 dX11_isLimit_3 cj_X11_225 ?_
  refine aw_cS3 puI dX11_isLimit_6 (ctX11_in _ _ _) mcX11_in ml_X11_133 msX11_in rfl (by decide) (Nat.le_of_ble_eq_true rfl) (fun x6 => ?_)
  refine aw_if_eq 28 dX11_isLimit_9 (by decide) ?_ ?_
  · refine aw_iconst (0 : Int32) dX11_isLimit_28 rfl ?_
    exact aw_zret dX11_isLimit_29 rfl
  · refine aw_iload_n dX11_isLimit_12 rfl ?_
    refine aw_i2l dX11_isLimit_13 ?_
    refine aw_ldc2 dX11_isLimit_14 cj_X11_227 ?_
    refine aw_lconst (0 : Int64) dX11_isLimit_17 rfl ?_
    refine aw_cS3 puI dX11_isLimit_18 (ctX11_in _ _ _) mcX11_in ml_X11_133 msX11_in rfl (by decide) (Nat.le_of_ble_eq_true rfl) (fun x18 => ?_)
    refine aw_if_eq 28 dX11_isLimit_21 (by decide) ?_ ?_
    · refine aw_iconst (0 : Int32) dX11_isLimit_28 rfl ?_
      exact aw_zret dX11_isLimit_29 rfl
    · refine aw_iconst (1 : Int32) dX11_isLimit_24 rfl ?_
      refine aw_goto 29 dX11_isLimit_25 (by decide) ?_
      exact aw_zret dX11_isLimit_29 rfl
set_option maxRecDepth 20000 in
theorem ctX11_isResponse (t : Nat) (v1 : Int32) (v2 : Int32) (v3 : Int32) : Ct yX11_isResponse cX11_isResponse mX11_isResponse qI [vr (some t), vi v1, vi v2, vi v3] (pX11_isResponse t v1 v2 v3) := by
  refine ct_go rfl rfl (fun h9 => by cases h9) (Nat.le_of_ble_eq_true rfl) (fun C res => ?_)
  refine aw_iload_n dX11_isResponse_0 rfl ?_
  refine aw_if_eq 25 dX11_isResponse_1 (by decide) ?_ ?_
  · refine aw_iconst (1 : Int32) dX11_isResponse_25 rfl ?_
    refine aw_goto 30 dX11_isResponse_26 (by decide) ?_
    exact aw_zret dX11_isResponse_30 rfl
  · refine aw_iload_n dX11_isResponse_4 rfl ?_
    refine aw_iconst (1 : Int32) dX11_isResponse_5 rfl ?_
    refine aw_icmp_ne 29 dX11_isResponse_6 (by decide) ?_ ?_
    · refine aw_iconst (0 : Int32) dX11_isResponse_29 rfl ?_
      exact aw_zret dX11_isResponse_30 rfl
    · refine aw_iload_n dX11_isResponse_9 rfl ?_
      refine aw_i2l dX11_isResponse_10 ?_
      refine aw_lconst (0 : Int64) dX11_isResponse_11 rfl ?_
      refine aw_aload_n dX11_isResponse_12 rfl ?_
      refine aw_gA dX11_isResponse_13 fl_X11_7 (fun x13 => ?_)
      refine aw_iload_n dX11_isResponse_16 rfl ?_
      refine aw_iald dX11_isResponse_17 (fun x17 => ?_)
      refine aw_i2l dX11_isResponse_18 ?_
      refine aw_cS3 puI dX11_isResponse_19 (ctX11_in _ _ _) mcX11_in ml_X11_133 msX11_in rfl (by decide) (Nat.le_of_ble_eq_true rfl) (fun x19 => ?_)
      refine aw_if_eq 29 dX11_isResponse_22 (by decide) ?_ ?_
      · refine aw_iconst (0 : Int32) dX11_isResponse_29 rfl ?_
        exact aw_zret dX11_isResponse_30 rfl
      · refine aw_iconst (1 : Int32) dX11_isResponse_25 rfl ?_
        refine aw_goto 30 dX11_isResponse_26 (by decide) ?_
        exact aw_zret dX11_isResponse_30 rfl
set_option maxRecDepth 20000 in
theorem ctX11_noBridge (t : Nat) (v1 : Int32) : Ct yX11_noBridge cX11_noBridge mX11_noBridge qI [vr (some t), vi v1] (pX11_noBridge t v1) := by
  refine ct_go rfl rfl (fun h9 => by cases h9) (Nat.le_of_ble_eq_true rfl) (fun C res => ?_)
  refine aw_iload_n dX11_noBridge_0 rfl ?_
  refine aw_i2l dX11_noBridge_1 ?_
  refine aw_lconst (0 : Int64) dX11_noBridge_2 rfl ?_
  refine aw_aload_n dX11_noBridge_3 rfl ?_
  refine aw_gI dX11_noBridge_4 fl_X11_143 (fun x4 => ?_)
  refine aw_iconst (1 : Int32) dX11_noBridge_7 rfl ?_
  refine aw_isub dX11_noBridge_8 ?_
  refine aw_i2l dX11_noBridge_9 ?_
  refine aw_cS3 puI dX11_noBridge_10 (ctX11_in _ _ _) mcX11_in ml_X11_133 msX11_in rfl (by decide) (Nat.le_of_ble_eq_true rfl) (fun x10 => ?_)
  refine aw_if_ne 20 dX11_noBridge_13 (by decide) ?_ ?_
  · refine aw_iconst (0 : Int32) dX11_noBridge_20 rfl ?_
    exact aw_zret dX11_noBridge_21 rfl
  · refine aw_iconst (1 : Int32) dX11_noBridge_16 rfl ?_
    refine aw_goto 21 dX11_noBridge_17 (by decide) ?_
    exact aw_zret dX11_noBridge_21 rfl
set_option maxRecDepth 20000 in
theorem ctX11_noSupport (t : Nat) (v1 : Int32) (v2 : Int32) (v3 : Int32) : Ct yX11_noSupport cX11_noSupport mX11_noSupport qI [vr (some t), vi v1, vi v2, vi v3] (pX11_noSupport t v1 v2 v3) := by
  refine ct_go rfl rfl (fun h9 => by cases h9) (Nat.le_of_ble_eq_true rfl) (fun C res => ?_)
  refine aw_iload_n dX11_noSupport_0 rfl ?_
  refine aw_if_ne 26 dX11_noSupport_1 (by decide) ?_ ?_
  · refine aw_iconst (0 : Int32) dX11_noSupport_26 rfl ?_
    exact aw_zret dX11_noSupport_27 rfl
  · refine aw_iload_n dX11_noSupport_4 rfl ?_
    refine aw_i2l dX11_noSupport_5 ?_
    refine aw_lconst (0 : Int64) dX11_noSupport_6 rfl ?_
    refine aw_aload_n dX11_noSupport_7 rfl ?_
    refine aw_gA dX11_noSupport_8 fl_X11_13 (fun x8 => ?_)
    refine aw_iload_n dX11_noSupport_11 rfl ?_
    refine aw_iald dX11_noSupport_12 (fun x12 => ?_)
    refine aw_iconst (1 : Int32) dX11_noSupport_13 rfl ?_
    refine aw_isub dX11_noSupport_14 ?_
    refine aw_i2l dX11_noSupport_15 ?_
    refine aw_cS3 puI dX11_noSupport_16 (ctX11_in _ _ _) mcX11_in ml_X11_133 msX11_in rfl (by decide) (Nat.le_of_ble_eq_true rfl) (fun x16 => ?_)
    refine aw_if_ne 26 dX11_noSupport_19 (by decide) ?_ ?_
    · refine aw_iconst (0 : Int32) dX11_noSupport_26 rfl ?_
      exact aw_zret dX11_noSupport_27 rfl
    · refine aw_iconst (1 : Int32) dX11_noSupport_22 rfl ?_
      refine aw_goto 27 dX11_noSupport_23 (by decide) ?_
      exact aw_zret dX11_noSupport_27 rfl
set_option maxRecDepth 20000 in
theorem ctX11_check (t : Nat) (v1 : Int32) (v2 : Int32) (v3 : Int32) (v4 : Int32) (v5 : Int32) : Ct yX11_check cX11_check mX11_check qI [vr (some t), vi v1, vi v2, vi v3, vi v4, vi v5] (pX11_check t v1 v2 v3 v4 v5) := by
  refine ct_go rfl rfl (fun h9 => by cases h9) (Nat.le_of_ble_eq_true rfl) (fun C res => ?_)
  refine aw_aload_n dX11_check_0 rfl ?_
  refine aw_iload_n dX11_check_1 rfl ?_
  refine aw_cV1 puI dX11_check_2 (fun o => ctX11_noBridge o _) mcX11_noBridge ml_X11_158 rfl rfl msX11_noBridge rfl (by decide) (Nat.le_of_ble_eq_true rfl) (fun x2 => ?_)
  refine aw_if_ne 18 dX11_check_5 (by decide) ?_ ?_
  · refine aw_sipush (-1001 : Int32) dX11_check_18 rfl ?_
    exact aw_iret dX11_check_21 rfl
  · refine aw_aload_n dX11_check_8 rfl ?_
    refine aw_iload_n dX11_check_9 rfl ?_
    refine aw_iload_n dX11_check_10 rfl ?_
    refine aw_iload_n dX11_check_11 rfl ?_
    refine aw_cV3 puI dX11_check_12 (fun o => ctX11_noSupport o _ _ _) mcX11_noSupport ml_X11_162 rfl rfl msX11_noSupport rfl (by decide) (Nat.le_of_ble_eq_true rfl) (fun x12 => ?_)
    refine aw_if_eq 22 dX11_check_15 (by decide) ?_ ?_
    · refine aw_aload_n dX11_check_22 rfl ?_
      refine aw_iload_n dX11_check_23 rfl ?_
      refine aw_iload_n dX11_check_24 rfl ?_
      refine aw_iload_n dX11_check_25 rfl ?_
      refine aw_cV3 puI dX11_check_26 (fun o => ctX11_isResponse o _ _ _) mcX11_isResponse ml_X11_168 rfl rfl msX11_isResponse rfl (by decide) (Nat.le_of_ble_eq_true rfl) (fun x26 => ?_)
      refine aw_if_eq 42 dX11_check_29 (by decide) ?_ ?_
      · refine aw_sipush (-1002 : Int32) dX11_check_42 rfl ?_
        exact aw_iret dX11_check_45 rfl
      · refine aw_iload dX11_check_32 rfl ?_
        refine aw_iload dX11_check_34 rfl ?_
        refine aw_cS2 puI dX11_check_36 (ctX11_isLimit _ _) mcX11_isLimit ml_X11_229 msX11_isLimit rfl (by decide) (Nat.le_of_ble_eq_true rfl) (fun x36 => ?_)
        refine aw_if_ne 46 dX11_check_39 (by decide) ?_ ?_
        · refine aw_aload_n dX11_check_46 rfl ?_
          refine aw_gA dX11_check_47 fl_X11_66 (fun x47 => ?_)
          refine aw_iload_n dX11_check_50 rfl ?_
          refine aw_iald dX11_check_51 (fun x51 => ?_)
          refine aw_iconst (5 : Int32) dX11_check_52 rfl ?_
          refine aw_icmp_ne 60 dX11_check_53 (by decide) ?_ ?_
          · refine aw_iconst (5 : Int32) dX11_check_60 rfl ?_
            refine aw_iload_n dX11_check_61 rfl ?_
            refine aw_imul dX11_check_62 ?_
            refine aw_aload_n dX11_check_63 rfl ?_
            refine aw_gA dX11_check_64 fl_X11_66 (fun x64 => ?_)
            refine aw_iload_n dX11_check_67 rfl ?_
            refine aw_iald dX11_check_68 (fun x68 => ?_)
            refine aw_iadd dX11_check_69 ?_
            refine aw_istore dX11_check_70 (by decide) ?_
            refine aw_aload_n dX11_check_72 rfl ?_
            refine aw_gA dX11_check_73 fl_X11_69 (fun x73 => ?_)
            refine aw_iload dX11_check_76 rfl ?_
            refine aw_iload_n dX11_check_78 rfl ?_
            refine aw_iast dX11_check_79 (fun _ => ?_)
            refine aw_aload_n dX11_check_80 rfl ?_
            refine aw_gA dX11_check_81 fl_X11_72 (fun x81 => ?_)
            refine aw_iload dX11_check_84 rfl ?_
            refine aw_iload_n dX11_check_86 rfl ?_
            refine aw_iast dX11_check_87 (fun _ => ?_)
            refine aw_aload_n dX11_check_88 rfl ?_
            refine aw_gA dX11_check_89 fl_X11_75 (fun x89 => ?_)
            refine aw_iload dX11_check_92 rfl ?_
            refine aw_iload dX11_check_94 rfl ?_
            refine aw_iast dX11_check_96 (fun _ => ?_)
            refine aw_aload_n dX11_check_97 rfl ?_
            refine aw_gA dX11_check_98 fl_X11_78 (fun x98 => ?_)
            refine aw_iload dX11_check_101 rfl ?_
            refine aw_iload dX11_check_103 rfl ?_
            refine aw_iast dX11_check_105 (fun _ => ?_)
            refine aw_aload_n dX11_check_106 rfl ?_
            refine aw_gA dX11_check_107 fl_X11_66 (fun x107 => ?_)
            refine aw_iload_n dX11_check_110 rfl ?_
            refine aw_dup2 dX11_check_111 rfl rfl ?_
            refine aw_iald dX11_check_112 (fun x112 => ?_)
            refine aw_iconst (1 : Int32) dX11_check_113 rfl ?_
            refine aw_iadd dX11_check_114 ?_
            refine aw_iast dX11_check_115 (fun _ => ?_)
            refine aw_aload_n dX11_check_116 rfl ?_
            refine aw_gA dX11_check_117 fl_X11_66 (fun x117 => ?_)
            refine aw_iload_n dX11_check_120 rfl ?_
            refine aw_iald dX11_check_121 (fun x121 => ?_)
            refine aw_iconst (1 : Int32) dX11_check_122 rfl ?_
            refine aw_isub dX11_check_123 ?_
            exact aw_iret dX11_check_124 rfl
          · refine aw_sipush (-1004 : Int32) dX11_check_56 rfl ?_
            exact aw_iret dX11_check_59 rfl
        · refine aw_sipush (-1002 : Int32) dX11_check_42 rfl ?_
          exact aw_iret dX11_check_45 rfl
    · refine aw_sipush (-1001 : Int32) dX11_check_18 rfl ?_
      exact aw_iret dX11_check_21 rfl
set_option maxRecDepth 20000 in
theorem abX11_count_35 {C : Cx} {res : Int32 × Hp}  {k35 : Nat → Int32 → Int32 → Int32 → Int32 → Mo Int32} (h35 : ∀ (t : Nat) (v1 : Int32) (v2 : Int32) (v3 : Int32) (v4 : Int32), AW C cX11_count mX11_count qI res 35 [vr (some t), vi v1, vi v2, vi v3, vi v4] [] (k35 t v1 v2 v3 v4)) : ∀ (t : Nat) (v1 : Int32) (v2 : Int32) (v3 : Int32) (v4 : Int32), AW C cX11_count mX11_count qI res 35 [vr (some t), vi v1, vi v2, vi v3, vi v4] [] (bX11_count_35  k35 t v1 v2 v3 v4) := by
  intro t v1 v2 v3 v4
  refine aw_iload dX11_count_35 rfl ?_
  refine aw_aload_n dX11_count_37 rfl ?_
  refine aw_gI dX11_count_38 fl_X11_185 (fun x38 => ?_)
  refine aw_icmp_ge 60 dX11_count_41 (by decide) ?_ ?_
  · refine aw_iload_n dX11_count_60 rfl ?_
    refine aw_sws 124 [100, 105, 110, 115, 117, 122] dX11_count_61 rfl (Nat.le_of_ble_eq_true rfl) (by decide) (by decide) rfl ?_ ⟨?_, ?_, ?_, ?_, ?_, ?_, trivial⟩
    · refine aw_sipush (-1002 : Int32) dX11_count_124 rfl ?_
      exact aw_iret dX11_count_127 rfl
    · refine aw_aload_n dX11_count_100 rfl ?_
      refine aw_gI dX11_count_101 fl_X11_143 (fun x101 => ?_)
      exact aw_iret dX11_count_104 rfl
    · refine aw_aload_n dX11_count_105 rfl ?_
      refine aw_gI dX11_count_106 fl_X11_185 (fun x106 => ?_)
      exact aw_iret dX11_count_109 rfl
    · refine aw_aload_n dX11_count_110 rfl ?_
      refine aw_gI dX11_count_111 fl_X11_263 (fun x111 => ?_)
      exact aw_iret dX11_count_114 rfl
    · refine aw_iload_n dX11_count_115 rfl ?_
      exact aw_iret dX11_count_116 rfl
    · refine aw_aload_n dX11_count_117 rfl ?_
      refine aw_gI dX11_count_118 fl_X11_56 (fun x118 => ?_)
      exact aw_iret dX11_count_121 rfl
    · refine aw_iload_n dX11_count_122 rfl ?_
      exact aw_iret dX11_count_123 rfl
  · refine aw_iload_n dX11_count_44 rfl ?_
    refine aw_aload_n dX11_count_45 rfl ?_
    refine aw_gA dX11_count_46 fl_X11_53 (fun x46 => ?_)
    refine aw_iload dX11_count_49 rfl ?_
    refine aw_iald dX11_count_51 (fun x51 => ?_)
    refine aw_iadd dX11_count_52 ?_
    refine aw_istore_n dX11_count_53 (by decide) ?_
    refine aw_iinc (v4 + (1 : Int32)) dX11_count_54 rfl rfl (by decide) ?_
    refine aw_goto 35 dX11_count_57 (by decide) ?_
    refine aw_msk [true, true, true, true, true] ?_
    exact h35 t v1 v2 ((v3 + x51)) ((v4 + (1 : Int32)))
theorem afX11_count_35 {C : Cx} {res : Int32 × Hp}   : ∀ (n : Nat) (t : Nat) (v1 : Int32) (v2 : Int32) (v3 : Int32) (v4 : Int32), AW C cX11_count mX11_count qI res 35 [vr (some t), vi v1, vi v2, vi v3, vi v4] [] (fX11_count_35   n t v1 v2 v3 v4)
  | 0, _, _, _, _, _ => aw_fl
  | n + 1, t, v1, v2, v3, v4 => abX11_count_35  (fun t v1 v2 v3 v4 => afX11_count_35   n t v1 v2 v3 v4) t v1 v2 v3 v4
set_option maxRecDepth 20000 in
theorem abX11_count_7 {C : Cx} {res : Int32 × Hp}  {k7 : Nat → Int32 → Int32 → Int32 → Int32 → Mo Int32} (h7 : ∀ (t : Nat) (v1 : Int32) (v2 : Int32) (v3 : Int32) (v4 : Int32), AW C cX11_count mX11_count qI res 7 [vr (some t), vi v1, vi v2, vi v3, vi v4] [] (k7 t v1 v2 v3 v4)) : ∀ (t : Nat) (v1 : Int32) (v2 : Int32) (v3 : Int32) (v4 : Int32), AW C cX11_count mX11_count qI res 7 [vr (some t), vi v1, vi v2, vi v3, vi v4] [] (bX11_count_7  k7 t v1 v2 v3 v4) := by
  intro t v1 v2 v3 v4
  refine aw_iload dX11_count_7 rfl ?_
  refine aw_aload_n dX11_count_9 rfl ?_
  refine aw_gI dX11_count_10 fl_X11_143 (fun x10 => ?_)
  refine aw_icmp_ge 32 dX11_count_13 (by decide) ?_ ?_
  · refine aw_iconst (0 : Int32) dX11_count_32 rfl ?_
    refine aw_istore dX11_count_33 (by decide) ?_
    refine aw_msk [true, true, true, true, true] ?_
    exact afX11_count_35   FU t v1 v2 v3 ((0 : Int32))
  · refine aw_iload_n dX11_count_16 rfl ?_
    refine aw_aload_n dX11_count_17 rfl ?_
    refine aw_gA dX11_count_18 fl_X11_66 (fun x18 => ?_)
    refine aw_iload dX11_count_21 rfl ?_
    refine aw_iald dX11_count_23 (fun x23 => ?_)
    refine aw_iadd dX11_count_24 ?_
    refine aw_istore_n dX11_count_25 (by decide) ?_
    refine aw_iinc (v4 + (1 : Int32)) dX11_count_26 rfl rfl (by decide) ?_
    refine aw_goto 7 dX11_count_29 (by decide) ?_
    refine aw_msk [true, true, true, true, true] ?_
    exact h7 t v1 ((v2 + x23)) v3 ((v4 + (1 : Int32)))
theorem afX11_count_7 {C : Cx} {res : Int32 × Hp}   : ∀ (n : Nat) (t : Nat) (v1 : Int32) (v2 : Int32) (v3 : Int32) (v4 : Int32), AW C cX11_count mX11_count qI res 7 [vr (some t), vi v1, vi v2, vi v3, vi v4] [] (fX11_count_7   n t v1 v2 v3 v4)
  | 0, _, _, _, _, _ => aw_fl
  | n + 1, t, v1, v2, v3, v4 => abX11_count_7  (fun t v1 v2 v3 v4 => afX11_count_7   n t v1 v2 v3 v4) t v1 v2 v3 v4
set_option maxRecDepth 20000 in
theorem ctX11_count (t : Nat) (v1 : Int32) : Ct yX11_count cX11_count mX11_count qI [vr (some t), vi v1] (pX11_count t v1) := by
  refine ct_go rfl rfl (fun h9 => by cases h9) (Nat.le_of_ble_eq_true rfl) (fun C res => ?_)
  refine aw_iconst (0 : Int32) dX11_count_0 rfl ?_
  refine aw_istore_n dX11_count_1 (by decide) ?_
  refine aw_iconst (0 : Int32) dX11_count_2 rfl ?_
  refine aw_istore_n dX11_count_3 (by decide) ?_
  refine aw_iconst (0 : Int32) dX11_count_4 rfl ?_
  refine aw_istore dX11_count_5 (by decide) ?_
  refine aw_msk [true, true, true, true, true] ?_
  exact afX11_count_7   FU t v1 ((0 : Int32)) ((0 : Int32)) ((0 : Int32))
set_option maxRecDepth 20000 in
theorem abX11_influenceAt_54 {C : Cx} {res : Int64 × Hp}  {k54 : Nat → Int32 → Int32 → Int32 → Int64 → Int32 → Mo Int64} (h54 : ∀ (t : Nat) (v1 : Int32) (v3 : Int32) (v5 : Int32) (v6 : Int64) (v8 : Int32), AW C cX11_influenceAt mX11_influenceAt qL res 54 [vr (some t), vi v1, vu, vi v3, vu, vi v5, vl v6, vu, vi v8, vu] [] (k54 t v1 v3 v5 v6 v8)) : ∀ (t : Nat) (v1 : Int32) (v3 : Int32) (v5 : Int32) (v6 : Int64) (v8 : Int32), AW C cX11_influenceAt mX11_influenceAt qL res 54 [vr (some t), vi v1, vu, vi v3, vu, vi v5, vl v6, vu, vi v8, vu] [] (bX11_influenceAt_54  k54 t v1 v3 v5 v6 v8) := by
  intro t v1 v3 v5 v6 v8
  refine aw_iload dX11_influenceAt_54 rfl ?_
  refine aw_aload_n dX11_influenceAt_56 rfl ?_
  refine aw_gA dX11_influenceAt_57 fl_X11_13 (fun x57 => ?_)
  refine aw_iload_n dX11_influenceAt_60 rfl ?_
  refine aw_iald dX11_influenceAt_61 (fun x61 => ?_)
  refine aw_icmp_ge 115 dX11_influenceAt_62 (by decide) ?_ ?_
  · refine aw_lload dX11_influenceAt_115 rfl ?_
    exact aw_lret dX11_influenceAt_117 rfl
  · refine aw_aload_n dX11_influenceAt_65 rfl ?_
    refine aw_gA dX11_influenceAt_66 fl_X11_19 (fun x66 => ?_)
    refine aw_iconst (5 : Int32) dX11_influenceAt_69 rfl ?_
    refine aw_iload_n dX11_influenceAt_70 rfl ?_
    refine aw_imul dX11_influenceAt_71 ?_
    refine aw_iload dX11_influenceAt_72 rfl ?_
    refine aw_iadd dX11_influenceAt_74 ?_
    refine aw_iald dX11_influenceAt_75 (fun x75 => ?_)
    refine aw_istore dX11_influenceAt_76 (by decide) ?_
    refine aw_lload dX11_influenceAt_78 rfl ?_
    refine aw_iload dX11_influenceAt_80 rfl ?_
    refine aw_iload_n dX11_influenceAt_82 rfl ?_
    refine aw_icmp_ge 105 dX11_influenceAt_83 (by decide) ?_ ?_
    · refine aw_lconst (0 : Int64) dX11_influenceAt_105 rfl ?_
      refine aw_ladd dX11_influenceAt_106 ?_
      refine aw_lstore dX11_influenceAt_107 (by decide) ?_
      refine aw_iinc (v8 + (1 : Int32)) dX11_influenceAt_109 rfl rfl (by decide) ?_
      refine aw_goto 54 dX11_influenceAt_112 (by decide) ?_
      refine aw_msk [true, true, false, true, false, true, true, false, true, false] ?_
      exact h54 t v1 v3 v5 ((v6 + (0 : Int64))) ((v8 + (1 : Int32)))
    · refine aw_aload_n dX11_influenceAt_86 rfl ?_
      refine aw_gA dX11_influenceAt_87 fl_X11_31 (fun x87 => ?_)
      refine aw_iload dX11_influenceAt_90 rfl ?_
      refine aw_iload dX11_influenceAt_92 rfl ?_
      refine aw_iadd dX11_influenceAt_94 ?_
      refine aw_lald dX11_influenceAt_95 (fun x95 => ?_)
      refine aw_iload_n dX11_influenceAt_96 rfl ?_
      refine aw_iload dX11_influenceAt_97 rfl ?_
      refine aw_isub dX11_influenceAt_99 ?_
      refine aw_i2l dX11_influenceAt_100 ?_
      refine aw_lmul dX11_influenceAt_101 ?_
      refine aw_goto 106 dX11_influenceAt_102 (by decide) ?_
      refine aw_ladd dX11_influenceAt_106 ?_
      refine aw_lstore dX11_influenceAt_107 (by decide) ?_
      refine aw_iinc (v8 + (1 : Int32)) dX11_influenceAt_109 rfl rfl (by decide) ?_
      refine aw_goto 54 dX11_influenceAt_112 (by decide) ?_
      refine aw_msk [true, true, false, true, false, true, true, false, true, false] ?_
      exact h54 t v1 v3 v5 ((v6 + (x95 * (Int32.toInt64 (v3 - x75))))) ((v8 + (1 : Int32)))
theorem afX11_influenceAt_54 {C : Cx} {res : Int64 × Hp}   : ∀ (n : Nat) (t : Nat) (v1 : Int32) (v3 : Int32) (v5 : Int32) (v6 : Int64) (v8 : Int32), AW C cX11_influenceAt mX11_influenceAt qL res 54 [vr (some t), vi v1, vu, vi v3, vu, vi v5, vl v6, vu, vi v8, vu] [] (fX11_influenceAt_54   n t v1 v3 v5 v6 v8)
  | 0, _, _, _, _, _, _ => aw_fl
  | n + 1, t, v1, v3, v5, v6, v8 => abX11_influenceAt_54  (fun t v1 v3 v5 v6 v8 => afX11_influenceAt_54   n t v1 v3 v5 v6 v8) t v1 v3 v5 v6 v8
set_option maxRecDepth 20000 in
theorem ctX11_influenceAt (t : Nat) (v1 : Int32) (v2 : Int32) (v3 : Int32) (v4 : Int32) : Ct yX11_influenceAt cX11_influenceAt mX11_influenceAt qL [vr (some t), vi v1, vi v2, vi v3, vi v4] (pX11_influenceAt t v1 v2 v3 v4) := by
  refine ct_go rfl rfl (fun h9 => by cases h9) (Nat.le_of_ble_eq_true rfl) (fun C res => ?_)
  refine aw_iconst (5 : Int32) dX11_influenceAt_0 rfl ?_
  refine aw_bipush (61 : Int32) dX11_influenceAt_1 rfl ?_
  refine aw_iload_n dX11_influenceAt_3 rfl ?_
  refine aw_imul dX11_influenceAt_4 ?_
  refine aw_iload dX11_influenceAt_5 rfl ?_
  refine aw_iadd dX11_influenceAt_7 ?_
  refine aw_imul dX11_influenceAt_8 ?_
  refine aw_istore dX11_influenceAt_9 (by decide) ?_
  refine aw_iload_n dX11_influenceAt_11 rfl ?_
  refine aw_if_ne 25 dX11_influenceAt_12 (by decide) ?_ ?_
  · refine aw_iload dX11_influenceAt_25 rfl ?_
    refine aw_iload_n dX11_influenceAt_27 rfl ?_
    refine aw_icmp_ge 48 dX11_influenceAt_28 (by decide) ?_ ?_
    · refine aw_lconst (0 : Int64) dX11_influenceAt_48 rfl ?_
      refine aw_lstore dX11_influenceAt_49 (by decide) ?_
      refine aw_iconst (0 : Int32) dX11_influenceAt_51 rfl ?_
      refine aw_istore dX11_influenceAt_52 (by decide) ?_
      refine aw_msk [true, true, false, true, false, true, true, false, true, false] ?_
      exact afX11_influenceAt_54   FU t v1 v3 (((5 : Int32) * (((61 : Int32) * v1) + v4))) ((0 : Int64)) ((0 : Int32))
    · refine aw_lconst (0 : Int64) dX11_influenceAt_31 rfl ?_
      refine aw_iload_n dX11_influenceAt_32 rfl ?_
      refine aw_iload dX11_influenceAt_33 rfl ?_
      refine aw_isub dX11_influenceAt_35 ?_
      refine aw_i2l dX11_influenceAt_36 ?_
      refine aw_aload_n dX11_influenceAt_37 rfl ?_
      refine aw_gA dX11_influenceAt_38 fl_X11_35 (fun x38 => ?_)
      refine aw_iload_n dX11_influenceAt_41 rfl ?_
      refine aw_lald dX11_influenceAt_42 (fun x42 => ?_)
      refine aw_lmul dX11_influenceAt_43 ?_
      refine aw_lsub dX11_influenceAt_44 ?_
      refine aw_goto 49 dX11_influenceAt_45 (by decide) ?_
      refine aw_lstore dX11_influenceAt_49 (by decide) ?_
      refine aw_iconst (0 : Int32) dX11_influenceAt_51 rfl ?_
      refine aw_istore dX11_influenceAt_52 (by decide) ?_
      refine aw_msk [true, true, false, true, false, true, true, false, true, false] ?_
      exact afX11_influenceAt_54   FU t v1 v3 (((5 : Int32) * (((61 : Int32) * v1) + v4))) (((0 : Int64) - ((Int32.toInt64 (v3 - v4)) * x42))) ((0 : Int32))
  · refine aw_aload_n dX11_influenceAt_15 rfl ?_
    refine aw_gA dX11_influenceAt_16 fl_X11_31 (fun x16 => ?_)
    refine aw_iload dX11_influenceAt_19 rfl ?_
    refine aw_iload_n dX11_influenceAt_21 rfl ?_
    refine aw_iadd dX11_influenceAt_22 ?_
    refine aw_lald dX11_influenceAt_23 (fun x23 => ?_)
    exact aw_lret dX11_influenceAt_24 rfl
set_option maxRecDepth 20000 in
theorem ctX11_weightOf (t : Nat) (v1 : Int32) (v2 : Int32) : Ct yX11_weightOf cX11_weightOf mX11_weightOf qI [vr (some t), vi v1, vi v2] (pX11_weightOf t v1 v2) := by
  refine ct_go rfl rfl (fun h9 => by cases h9) (Nat.le_of_ble_eq_true rfl) (fun C res => ?_)
  refine aw_aload_n dX11_weightOf_0 rfl ?_
  refine aw_gA dX11_weightOf_1 fl_X11_47 (fun x1 => ?_)
  refine aw_bipush (8 : Int32) dX11_weightOf_4 rfl ?_
  refine aw_iload_n dX11_weightOf_6 rfl ?_
  refine aw_imul dX11_weightOf_7 ?_
  refine aw_iload_n dX11_weightOf_8 rfl ?_
  refine aw_iadd dX11_weightOf_9 ?_
  refine aw_iald dX11_weightOf_10 (fun x10 => ?_)
  refine aw_istore_n dX11_weightOf_11 (by decide) ?_
  refine aw_iload_n dX11_weightOf_12 rfl ?_
  refine aw_aload_n dX11_weightOf_13 rfl ?_
  refine aw_gI dX11_weightOf_14 fl_X11_63 (fun x14 => ?_)
  refine aw_icmp_ne 32 dX11_weightOf_17 (by decide) ?_ ?_
  · refine aw_iload_n dX11_weightOf_32 rfl ?_
    exact aw_iret dX11_weightOf_33 rfl
  · refine aw_iload_n dX11_weightOf_20 rfl ?_
    refine aw_aload_n dX11_weightOf_21 rfl ?_
    refine aw_gI dX11_weightOf_22 fl_X11_60 (fun x22 => ?_)
    refine aw_imul dX11_weightOf_25 ?_
    refine aw_bipush (100 : Int32) dX11_weightOf_26 rfl ?_
    refine aw_idiv dX11_weightOf_28 (fun x28 => ?_)
    refine aw_goto 33 dX11_weightOf_29 (by decide) ?_
    exact aw_iret dX11_weightOf_33 rfl
set_option maxRecDepth 20000 in
theorem abX11_effectAt_120 {C : Cx} {res : Int64 × Hp}  {k10 : Nat → Int32 → Int32 → Int32 → Int32 → Int32 → Int64 → Int32 → Int32 → Mo Int64} (h10 : ∀ (t : Nat) (v1 : Int32) (v2 : Int32) (v3 : Int32) (v4 : Int32) (v5 : Int32) (v7 : Int64) (v9 : Int32) (v10 : Int32), AW C cX11_effectAt mX11_effectAt qL res 10 [vr (some t), vi v1, vi v2, vi v3, vi v4, vi v5, vu, vl v7, vu, vi v9, vi v10, vu] [] (k10 t v1 v2 v3 v4 v5 v7 v9 v10)) : ∀ (t : Nat) (v1 : Int32) (v2 : Int32) (v3 : Int32) (v4 : Int32) (v5 : Int32) (v7 : Int64) (v10 : Int32) (s0 : Int32) (s1 : Option Nat) (s2 : Int32) (s3 : Int32), AW C cX11_effectAt mX11_effectAt qL res 120 [vr (some t), vi v1, vi v2, vi v3, vi v4, vi v5, vu, vl v7, vu, vu, vi v10, vu] [vi s3, vi s2, vr s1, vi s0] (bX11_effectAt_120  k10 t v1 v2 v3 v4 v5 v7 v10 s0 s1 s2 s3) := by
  intro t v1 v2 v3 v4 v5 v7 v10 s0 s1 s2 s3
  refine aw_cV2 puI dX11_effectAt_120 (fun o => ctX11_gapOf o _ _) mcX11_gapOf ml_X11_198 rfl rfl msX11_gapOf rfl (by decide) (Nat.le_of_ble_eq_true rfl) (fun x120 => ?_)
  refine aw_isub dX11_effectAt_123 ?_
  refine aw_istore dX11_effectAt_124 (by decide) ?_
  refine aw_iinc (v10 + (1 : Int32)) dX11_effectAt_126 rfl rfl (by decide) ?_
  refine aw_goto 10 dX11_effectAt_129 (by decide) ?_
  refine aw_msk [true, true, true, true, true, true, false, true, false, true, true, false] ?_
  exact h10 t v1 v2 v3 v4 v5 v7 ((s0 - x120)) ((v10 + (1 : Int32)))
set_option maxRecDepth 20000 in
theorem abX11_effectAt_87 {C : Cx} {res : Int64 × Hp}  {k10 : Nat → Int32 → Int32 → Int32 → Int32 → Int32 → Int64 → Int32 → Int32 → Mo Int64} (h10 : ∀ (t : Nat) (v1 : Int32) (v2 : Int32) (v3 : Int32) (v4 : Int32) (v5 : Int32) (v7 : Int64) (v9 : Int32) (v10 : Int32), AW C cX11_effectAt mX11_effectAt qL res 10 [vr (some t), vi v1, vi v2, vi v3, vi v4, vi v5, vu, vl v7, vu, vi v9, vi v10, vu] [] (k10 t v1 v2 v3 v4 v5 v7 v9 v10)) : ∀ (t : Nat) (v1 : Int32) (v2 : Int32) (v3 : Int32) (v4 : Int32) (v5 : Int32) (v7 : Int64) (v9 : Int32) (v10 : Int32) (v11 : Int32), AW C cX11_effectAt mX11_effectAt qL res 87 [vr (some t), vi v1, vi v2, vi v3, vi v4, vi v5, vu, vl v7, vu, vi v9, vi v10, vi v11] [] (bX11_effectAt_87  k10 t v1 v2 v3 v4 v5 v7 v9 v10 v11) := by
  intro t v1 v2 v3 v4 v5 v7 v9 v10 v11
  refine aw_iload dX11_effectAt_87 rfl ?_
  refine aw_iconst (1 : Int32) dX11_effectAt_89 rfl ?_
  refine aw_iadd dX11_effectAt_90 ?_
  refine aw_aload_n dX11_effectAt_91 rfl ?_
  refine aw_gA dX11_effectAt_92 fl_X11_44 (fun x92 => ?_)
  refine aw_iload dX11_effectAt_95 rfl ?_
  refine aw_iald dX11_effectAt_97 (fun x97 => ?_)
  refine aw_icmp_ge 126 dX11_effectAt_98 (by decide) ?_ ?_
  · refine aw_iinc (v10 + (1 : Int32)) dX11_effectAt_126 rfl rfl (by decide) ?_
    refine aw_goto 10 dX11_effectAt_129 (by decide) ?_
    refine aw_msk [true, true, true, true, true, true, false, true, false, true, true, false] ?_
    exact h10 t v1 v2 v3 v4 v5 v7 v9 ((v10 + (1 : Int32)))
  · refine aw_iload dX11_effectAt_101 rfl ?_
    refine aw_aload_n dX11_effectAt_103 rfl ?_
    refine aw_iload dX11_effectAt_104 rfl ?_
    refine aw_iload dX11_effectAt_106 rfl ?_
    refine aw_if_ne 118 dX11_effectAt_108 (by decide) ?_ ?_
    · refine aw_iload dX11_effectAt_118 rfl ?_
      refine aw_msk [true, true, true, true, true, true, false, true, false, false, true, false] ?_
      exact abX11_effectAt_120  h10 t v1 v2 v3 v4 v5 v7 v10 v9 ((some t)) v4 v11
    · refine aw_iload dX11_effectAt_111 rfl ?_
      refine aw_iconst (1 : Int32) dX11_effectAt_113 rfl ?_
      refine aw_iadd dX11_effectAt_114 ?_
      refine aw_goto 120 dX11_effectAt_115 (by decide) ?_
      refine aw_msk [true, true, true, true, true, true, false, true, false, false, true, false] ?_
      exact abX11_effectAt_120  h10 t v1 v2 v3 v4 v5 v7 v10 v9 ((some t)) v4 ((v11 + (1 : Int32)))
set_option maxRecDepth 20000 in
theorem abX11_effectAt_44 {C : Cx} {res : Int64 × Hp}  {k10 : Nat → Int32 → Int32 → Int32 → Int32 → Int32 → Int64 → Int32 → Int32 → Mo Int64} (h10 : ∀ (t : Nat) (v1 : Int32) (v2 : Int32) (v3 : Int32) (v4 : Int32) (v5 : Int32) (v7 : Int64) (v9 : Int32) (v10 : Int32), AW C cX11_effectAt mX11_effectAt qL res 10 [vr (some t), vi v1, vi v2, vi v3, vi v4, vi v5, vu, vl v7, vu, vi v9, vi v10, vu] [] (k10 t v1 v2 v3 v4 v5 v7 v9 v10)) : ∀ (t : Nat) (v1 : Int32) (v2 : Int32) (v3 : Int32) (v4 : Int32) (v5 : Int32) (v7 : Int64) (v9 : Int32) (v10 : Int32) (s0 : Int32), AW C cX11_effectAt mX11_effectAt qL res 44 [vr (some t), vi v1, vi v2, vi v3, vi v4, vi v5, vu, vl v7, vu, vi v9, vi v10, vu] [vi s0] (bX11_effectAt_44  k10 t v1 v2 v3 v4 v5 v7 v9 v10 s0) := by
  intro t v1 v2 v3 v4 v5 v7 v9 v10 s0
  refine aw_istore dX11_effectAt_44 (by decide) ?_
  refine aw_iload dX11_effectAt_46 rfl ?_
  refine aw_i2l dX11_effectAt_48 ?_
  refine aw_lconst (0 : Int64) dX11_effectAt_49 rfl ?_
  refine aw_aload_n dX11_effectAt_50 rfl ?_
  refine aw_gA dX11_effectAt_51 fl_X11_7 (fun x51 => ?_)
  refine aw_iload_n dX11_effectAt_54 rfl ?_
  refine aw_iald dX11_effectAt_55 (fun x55 => ?_)
  refine aw_i2l dX11_effectAt_56 ?_
  refine aw_cS3 puI dX11_effectAt_57 (ctX11_in _ _ _) mcX11_in ml_X11_133 msX11_in rfl (by decide) (Nat.le_of_ble_eq_true rfl) (fun x57 => ?_)
  refine aw_if_eq 87 dX11_effectAt_60 (by decide) ?_ ?_
  · refine aw_msk [true, true, true, true, true, true, false, true, false, true, true, true] ?_
    exact abX11_effectAt_87  h10 t v1 v2 v3 v4 v5 v7 v9 v10 s0
  · refine aw_lload dX11_effectAt_63 rfl ?_
    refine aw_aload_n dX11_effectAt_65 rfl ?_
    refine aw_iload dX11_effectAt_66 rfl ?_
    refine aw_iload dX11_effectAt_68 rfl ?_
    refine aw_cV2 puI dX11_effectAt_70 (fun o => ctX11_weightOf o _ _) mcX11_weightOf ml_X11_206 rfl rfl msX11_weightOf rfl (by decide) (Nat.le_of_ble_eq_true rfl) (fun x70 => ?_)
    refine aw_i2l dX11_effectAt_73 ?_
    refine aw_aload_n dX11_effectAt_74 rfl ?_
    refine aw_iload_n dX11_effectAt_75 rfl ?_
    refine aw_iload_n dX11_effectAt_76 rfl ?_
    refine aw_iload_n dX11_effectAt_77 rfl ?_
    refine aw_iload dX11_effectAt_78 rfl ?_
    refine aw_cV4 puL dX11_effectAt_80 (fun o => ctX11_influenceAt o _ _ _ _) mcX11_influenceAt ml_X11_173 rfl rfl msX11_influenceAt rfl (by decide) (Nat.le_of_ble_eq_true rfl) (fun x80 => ?_)
    refine aw_lmul dX11_effectAt_83 ?_
    refine aw_ladd dX11_effectAt_84 ?_
    refine aw_lstore dX11_effectAt_85 (by decide) ?_
    refine aw_msk [true, true, true, true, true, true, false, true, false, true, true, true] ?_
    exact abX11_effectAt_87  h10 t v1 v2 v3 v4 v5 ((v7 + ((Int32.toInt64 x70) * x80))) v9 v10 s0
set_option maxRecDepth 20000 in
theorem abX11_effectAt_10 {C : Cx} {res : Int64 × Hp}  {k10 : Nat → Int32 → Int32 → Int32 → Int32 → Int32 → Int64 → Int32 → Int32 → Mo Int64} (h10 : ∀ (t : Nat) (v1 : Int32) (v2 : Int32) (v3 : Int32) (v4 : Int32) (v5 : Int32) (v7 : Int64) (v9 : Int32) (v10 : Int32), AW C cX11_effectAt mX11_effectAt qL res 10 [vr (some t), vi v1, vi v2, vi v3, vi v4, vi v5, vu, vl v7, vu, vi v9, vi v10, vu] [] (k10 t v1 v2 v3 v4 v5 v7 v9 v10)) : ∀ (t : Nat) (v1 : Int32) (v2 : Int32) (v3 : Int32) (v4 : Int32) (v5 : Int32) (v7 : Int64) (v9 : Int32) (v10 : Int32), AW C cX11_effectAt mX11_effectAt qL res 10 [vr (some t), vi v1, vi v2, vi v3, vi v4, vi v5, vu, vl v7, vu, vi v9, vi v10, vu] [] (bX11_effectAt_10  k10 t v1 v2 v3 v4 v5 v7 v9 v10) := by
  intro t v1 v2 v3 v4 v5 v7 v9 v10
  refine aw_iload dX11_effectAt_10 rfl ?_
  refine aw_aload_n dX11_effectAt_12 rfl ?_
  refine aw_gA dX11_effectAt_13 fl_X11_44 (fun x13 => ?_)
  refine aw_iload dX11_effectAt_16 rfl ?_
  refine aw_iald dX11_effectAt_18 (fun x18 => ?_)
  refine aw_icmp_ge 132 dX11_effectAt_19 (by decide) ?_ ?_
  · refine aw_lload dX11_effectAt_132 rfl ?_
    exact aw_lret dX11_effectAt_134 rfl
  · refine aw_iload dX11_effectAt_22 rfl ?_
    refine aw_if_ne 32 dX11_effectAt_24 (by decide) ?_ ?_
    · refine aw_aload_n dX11_effectAt_32 rfl ?_
      refine aw_gA dX11_effectAt_33 fl_X11_44 (fun x33 => ?_)
      refine aw_iload dX11_effectAt_36 rfl ?_
      refine aw_iald dX11_effectAt_38 (fun x38 => ?_)
      refine aw_iconst (1 : Int32) dX11_effectAt_39 rfl ?_
      refine aw_isub dX11_effectAt_40 ?_
      refine aw_iload dX11_effectAt_41 rfl ?_
      refine aw_isub dX11_effectAt_43 ?_
      refine aw_msk [true, true, true, true, true, true, false, true, false, true, true, false] ?_
      exact abX11_effectAt_44  h10 t v1 v2 v3 v4 v5 v7 v9 v10 (((x38 - (1 : Int32)) - v10))
    · refine aw_iload dX11_effectAt_27 rfl ?_
      refine aw_goto 44 dX11_effectAt_29 (by decide) ?_
      refine aw_msk [true, true, true, true, true, true, false, true, false, true, true, false] ?_
      exact abX11_effectAt_44  h10 t v1 v2 v3 v4 v5 v7 v9 v10 v10
theorem afX11_effectAt_10 {C : Cx} {res : Int64 × Hp}   : ∀ (n : Nat) (t : Nat) (v1 : Int32) (v2 : Int32) (v3 : Int32) (v4 : Int32) (v5 : Int32) (v7 : Int64) (v9 : Int32) (v10 : Int32), AW C cX11_effectAt mX11_effectAt qL res 10 [vr (some t), vi v1, vi v2, vi v3, vi v4, vi v5, vu, vl v7, vu, vi v9, vi v10, vu] [] (fX11_effectAt_10   n t v1 v2 v3 v4 v5 v7 v9 v10)
  | 0, _, _, _, _, _, _, _, _, _ => aw_fl
  | n + 1, t, v1, v2, v3, v4, v5, v7, v9, v10 => abX11_effectAt_10  (fun t v1 v2 v3 v4 v5 v7 v9 v10 => afX11_effectAt_10   n t v1 v2 v3 v4 v5 v7 v9 v10) t v1 v2 v3 v4 v5 v7 v9 v10
set_option maxRecDepth 20000 in
theorem ctX11_effectAt (t : Nat) (v1 : Int32) (v2 : Int32) (v3 : Int32) (v4 : Int32) (v5 : Int32) (v6 : Int32) : Ct yX11_effectAt cX11_effectAt mX11_effectAt qL [vr (some t), vi v1, vi v2, vi v3, vi v4, vi v5, vi v6] (pX11_effectAt t v1 v2 v3 v4 v5 v6) := by
  refine ct_go rfl rfl (fun h9 => by cases h9) (Nat.le_of_ble_eq_true rfl) (fun C res => ?_)
  refine aw_lconst (0 : Int64) dX11_effectAt_0 rfl ?_
  refine aw_lstore dX11_effectAt_1 (by decide) ?_
  refine aw_iload dX11_effectAt_3 rfl ?_
  refine aw_istore dX11_effectAt_5 (by decide) ?_
  refine aw_iconst (0 : Int32) dX11_effectAt_7 rfl ?_
  refine aw_istore dX11_effectAt_8 (by decide) ?_
  refine aw_msk [true, true, true, true, true, true, false, true, false, true, true, false] ?_
  exact afX11_effectAt_10   FU t v1 v2 v3 v4 v5 ((0 : Int64)) v6 ((0 : Int32))
set_option maxRecDepth 20000 in
theorem abX11_gcd_12 {C : Cx} {res : Int64 × Hp}  {k12 : Int64 → Int64 → Mo Int64} (h12 : ∀ (v4 : Int64) (v6 : Int64), AW C cX11_gcd mX11_gcd qL res 12 [vu, vu, vu, vu, vl v4, vu, vl v6, vu, vu, vu] [] (k12 v4 v6)) : ∀ (v4 : Int64) (v6 : Int64), AW C cX11_gcd mX11_gcd qL res 12 [vu, vu, vu, vu, vl v4, vu, vl v6, vu, vu, vu] [] (bX11_gcd_12  k12 v4 v6) := by
  intro v4 v6
  refine aw_lload dX11_gcd_12 rfl ?_
  refine aw_lconst (0 : Int64) dX11_gcd_14 rfl ?_
  refine aw_leq 37 dX11_gcd_15 dX11_gcd_16 (by decide) ?_ ?_
  · refine aw_lload dX11_gcd_37 rfl ?_
    exact aw_lret dX11_gcd_39 rfl
  · refine aw_lload dX11_gcd_19 rfl ?_
    refine aw_lload dX11_gcd_21 rfl ?_
    refine aw_lrem dX11_gcd_23 (fun x23 => ?_)
    refine aw_lstore dX11_gcd_24 (by decide) ?_
    refine aw_lload dX11_gcd_26 rfl ?_
    refine aw_lstore dX11_gcd_28 (by decide) ?_
    refine aw_lload dX11_gcd_30 rfl ?_
    refine aw_lstore dX11_gcd_32 (by decide) ?_
    refine aw_goto 12 dX11_gcd_34 (by decide) ?_
    refine aw_msk [false, false, false, false, true, false, true, false, false, false] ?_
    exact h12 v6 x23
theorem afX11_gcd_12 {C : Cx} {res : Int64 × Hp}   : ∀ (n : Nat) (v4 : Int64) (v6 : Int64), AW C cX11_gcd mX11_gcd qL res 12 [vu, vu, vu, vu, vl v4, vu, vl v6, vu, vu, vu] [] (fX11_gcd_12   n v4 v6)
  | 0, _, _ => aw_fl
  | n + 1, v4, v6 => abX11_gcd_12  (fun v4 v6 => afX11_gcd_12   n v4 v6) v4 v6
set_option maxRecDepth 20000 in
theorem ctX11_gcd (v0 : Int64) (v2 : Int64) : Ct yX11_gcd cX11_gcd mX11_gcd qL [vl v0, vl v2] (pX11_gcd v0 v2) := by
  refine ct_go rfl rfl (fun h9 => by cases h9) (Nat.le_of_ble_eq_true rfl) (fun C res => ?_)
  refine aw_lload_n dX11_gcd_0 rfl ?_
  refine aw_cS1 puL dX11_gcd_1 (ctX11_size _) mcX11_size ml_X11_109 msX11_size rfl (by decide) (Nat.le_of_ble_eq_true rfl) (fun x1 => ?_)
  refine aw_lstore dX11_gcd_4 (by decide) ?_
  refine aw_lload_n dX11_gcd_6 rfl ?_
  refine aw_cS1 puL dX11_gcd_7 (ctX11_size _) mcX11_size ml_X11_109 msX11_size rfl (by decide) (Nat.le_of_ble_eq_true rfl) (fun x7 => ?_)
  refine aw_lstore dX11_gcd_10 (by decide) ?_
  refine aw_msk [false, false, false, false, true, false, true, false, false, false] ?_
  exact afX11_gcd_12   FU x1 x7
set_option maxRecDepth 20000 in
theorem ctX11_part (v0 : Int64) (v2 : Int64) (v4 : Int32) : Ct yX11_part cX11_part mX11_part qL [vl v0, vl v2, vi v4] (pX11_part v0 v2 v4) := by
  refine ct_go rfl rfl (fun h9 => by cases h9) (Nat.le_of_ble_eq_true rfl) (fun C res => ?_)
  refine aw_lload_n dX11_part_0 rfl ?_
  refine aw_lload_n dX11_part_1 rfl ?_
  refine aw_cS2 puL dX11_part_2 (ctX11_gcd _ _) mcX11_gcd ml_X11_113 msX11_gcd rfl (by decide) (Nat.le_of_ble_eq_true rfl) (fun x2 => ?_)
  refine aw_lstore dX11_part_5 (by decide) ?_
  refine aw_iload dX11_part_7 rfl ?_
  refine aw_if_ne 19 dX11_part_9 (by decide) ?_ ?_
  · refine aw_lload_n dX11_part_19 rfl ?_
    refine aw_lload dX11_part_20 rfl ?_
    refine aw_ldiv dX11_part_22 (fun x22 => ?_)
    exact aw_lret dX11_part_23 rfl
  · refine aw_lload_n dX11_part_12 rfl ?_
    refine aw_lload dX11_part_13 rfl ?_
    refine aw_ldiv dX11_part_15 (fun x15 => ?_)
    refine aw_goto 23 dX11_part_16 (by decide) ?_
    exact aw_lret dX11_part_23 rfl
set_option maxRecDepth 20000 in
theorem ctX11_effect (t : Nat) (v1 : Int32) (v2 : Int32) (v3 : Int32) (v4 : Int32) (v5 : Int32) (v6 : Int32) (v7 : Int32) : Ct yX11_effect cX11_effect mX11_effect qL [vr (some t), vi v1, vi v2, vi v3, vi v4, vi v5, vi v6, vi v7] (pX11_effect t v1 v2 v3 v4 v5 v6 v7) := by
  refine ct_go rfl rfl (fun h9 => by cases h9) (Nat.le_of_ble_eq_true rfl) (fun C res => ?_)
  refine aw_aload_n dX11_effect_0 rfl ?_
  refine aw_iload_n dX11_effect_1 rfl ?_
  refine aw_cV1 puI dX11_effect_2 (fun o => ctX11_noBridge o _) mcX11_noBridge ml_X11_158 rfl rfl msX11_noBridge rfl (by decide) (Nat.le_of_ble_eq_true rfl) (fun x2 => ?_)
  refine aw_if_ne 27 dX11_effect_5 (by decide) ?_ ?_
  · refine aw_ldc2 dX11_effect_27 cj_X11_166 ?_
    exact aw_lret dX11_effect_30 rfl
  · refine aw_aload_n dX11_effect_8 rfl ?_
    refine aw_iload_n dX11_effect_9 rfl ?_
    refine aw_iload_n dX11_effect_10 rfl ?_
    refine aw_iload_n dX11_effect_11 rfl ?_
    refine aw_cV3 puI dX11_effect_12 (fun o => ctX11_noSupport o _ _ _) mcX11_noSupport ml_X11_162 rfl rfl msX11_noSupport rfl (by decide) (Nat.le_of_ble_eq_true rfl) (fun x12 => ?_)
    refine aw_if_ne 27 dX11_effect_15 (by decide) ?_ ?_
    · refine aw_ldc2 dX11_effect_27 cj_X11_166 ?_
      exact aw_lret dX11_effect_30 rfl
    · refine aw_aload_n dX11_effect_18 rfl ?_
      refine aw_iload dX11_effect_19 rfl ?_
      refine aw_cV1 puI dX11_effect_21 (fun o => ctX11_noTrain o _) mcX11_noTrain ml_X11_190 rfl rfl msX11_noTrain rfl (by decide) (Nat.le_of_ble_eq_true rfl) (fun x21 => ?_)
      refine aw_if_eq 31 dX11_effect_24 (by decide) ?_ ?_
      · refine aw_aload_n dX11_effect_31 rfl ?_
        refine aw_iload_n dX11_effect_32 rfl ?_
        refine aw_iload_n dX11_effect_33 rfl ?_
        refine aw_iload_n dX11_effect_34 rfl ?_
        refine aw_cV3 puI dX11_effect_35 (fun o => ctX11_isResponse o _ _ _) mcX11_isResponse ml_X11_168 rfl rfl msX11_isResponse rfl (by decide) (Nat.le_of_ble_eq_true rfl) (fun x35 => ?_)
        refine aw_if_eq 87 dX11_effect_38 (by decide) ?_ ?_
        · refine aw_ldc2 dX11_effect_87 cj_X11_171 ?_
          exact aw_lret dX11_effect_90 rfl
        · refine aw_iload dX11_effect_41 rfl ?_
          refine aw_i2l dX11_effect_43 ?_
          refine aw_lconst (0 : Int64) dX11_effect_44 rfl ?_
          refine aw_lconst (1 : Int64) dX11_effect_45 rfl ?_
          refine aw_cS3 puI dX11_effect_46 (ctX11_in _ _ _) mcX11_in ml_X11_133 msX11_in rfl (by decide) (Nat.le_of_ble_eq_true rfl) (fun x46 => ?_)
          refine aw_if_eq 87 dX11_effect_49 (by decide) ?_ ?_
          · refine aw_ldc2 dX11_effect_87 cj_X11_171 ?_
            exact aw_lret dX11_effect_90 rfl
          · refine aw_iload dX11_effect_52 rfl ?_
            refine aw_i2l dX11_effect_54 ?_
            refine aw_lconst (0 : Int64) dX11_effect_55 rfl ?_
            refine aw_aload_n dX11_effect_56 rfl ?_
            refine aw_gA dX11_effect_57 fl_X11_7 (fun x57 => ?_)
            refine aw_iload_n dX11_effect_60 rfl ?_
            refine aw_iald dX11_effect_61 (fun x61 => ?_)
            refine aw_aload_n dX11_effect_62 rfl ?_
            refine aw_iload dX11_effect_63 rfl ?_
            refine aw_cV1 puI dX11_effect_65 (fun o => ctX11_allGaps o _) mcX11_allGaps ml_X11_202 rfl rfl msX11_allGaps rfl (by decide) (Nat.le_of_ble_eq_true rfl) (fun x65 => ?_)
            refine aw_iadd dX11_effect_68 ?_
            refine aw_i2l dX11_effect_69 ?_
            refine aw_cS3 puI dX11_effect_70 (ctX11_in _ _ _) mcX11_in ml_X11_133 msX11_in rfl (by decide) (Nat.le_of_ble_eq_true rfl) (fun x70 => ?_)
            refine aw_if_eq 87 dX11_effect_73 (by decide) ?_ ?_
            · refine aw_ldc2 dX11_effect_87 cj_X11_171 ?_
              exact aw_lret dX11_effect_90 rfl
            · refine aw_iload dX11_effect_76 rfl ?_
              refine aw_i2l dX11_effect_78 ?_
              refine aw_lconst (0 : Int64) dX11_effect_79 rfl ?_
              refine aw_lconst (1 : Int64) dX11_effect_80 rfl ?_
              refine aw_cS3 puI dX11_effect_81 (ctX11_in _ _ _) mcX11_in ml_X11_133 msX11_in rfl (by decide) (Nat.le_of_ble_eq_true rfl) (fun x81 => ?_)
              refine aw_if_ne 91 dX11_effect_84 (by decide) ?_ ?_
              · refine aw_aload_n dX11_effect_91 rfl ?_
                refine aw_iload_n dX11_effect_92 rfl ?_
                refine aw_iload_n dX11_effect_93 rfl ?_
                refine aw_iload_n dX11_effect_94 rfl ?_
                refine aw_iload dX11_effect_95 rfl ?_
                refine aw_iload dX11_effect_97 rfl ?_
                refine aw_iload dX11_effect_99 rfl ?_
                refine aw_cV6 puL dX11_effect_101 (fun o => ctX11_effectAt o _ _ _ _ _ _) mcX11_effectAt ml_X11_209 rfl rfl msX11_effectAt rfl (by decide) (Nat.le_of_ble_eq_true rfl) (fun x101 => ?_)
                refine aw_aload_n dX11_effect_104 rfl ?_
                refine aw_gA dX11_effect_105 fl_X11_35 (fun x105 => ?_)
                refine aw_iload_n dX11_effect_108 rfl ?_
                refine aw_lald dX11_effect_109 (fun x109 => ?_)
                refine aw_iload dX11_effect_110 rfl ?_
                refine aw_cS3 puL dX11_effect_112 (ctX11_part _ _ _) mcX11_part ml_X11_177 msX11_part rfl (by decide) (Nat.le_of_ble_eq_true rfl) (fun x112 => ?_)
                exact aw_lret dX11_effect_115 rfl
              · refine aw_ldc2 dX11_effect_87 cj_X11_171 ?_
                exact aw_lret dX11_effect_90 rfl
      · refine aw_ldc2 dX11_effect_27 cj_X11_166 ?_
        exact aw_lret dX11_effect_30 rfl
set_option maxRecDepth 20000 in
theorem abX11_extreme_96 {C : Cx} {res : Int64 × Hp}  {k16 : Nat → Int32 → Int32 → Int32 → Int32 → Int32 → Int64 → Int32 → Mo Int64} (h16 : ∀ (t : Nat) (v1 : Int32) (v2 : Int32) (v3 : Int32) (v4 : Int32) (v5 : Int32) (v6 : Int64) (v8 : Int32), AW C cX11_extreme mX11_extreme qL res 16 [vr (some t), vi v1, vi v2, vi v3, vi v4, vi v5, vl v6, vu, vi v8, vu, vu, vu, vu, vu] [] (k16 t v1 v2 v3 v4 v5 v6 v8)) {k25 : Nat → Int32 → Int32 → Int32 → Int32 → Int32 → Int64 → Int32 → Int32 → Mo Int64} (h25 : ∀ (t : Nat) (v1 : Int32) (v2 : Int32) (v3 : Int32) (v4 : Int32) (v5 : Int32) (v6 : Int64) (v8 : Int32) (v9 : Int32), AW C cX11_extreme mX11_extreme qL res 25 [vr (some t), vi v1, vi v2, vi v3, vi v4, vi v5, vl v6, vu, vi v8, vi v9, vu, vu, vu, vu] [] (k25 t v1 v2 v3 v4 v5 v6 v8 v9)) : ∀ (t : Nat) (v1 : Int32) (v2 : Int32) (v3 : Int32) (v4 : Int32) (v5 : Int32) (v8 : Int32) (v9 : Int32) (v12 : Int64), AW C cX11_extreme mX11_extreme qL res 96 [vr (some t), vi v1, vi v2, vi v3, vi v4, vi v5, vu, vu, vi v8, vi v9, vu, vu, vl v12, vu] [] (bX11_extreme_96  k16 k25 t v1 v2 v3 v4 v5 v8 v9 v12) := by
  intro t v1 v2 v3 v4 v5 v8 v9 v12
  refine aw_lload dX11_extreme_96 rfl ?_
  refine aw_lstore dX11_extreme_98 (by decide) ?_
  refine aw_aload_n dX11_extreme_100 rfl ?_
  refine aw_iload dX11_extreme_101 rfl ?_
  refine aw_pI dX11_extreme_103 pl_X11_213 (fun _ => ?_)
  refine aw_aload_n dX11_extreme_106 rfl ?_
  refine aw_iload dX11_extreme_107 rfl ?_
  refine aw_pI dX11_extreme_109 pl_X11_216 (fun _ => ?_)
  refine aw_iinc (v9 + (1 : Int32)) dX11_extreme_112 rfl rfl (by decide) ?_
  refine aw_goto 25 dX11_extreme_115 (by decide) ?_
  refine aw_msk [true, true, true, true, true, true, true, false, true, true, false, false, false, false] ?_
  exact h25 t v1 v2 v3 v4 v5 v12 v8 ((v9 + (1 : Int32)))
set_option maxRecDepth 20000 in
theorem abX11_extreme_72 {C : Cx} {res : Int64 × Hp}  {k16 : Nat → Int32 → Int32 → Int32 → Int32 → Int32 → Int64 → Int32 → Mo Int64} (h16 : ∀ (t : Nat) (v1 : Int32) (v2 : Int32) (v3 : Int32) (v4 : Int32) (v5 : Int32) (v6 : Int64) (v8 : Int32), AW C cX11_extreme mX11_extreme qL res 16 [vr (some t), vi v1, vi v2, vi v3, vi v4, vi v5, vl v6, vu, vi v8, vu, vu, vu, vu, vu] [] (k16 t v1 v2 v3 v4 v5 v6 v8)) {k25 : Nat → Int32 → Int32 → Int32 → Int32 → Int32 → Int64 → Int32 → Int32 → Mo Int64} (h25 : ∀ (t : Nat) (v1 : Int32) (v2 : Int32) (v3 : Int32) (v4 : Int32) (v5 : Int32) (v6 : Int64) (v8 : Int32) (v9 : Int32), AW C cX11_extreme mX11_extreme qL res 25 [vr (some t), vi v1, vi v2, vi v3, vi v4, vi v5, vl v6, vu, vi v8, vi v9, vu, vu, vu, vu] [] (k25 t v1 v2 v3 v4 v5 v6 v8 v9)) : ∀ (t : Nat) (v1 : Int32) (v2 : Int32) (v3 : Int32) (v4 : Int32) (v5 : Int32) (v6 : Int64) (v8 : Int32) (v9 : Int32) (s0 : Int64), AW C cX11_extreme mX11_extreme qL res 72 [vr (some t), vi v1, vi v2, vi v3, vi v4, vi v5, vl v6, vu, vi v8, vi v9, vu, vu, vu, vu] [vl s0] (bX11_extreme_72  k16 k25 t v1 v2 v3 v4 v5 v6 v8 v9 s0) := by
  intro t v1 v2 v3 v4 v5 v6 v8 v9 s0
  refine aw_lstore dX11_extreme_72 (by decide) ?_
  refine aw_lload dX11_extreme_74 rfl ?_
  refine aw_lconst (0 : Int64) dX11_extreme_76 rfl ?_
  refine aw_llt 112 dX11_extreme_77 dX11_extreme_78 (by decide) ?_ ?_
  · refine aw_iinc (v9 + (1 : Int32)) dX11_extreme_112 rfl rfl (by decide) ?_
    refine aw_goto 25 dX11_extreme_115 (by decide) ?_
    refine aw_msk [true, true, true, true, true, true, true, false, true, true, false, false, false, false] ?_
    exact h25 t v1 v2 v3 v4 v5 v6 v8 ((v9 + (1 : Int32)))
  · refine aw_aload_n dX11_extreme_81 rfl ?_
    refine aw_gI dX11_extreme_82 fl_X11_213 (fun x82 => ?_)
    refine aw_if_lt 96 dX11_extreme_85 (by decide) ?_ ?_
    · refine aw_msk [true, true, true, true, true, true, false, false, true, true, false, false, true, false] ?_
      exact abX11_extreme_96  h16 h25 t v1 v2 v3 v4 v5 v8 v9 s0
    · refine aw_lload dX11_extreme_88 rfl ?_
      refine aw_lload dX11_extreme_90 rfl ?_
      refine aw_lle 112 dX11_extreme_92 dX11_extreme_93 (by decide) ?_ ?_
      · refine aw_iinc (v9 + (1 : Int32)) dX11_extreme_112 rfl rfl (by decide) ?_
        refine aw_goto 25 dX11_extreme_115 (by decide) ?_
        refine aw_msk [true, true, true, true, true, true, true, false, true, true, false, false, false, false] ?_
        exact h25 t v1 v2 v3 v4 v5 v6 v8 ((v9 + (1 : Int32)))
      · refine aw_msk [true, true, true, true, true, true, false, false, true, true, false, false, true, false] ?_
        exact abX11_extreme_96  h16 h25 t v1 v2 v3 v4 v5 v8 v9 s0
set_option maxRecDepth 20000 in
theorem abX11_extreme_25 {C : Cx} {res : Int64 × Hp}  {k16 : Nat → Int32 → Int32 → Int32 → Int32 → Int32 → Int64 → Int32 → Mo Int64} (h16 : ∀ (t : Nat) (v1 : Int32) (v2 : Int32) (v3 : Int32) (v4 : Int32) (v5 : Int32) (v6 : Int64) (v8 : Int32), AW C cX11_extreme mX11_extreme qL res 16 [vr (some t), vi v1, vi v2, vi v3, vi v4, vi v5, vl v6, vu, vi v8, vu, vu, vu, vu, vu] [] (k16 t v1 v2 v3 v4 v5 v6 v8)) {k25 : Nat → Int32 → Int32 → Int32 → Int32 → Int32 → Int64 → Int32 → Int32 → Mo Int64} (h25 : ∀ (t : Nat) (v1 : Int32) (v2 : Int32) (v3 : Int32) (v4 : Int32) (v5 : Int32) (v6 : Int64) (v8 : Int32) (v9 : Int32), AW C cX11_extreme mX11_extreme qL res 25 [vr (some t), vi v1, vi v2, vi v3, vi v4, vi v5, vl v6, vu, vi v8, vi v9, vu, vu, vu, vu] [] (k25 t v1 v2 v3 v4 v5 v6 v8 v9)) : ∀ (t : Nat) (v1 : Int32) (v2 : Int32) (v3 : Int32) (v4 : Int32) (v5 : Int32) (v6 : Int64) (v8 : Int32) (v9 : Int32), AW C cX11_extreme mX11_extreme qL res 25 [vr (some t), vi v1, vi v2, vi v3, vi v4, vi v5, vl v6, vu, vi v8, vi v9, vu, vu, vu, vu] [] (bX11_extreme_25  k16 k25 t v1 v2 v3 v4 v5 v6 v8 v9) := by
  intro t v1 v2 v3 v4 v5 v6 v8 v9
  refine aw_iload dX11_extreme_25 rfl ?_
  refine aw_aload_n dX11_extreme_27 rfl ?_
  refine aw_gA dX11_extreme_28 fl_X11_7 (fun x28 => ?_)
  refine aw_iload_n dX11_extreme_31 rfl ?_
  refine aw_iald dX11_extreme_32 (fun x32 => ?_)
  refine aw_aload_n dX11_extreme_33 rfl ?_
  refine aw_iload dX11_extreme_34 rfl ?_
  refine aw_cV1 puI dX11_extreme_36 (fun o => ctX11_allGaps o _) mcX11_allGaps ml_X11_202 rfl rfl msX11_allGaps rfl (by decide) (Nat.le_of_ble_eq_true rfl) (fun x36 => ?_)
  refine aw_iadd dX11_extreme_39 ?_
  refine aw_icmp_gt 118 dX11_extreme_40 (by decide) ?_ ?_
  · refine aw_iinc (v8 + (1 : Int32)) dX11_extreme_118 rfl rfl (by decide) ?_
    refine aw_goto 16 dX11_extreme_121 (by decide) ?_
    refine aw_msk [true, true, true, true, true, true, true, false, true, false, false, false, false, false] ?_
    exact h16 t v1 v2 v3 v4 v5 v6 ((v8 + (1 : Int32)))
  · refine aw_aload_n dX11_extreme_43 rfl ?_
    refine aw_iload_n dX11_extreme_44 rfl ?_
    refine aw_iload_n dX11_extreme_45 rfl ?_
    refine aw_iload_n dX11_extreme_46 rfl ?_
    refine aw_iload dX11_extreme_47 rfl ?_
    refine aw_iload dX11_extreme_49 rfl ?_
    refine aw_iload dX11_extreme_51 rfl ?_
    refine aw_cV6 puL dX11_extreme_53 (fun o => ctX11_effectAt o _ _ _ _ _ _) mcX11_effectAt ml_X11_209 rfl rfl msX11_effectAt rfl (by decide) (Nat.le_of_ble_eq_true rfl) (fun x53 => ?_)
    refine aw_lstore dX11_extreme_56 (by decide) ?_
    refine aw_iload dX11_extreme_58 rfl ?_
    refine aw_if_ne 68 dX11_extreme_60 (by decide) ?_ ?_
    · refine aw_lconst (0 : Int64) dX11_extreme_68 rfl ?_
      refine aw_lload dX11_extreme_69 rfl ?_
      refine aw_lsub dX11_extreme_71 ?_
      refine aw_msk [true, true, true, true, true, true, true, false, true, true, false, false, false, false] ?_
      exact abX11_extreme_72  h16 h25 t v1 v2 v3 v4 v5 v6 v8 v9 (((0 : Int64) - x53))
    · refine aw_lload dX11_extreme_63 rfl ?_
      refine aw_goto 72 dX11_extreme_65 (by decide) ?_
      refine aw_msk [true, true, true, true, true, true, true, false, true, true, false, false, false, false] ?_
      exact abX11_extreme_72  h16 h25 t v1 v2 v3 v4 v5 v6 v8 v9 x53
theorem afX11_extreme_25 {C : Cx} {res : Int64 × Hp}  {k16 : Nat → Int32 → Int32 → Int32 → Int32 → Int32 → Int64 → Int32 → Mo Int64} (h16 : ∀ (t : Nat) (v1 : Int32) (v2 : Int32) (v3 : Int32) (v4 : Int32) (v5 : Int32) (v6 : Int64) (v8 : Int32), AW C cX11_extreme mX11_extreme qL res 16 [vr (some t), vi v1, vi v2, vi v3, vi v4, vi v5, vl v6, vu, vi v8, vu, vu, vu, vu, vu] [] (k16 t v1 v2 v3 v4 v5 v6 v8)) : ∀ (n : Nat) (t : Nat) (v1 : Int32) (v2 : Int32) (v3 : Int32) (v4 : Int32) (v5 : Int32) (v6 : Int64) (v8 : Int32) (v9 : Int32), AW C cX11_extreme mX11_extreme qL res 25 [vr (some t), vi v1, vi v2, vi v3, vi v4, vi v5, vl v6, vu, vi v8, vi v9, vu, vu, vu, vu] [] (fX11_extreme_25  k16 n t v1 v2 v3 v4 v5 v6 v8 v9)
  | 0, _, _, _, _, _, _, _, _, _ => aw_fl
  | n + 1, t, v1, v2, v3, v4, v5, v6, v8, v9 => abX11_extreme_25  h16 (fun t v1 v2 v3 v4 v5 v6 v8 v9 => afX11_extreme_25  h16 n t v1 v2 v3 v4 v5 v6 v8 v9) t v1 v2 v3 v4 v5 v6 v8 v9
set_option maxRecDepth 20000 in
theorem abX11_extreme_16 {C : Cx} {res : Int64 × Hp}  {k16 : Nat → Int32 → Int32 → Int32 → Int32 → Int32 → Int64 → Int32 → Mo Int64} (h16 : ∀ (t : Nat) (v1 : Int32) (v2 : Int32) (v3 : Int32) (v4 : Int32) (v5 : Int32) (v6 : Int64) (v8 : Int32), AW C cX11_extreme mX11_extreme qL res 16 [vr (some t), vi v1, vi v2, vi v3, vi v4, vi v5, vl v6, vu, vi v8, vu, vu, vu, vu, vu] [] (k16 t v1 v2 v3 v4 v5 v6 v8)) : ∀ (t : Nat) (v1 : Int32) (v2 : Int32) (v3 : Int32) (v4 : Int32) (v5 : Int32) (v6 : Int64) (v8 : Int32), AW C cX11_extreme mX11_extreme qL res 16 [vr (some t), vi v1, vi v2, vi v3, vi v4, vi v5, vl v6, vu, vi v8, vu, vu, vu, vu, vu] [] (bX11_extreme_16  k16 t v1 v2 v3 v4 v5 v6 v8) := by
  intro t v1 v2 v3 v4 v5 v6 v8
  refine aw_iload dX11_extreme_16 rfl ?_
  refine aw_iconst (2 : Int32) dX11_extreme_18 rfl ?_
  refine aw_icmp_ge 124 dX11_extreme_19 (by decide) ?_ ?_
  · refine aw_iload dX11_extreme_124 rfl ?_
    refine aw_if_ne 134 dX11_extreme_126 (by decide) ?_ ?_
    · refine aw_lconst (0 : Int64) dX11_extreme_134 rfl ?_
      refine aw_lload dX11_extreme_135 rfl ?_
      refine aw_lsub dX11_extreme_137 ?_
      exact aw_lret dX11_extreme_138 rfl
    · refine aw_lload dX11_extreme_129 rfl ?_
      refine aw_goto 138 dX11_extreme_131 (by decide) ?_
      exact aw_lret dX11_extreme_138 rfl
  · refine aw_iconst (0 : Int32) dX11_extreme_22 rfl ?_
    refine aw_istore dX11_extreme_23 (by decide) ?_
    refine aw_msk [true, true, true, true, true, true, true, false, true, true, false, false, false, false] ?_
    exact afX11_extreme_25  h16 FU t v1 v2 v3 v4 v5 v6 v8 ((0 : Int32))
theorem afX11_extreme_16 {C : Cx} {res : Int64 × Hp}   : ∀ (n : Nat) (t : Nat) (v1 : Int32) (v2 : Int32) (v3 : Int32) (v4 : Int32) (v5 : Int32) (v6 : Int64) (v8 : Int32), AW C cX11_extreme mX11_extreme qL res 16 [vr (some t), vi v1, vi v2, vi v3, vi v4, vi v5, vl v6, vu, vi v8, vu, vu, vu, vu, vu] [] (fX11_extreme_16   n t v1 v2 v3 v4 v5 v6 v8)
  | 0, _, _, _, _, _, _, _, _ => aw_fl
  | n + 1, t, v1, v2, v3, v4, v5, v6, v8 => abX11_extreme_16  (fun t v1 v2 v3 v4 v5 v6 v8 => afX11_extreme_16   n t v1 v2 v3 v4 v5 v6 v8) t v1 v2 v3 v4 v5 v6 v8
set_option maxRecDepth 20000 in
theorem ctX11_extreme (t : Nat) (v1 : Int32) (v2 : Int32) (v3 : Int32) (v4 : Int32) (v5 : Int32) : Ct yX11_extreme cX11_extreme mX11_extreme qL [vr (some t), vi v1, vi v2, vi v3, vi v4, vi v5] (pX11_extreme t v1 v2 v3 v4 v5) := by
  refine ct_go rfl rfl (fun h9 => by cases h9) (Nat.le_of_ble_eq_true rfl) (fun C res => ?_)
  refine aw_lconst (0 : Int64) dX11_extreme_0 rfl ?_
  refine aw_lstore dX11_extreme_1 (by decide) ?_
  refine aw_aload_n dX11_extreme_3 rfl ?_
  refine aw_iconst (-1 : Int32) dX11_extreme_4 rfl ?_
  refine aw_pI dX11_extreme_5 pl_X11_213 (fun _ => ?_)
  refine aw_aload_n dX11_extreme_8 rfl ?_
  refine aw_iconst (-1 : Int32) dX11_extreme_9 rfl ?_
  refine aw_pI dX11_extreme_10 pl_X11_216 (fun _ => ?_)
  refine aw_iconst (0 : Int32) dX11_extreme_13 rfl ?_
  refine aw_istore dX11_extreme_14 (by decide) ?_
  refine aw_msk [true, true, true, true, true, true, true, false, true, false, false, false, false, false] ?_
  exact afX11_extreme_16   FU t v1 v2 v3 v4 v5 ((0 : Int64)) ((0 : Int32))
set_option maxRecDepth 20000 in
theorem abX11_totalOf_122 {C : Cx} {res : Int64 × Hp}   : ∀ (t : Nat) (v1 : Int32) (v4 : Int32) (v7 : Int64), AW C cX11_totalOf mX11_totalOf qL res 122 [vr (some t), vi v1, vu, vu, vi v4, vu, vu, vl v7, vu, vu] [] (bX11_totalOf_122   t v1 v4 v7) := by
  intro t v1 v4 v7
  refine aw_lload dX11_totalOf_122 rfl ?_
  refine aw_iload dX11_totalOf_124 rfl ?_
  refine aw_iconst (2 : Int32) dX11_totalOf_126 rfl ?_
  refine aw_icmp_ne 135 dX11_totalOf_127 (by decide) ?_ ?_
  · refine aw_bipush (100 : Int32) dX11_totalOf_135 rfl ?_
    refine aw_aload_n dX11_totalOf_137 rfl ?_
    refine aw_gA dX11_totalOf_138 fl_X11_22 (fun x138 => ?_)
    refine aw_iload_n dX11_totalOf_141 rfl ?_
    refine aw_iald dX11_totalOf_142 (fun x142 => ?_)
    refine aw_iadd dX11_totalOf_143 ?_
    refine aw_i2l dX11_totalOf_144 ?_
    refine aw_lmul dX11_totalOf_145 ?_
    exact aw_lret dX11_totalOf_146 rfl
  · refine aw_bipush (100 : Int32) dX11_totalOf_130 rfl ?_
    refine aw_goto 144 dX11_totalOf_132 (by decide) ?_
    refine aw_i2l dX11_totalOf_144 ?_
    refine aw_lmul dX11_totalOf_145 ?_
    exact aw_lret dX11_totalOf_146 rfl
set_option maxRecDepth 20000 in
theorem ctX11_totalOf (t : Nat) (v1 : Int32) (v2 : Int32) (v3 : Int32) (v4 : Int32) (v5 : Int32) : Ct yX11_totalOf cX11_totalOf mX11_totalOf qL [vr (some t), vi v1, vi v2, vi v3, vi v4, vi v5] (pX11_totalOf t v1 v2 v3 v4 v5) := by
  refine ct_go rfl rfl (fun h9 => by cases h9) (Nat.le_of_ble_eq_true rfl) (fun C res => ?_)
  refine aw_iconst (5 : Int32) dX11_totalOf_0 rfl ?_
  refine aw_iload_n dX11_totalOf_1 rfl ?_
  refine aw_imul dX11_totalOf_2 ?_
  refine aw_iload_n dX11_totalOf_3 rfl ?_
  refine aw_iadd dX11_totalOf_4 ?_
  refine aw_istore dX11_totalOf_5 (by decide) ?_
  refine aw_ldc2 dX11_totalOf_7 cj_X11_183 ?_
  refine aw_aload_n dX11_totalOf_10 rfl ?_
  refine aw_iload_n dX11_totalOf_11 rfl ?_
  refine aw_aload_n dX11_totalOf_12 rfl ?_
  refine aw_gA dX11_totalOf_13 fl_X11_69 (fun x13 => ?_)
  refine aw_iload dX11_totalOf_16 rfl ?_
  refine aw_iald dX11_totalOf_18 (fun x18 => ?_)
  refine aw_aload_n dX11_totalOf_19 rfl ?_
  refine aw_gA dX11_totalOf_20 fl_X11_72 (fun x20 => ?_)
  refine aw_iload dX11_totalOf_23 rfl ?_
  refine aw_iald dX11_totalOf_25 (fun x25 => ?_)
  refine aw_iload_n dX11_totalOf_26 rfl ?_
  refine aw_iload dX11_totalOf_27 rfl ?_
  refine aw_cV5 puL dX11_totalOf_29 (fun o => ctX11_extreme o _ _ _ _ _) mcX11_extreme ml_X11_221 rfl rfl msX11_extreme rfl (by decide) (Nat.le_of_ble_eq_true rfl) (fun x29 => ?_)
  refine aw_lmul dX11_totalOf_32 ?_
  refine aw_lstore dX11_totalOf_33 (by decide) ?_
  refine aw_iload dX11_totalOf_35 rfl ?_
  refine aw_if_ne 122 dX11_totalOf_37 (by decide) ?_ ?_
  · refine aw_msk [true, true, false, false, true, false, false, true, false, false] ?_
    exact abX11_totalOf_122   t v1 v4 (((100 : Int64) * x29))
  · refine aw_aload_n dX11_totalOf_40 rfl ?_
    refine aw_gI dX11_totalOf_41 fl_X11_56 (fun x41 => ?_)
    refine aw_if_lt 122 dX11_totalOf_44 (by decide) ?_ ?_
    · refine aw_msk [true, true, false, false, true, false, false, true, false, false] ?_
      exact abX11_totalOf_122   t v1 v4 (((100 : Int64) * x29))
    · refine aw_aload_n dX11_totalOf_47 rfl ?_
      refine aw_gA dX11_totalOf_48 fl_X11_25 (fun x48 => ?_)
      refine aw_iload_n dX11_totalOf_51 rfl ?_
      refine aw_iald dX11_totalOf_52 (fun x52 => ?_)
      refine aw_iconst (1 : Int32) dX11_totalOf_53 rfl ?_
      refine aw_icmp_le 122 dX11_totalOf_54 (by decide) ?_ ?_
      · refine aw_msk [true, true, false, false, true, false, false, true, false, false] ?_
        exact abX11_totalOf_122   t v1 v4 (((100 : Int64) * x29))
      · refine aw_aload_n dX11_totalOf_57 rfl ?_
        refine aw_gI dX11_totalOf_58 fl_X11_63 (fun x58 => ?_)
        refine aw_istore dX11_totalOf_61 (by decide) ?_
        refine aw_aload_n dX11_totalOf_63 rfl ?_
        refine aw_iconst (-1 : Int32) dX11_totalOf_64 rfl ?_
        refine aw_pI dX11_totalOf_65 pl_X11_63 (fun _ => ?_)
        refine aw_lload dX11_totalOf_68 rfl ?_
        refine aw_aload_n dX11_totalOf_70 rfl ?_
        refine aw_gA dX11_totalOf_71 fl_X11_25 (fun x71 => ?_)
        refine aw_iload_n dX11_totalOf_74 rfl ?_
        refine aw_iald dX11_totalOf_75 (fun x75 => ?_)
        refine aw_iconst (1 : Int32) dX11_totalOf_76 rfl ?_
        refine aw_isub dX11_totalOf_77 ?_
        refine aw_i2l dX11_totalOf_78 ?_
        refine aw_aload_n dX11_totalOf_79 rfl ?_
        refine aw_gA dX11_totalOf_80 fl_X11_28 (fun x80 => ?_)
        refine aw_iload_n dX11_totalOf_83 rfl ?_
        refine aw_iald dX11_totalOf_84 (fun x84 => ?_)
        refine aw_i2l dX11_totalOf_85 ?_
        refine aw_lmul dX11_totalOf_86 ?_
        refine aw_aload_n dX11_totalOf_87 rfl ?_
        refine aw_iload_n dX11_totalOf_88 rfl ?_
        refine aw_aload_n dX11_totalOf_89 rfl ?_
        refine aw_gA dX11_totalOf_90 fl_X11_69 (fun x90 => ?_)
        refine aw_iload dX11_totalOf_93 rfl ?_
        refine aw_iald dX11_totalOf_95 (fun x95 => ?_)
        refine aw_aload_n dX11_totalOf_96 rfl ?_
        refine aw_gA dX11_totalOf_97 fl_X11_72 (fun x97 => ?_)
        refine aw_iload dX11_totalOf_100 rfl ?_
        refine aw_iald dX11_totalOf_102 (fun x102 => ?_)
        refine aw_aload_n dX11_totalOf_103 rfl ?_
        refine aw_gI dX11_totalOf_104 fl_X11_56 (fun x104 => ?_)
        refine aw_iload dX11_totalOf_107 rfl ?_
        refine aw_cV5 puL dX11_totalOf_109 (fun o => ctX11_extreme o _ _ _ _ _) mcX11_extreme ml_X11_221 rfl rfl msX11_extreme rfl (by decide) (Nat.le_of_ble_eq_true rfl) (fun x109 => ?_)
        refine aw_lmul dX11_totalOf_112 ?_
        refine aw_ladd dX11_totalOf_113 ?_
        refine aw_lstore dX11_totalOf_114 (by decide) ?_
        refine aw_aload_n dX11_totalOf_116 rfl ?_
        refine aw_iload dX11_totalOf_117 rfl ?_
        refine aw_pI dX11_totalOf_119 pl_X11_63 (fun _ => ?_)
        refine aw_msk [true, true, false, false, true, false, false, true, false, false] ?_
        exact abX11_totalOf_122   t v1 v4 ((((100 : Int64) * x29) + (((Int32.toInt64 (x75 - (1 : Int32))) * (Int32.toInt64 x84)) * x109)))
set_option maxRecDepth 20000 in
theorem ctX11_isMet (t : Nat) (v1 : Int32) (v2 : Int32) (v3 : Int32) (v4 : Int32) : Ct yX11_isMet cX11_isMet mX11_isMet qI [vr (some t), vi v1, vi v2, vi v3, vi v4] (pX11_isMet t v1 v2 v3 v4) := by
  refine ct_go rfl rfl (fun h9 => by cases h9) (Nat.le_of_ble_eq_true rfl) (fun C res => ?_)
  refine aw_ldc2 dX11_isMet_0 cj_X11_242 ?_
  refine aw_aload_n dX11_isMet_3 rfl ?_
  refine aw_gA dX11_isMet_4 fl_X11_35 (fun x4 => ?_)
  refine aw_iload_n dX11_isMet_7 rfl ?_
  refine aw_lald dX11_isMet_8 (fun x8 => ?_)
  refine aw_lmul dX11_isMet_9 ?_
  refine aw_lstore dX11_isMet_10 (by decide) ?_
  refine aw_aload_n dX11_isMet_12 rfl ?_
  refine aw_iload_n dX11_isMet_13 rfl ?_
  refine aw_iload_n dX11_isMet_14 rfl ?_
  refine aw_iload_n dX11_isMet_15 rfl ?_
  refine aw_iload dX11_isMet_16 rfl ?_
  refine aw_iconst (0 : Int32) dX11_isMet_18 rfl ?_
  refine aw_cV5 puL dX11_isMet_19 (fun o => ctX11_totalOf o _ _ _ _ _) mcX11_totalOf ml_X11_239 rfl rfl msX11_totalOf rfl (by decide) (Nat.le_of_ble_eq_true rfl) (fun x19 => ?_)
  refine aw_aload_n dX11_isMet_22 rfl ?_
  refine aw_gA dX11_isMet_23 fl_X11_75 (fun x23 => ?_)
  refine aw_iconst (5 : Int32) dX11_isMet_26 rfl ?_
  refine aw_iload_n dX11_isMet_27 rfl ?_
  refine aw_imul dX11_isMet_28 ?_
  refine aw_iload_n dX11_isMet_29 rfl ?_
  refine aw_iadd dX11_isMet_30 ?_
  refine aw_iald dX11_isMet_31 (fun x31 => ?_)
  refine aw_i2l dX11_isMet_32 ?_
  refine aw_lload dX11_isMet_33 rfl ?_
  refine aw_lmul dX11_isMet_35 ?_
  refine aw_lgt 72 dX11_isMet_36 dX11_isMet_37 (by decide) ?_ ?_
  · refine aw_iconst (0 : Int32) dX11_isMet_72 rfl ?_
    exact aw_zret dX11_isMet_73 rfl
  · refine aw_aload_n dX11_isMet_40 rfl ?_
    refine aw_iload_n dX11_isMet_41 rfl ?_
    refine aw_iload_n dX11_isMet_42 rfl ?_
    refine aw_iload_n dX11_isMet_43 rfl ?_
    refine aw_iload dX11_isMet_44 rfl ?_
    refine aw_iconst (1 : Int32) dX11_isMet_46 rfl ?_
    refine aw_cV5 puL dX11_isMet_47 (fun o => ctX11_totalOf o _ _ _ _ _) mcX11_totalOf ml_X11_239 rfl rfl msX11_totalOf rfl (by decide) (Nat.le_of_ble_eq_true rfl) (fun x47 => ?_)
    refine aw_aload_n dX11_isMet_50 rfl ?_
    refine aw_gA dX11_isMet_51 fl_X11_78 (fun x51 => ?_)
    refine aw_iconst (5 : Int32) dX11_isMet_54 rfl ?_
    refine aw_iload_n dX11_isMet_55 rfl ?_
    refine aw_imul dX11_isMet_56 ?_
    refine aw_iload_n dX11_isMet_57 rfl ?_
    refine aw_iadd dX11_isMet_58 ?_
    refine aw_iald dX11_isMet_59 (fun x59 => ?_)
    refine aw_i2l dX11_isMet_60 ?_
    refine aw_lload dX11_isMet_61 rfl ?_
    refine aw_lmul dX11_isMet_63 ?_
    refine aw_llt 72 dX11_isMet_64 dX11_isMet_65 (by decide) ?_ ?_
    · refine aw_iconst (0 : Int32) dX11_isMet_72 rfl ?_
      exact aw_zret dX11_isMet_73 rfl
    · refine aw_iconst (1 : Int32) dX11_isMet_68 rfl ?_
      refine aw_goto 73 dX11_isMet_69 (by decide) ?_
      exact aw_zret dX11_isMet_73 rfl
set_option maxRecDepth 20000 in
theorem abX11_failing_3 {C : Cx} {res : Int32 × Hp}  {k3 : Nat → Int32 → Int32 → Int32 → Int32 → Mo Int32} (h3 : ∀ (t : Nat) (v1 : Int32) (v2 : Int32) (v3 : Int32) (v4 : Int32), AW C cX11_failing mX11_failing qI res 3 [vr (some t), vi v1, vi v2, vi v3, vi v4] [] (k3 t v1 v2 v3 v4)) : ∀ (t : Nat) (v1 : Int32) (v2 : Int32) (v3 : Int32) (v4 : Int32), AW C cX11_failing mX11_failing qI res 3 [vr (some t), vi v1, vi v2, vi v3, vi v4] [] (bX11_failing_3  k3 t v1 v2 v3 v4) := by
  intro t v1 v2 v3 v4
  refine aw_iload dX11_failing_3 rfl ?_
  refine aw_aload_n dX11_failing_5 rfl ?_
  refine aw_gA dX11_failing_6 fl_X11_66 (fun x6 => ?_)
  refine aw_iload_n dX11_failing_9 rfl ?_
  refine aw_iald dX11_failing_10 (fun x10 => ?_)
  refine aw_icmp_ge 35 dX11_failing_11 (by decide) ?_ ?_
  · refine aw_iconst (-1 : Int32) dX11_failing_35 rfl ?_
    exact aw_iret dX11_failing_36 rfl
  · refine aw_aload_n dX11_failing_14 rfl ?_
    refine aw_iload_n dX11_failing_15 rfl ?_
    refine aw_iload dX11_failing_16 rfl ?_
    refine aw_iload_n dX11_failing_18 rfl ?_
    refine aw_iload_n dX11_failing_19 rfl ?_
    refine aw_cV4 puI dX11_failing_20 (fun o => ctX11_isMet o _ _ _ _) mcX11_isMet ml_X11_244 rfl rfl msX11_isMet rfl (by decide) (Nat.le_of_ble_eq_true rfl) (fun x20 => ?_)
    refine aw_if_ne 29 dX11_failing_23 (by decide) ?_ ?_
    · refine aw_iinc (v4 + (1 : Int32)) dX11_failing_29 rfl rfl (by decide) ?_
      refine aw_goto 3 dX11_failing_32 (by decide) ?_
      refine aw_msk [true, true, true, true, true] ?_
      exact h3 t v1 v2 v3 ((v4 + (1 : Int32)))
    · refine aw_iload dX11_failing_26 rfl ?_
      exact aw_iret dX11_failing_28 rfl
theorem afX11_failing_3 {C : Cx} {res : Int32 × Hp}   : ∀ (n : Nat) (t : Nat) (v1 : Int32) (v2 : Int32) (v3 : Int32) (v4 : Int32), AW C cX11_failing mX11_failing qI res 3 [vr (some t), vi v1, vi v2, vi v3, vi v4] [] (fX11_failing_3   n t v1 v2 v3 v4)
  | 0, _, _, _, _, _ => aw_fl
  | n + 1, t, v1, v2, v3, v4 => abX11_failing_3  (fun t v1 v2 v3 v4 => afX11_failing_3   n t v1 v2 v3 v4) t v1 v2 v3 v4
set_option maxRecDepth 20000 in
theorem ctX11_failing (t : Nat) (v1 : Int32) (v2 : Int32) (v3 : Int32) : Ct yX11_failing cX11_failing mX11_failing qI [vr (some t), vi v1, vi v2, vi v3] (pX11_failing t v1 v2 v3) := by
  refine ct_go rfl rfl (fun h9 => by cases h9) (Nat.le_of_ble_eq_true rfl) (fun C res => ?_)
  refine aw_iconst (0 : Int32) dX11_failing_0 rfl ?_
  refine aw_istore dX11_failing_1 (by decide) ?_
  refine aw_msk [true, true, true, true, true] ?_
  exact afX11_failing_3   FU t v1 v2 v3 ((0 : Int32))
set_option maxRecDepth 20000 in
theorem ctX11_isMode (v0 : Int32) : Ct yX11_isMode cX11_isMode mX11_isMode qI [vi v0] (pX11_isMode v0) := by
  refine ct_go rfl rfl (fun h9 => by cases h9) (Nat.le_of_ble_eq_true rfl) (fun C res => ?_)
  refine aw_iload_n dX11_isMode_0 rfl ?_
  refine aw_i2l dX11_isMode_1 ?_
  refine aw_lconst (0 : Int64) dX11_isMode_2 rfl ?_
  refine aw_ldc2 dX11_isMode_3 cj_X11_129 ?_
  refine aw_cS3 puI dX11_isMode_6 (ctX11_in _ _ _) mcX11_in ml_X11_133 msX11_in rfl (by decide) (Nat.le_of_ble_eq_true rfl) (fun x6 => ?_)
  exact aw_zret dX11_isMode_9 rfl
set_option maxRecDepth 20000 in
theorem ctX11_fails (t : Nat) (v1 : Int32) (v2 : Int32) (v3 : Int32) : Ct yX11_fails cX11_fails mX11_fails qI [vr (some t), vi v1, vi v2, vi v3] (pX11_fails t v1 v2 v3) := by
  refine ct_go rfl rfl (fun h9 => by cases h9) (Nat.le_of_ble_eq_true rfl) (fun C res => ?_)
  refine aw_aload_n dX11_fails_0 rfl ?_
  refine aw_iload_n dX11_fails_1 rfl ?_
  refine aw_cV1 puI dX11_fails_2 (fun o => ctX11_noBridge o _) mcX11_noBridge ml_X11_158 rfl rfl msX11_noBridge rfl (by decide) (Nat.le_of_ble_eq_true rfl) (fun x2 => ?_)
  refine aw_if_ne 16 dX11_fails_5 (by decide) ?_ ?_
  · refine aw_sipush (-1001 : Int32) dX11_fails_16 rfl ?_
    exact aw_iret dX11_fails_19 rfl
  · refine aw_aload_n dX11_fails_8 rfl ?_
    refine aw_iload_n dX11_fails_9 rfl ?_
    refine aw_cV1 puI dX11_fails_10 (fun o => ctX11_noTrain o _) mcX11_noTrain ml_X11_190 rfl rfl msX11_noTrain rfl (by decide) (Nat.le_of_ble_eq_true rfl) (fun x10 => ?_)
    refine aw_if_eq 20 dX11_fails_13 (by decide) ?_ ?_
    · refine aw_iload_n dX11_fails_20 rfl ?_
      refine aw_cS1 puI dX11_fails_21 (ctX11_isMode _) mcX11_isMode ml_X11_236 msX11_isMode rfl (by decide) (Nat.le_of_ble_eq_true rfl) (fun x21 => ?_)
      refine aw_if_eq 37 dX11_fails_24 (by decide) ?_ ?_
      · refine aw_sipush (-1002 : Int32) dX11_fails_37 rfl ?_
        exact aw_iret dX11_fails_40 rfl
      · refine aw_aload_n dX11_fails_27 rfl ?_
        refine aw_iload_n dX11_fails_28 rfl ?_
        refine aw_iload_n dX11_fails_29 rfl ?_
        refine aw_iload_n dX11_fails_30 rfl ?_
        refine aw_cV3 puI dX11_fails_31 (fun o => ctX11_failing o _ _ _) mcX11_failing ml_X11_248 rfl rfl msX11_failing rfl (by decide) (Nat.le_of_ble_eq_true rfl) (fun x31 => ?_)
        refine aw_goto 40 dX11_fails_34 (by decide) ?_
        exact aw_iret dX11_fails_40 rfl
    · refine aw_sipush (-1001 : Int32) dX11_fails_16 rfl ?_
      exact aw_iret dX11_fails_19 rfl
set_option maxRecDepth 20000 in
theorem ctX11_influence (t : Nat) (v1 : Int32) (v2 : Int32) (v3 : Int32) (v4 : Int32) (v5 : Int32) : Ct yX11_influence cX11_influence mX11_influence qL [vr (some t), vi v1, vi v2, vi v3, vi v4, vi v5] (pX11_influence t v1 v2 v3 v4 v5) := by
  refine ct_go rfl rfl (fun h9 => by cases h9) (Nat.le_of_ble_eq_true rfl) (fun C res => ?_)
  refine aw_aload_n dX11_influence_0 rfl ?_
  refine aw_iload_n dX11_influence_1 rfl ?_
  refine aw_cV1 puI dX11_influence_2 (fun o => ctX11_noBridge o _) mcX11_noBridge ml_X11_158 rfl rfl msX11_noBridge rfl (by decide) (Nat.le_of_ble_eq_true rfl) (fun x2 => ?_)
  refine aw_if_ne 18 dX11_influence_5 (by decide) ?_ ?_
  · refine aw_ldc2 dX11_influence_18 cj_X11_166 ?_
    exact aw_lret dX11_influence_21 rfl
  · refine aw_aload_n dX11_influence_8 rfl ?_
    refine aw_iload_n dX11_influence_9 rfl ?_
    refine aw_iload_n dX11_influence_10 rfl ?_
    refine aw_iload_n dX11_influence_11 rfl ?_
    refine aw_cV3 puI dX11_influence_12 (fun o => ctX11_noSupport o _ _ _) mcX11_noSupport ml_X11_162 rfl rfl msX11_noSupport rfl (by decide) (Nat.le_of_ble_eq_true rfl) (fun x12 => ?_)
    refine aw_if_eq 22 dX11_influence_15 (by decide) ?_ ?_
    · refine aw_aload_n dX11_influence_22 rfl ?_
      refine aw_iload_n dX11_influence_23 rfl ?_
      refine aw_iload_n dX11_influence_24 rfl ?_
      refine aw_iload_n dX11_influence_25 rfl ?_
      refine aw_cV3 puI dX11_influence_26 (fun o => ctX11_isResponse o _ _ _) mcX11_isResponse ml_X11_168 rfl rfl msX11_isResponse rfl (by decide) (Nat.le_of_ble_eq_true rfl) (fun x26 => ?_)
      refine aw_if_eq 60 dX11_influence_29 (by decide) ?_ ?_
      · refine aw_ldc2 dX11_influence_60 cj_X11_171 ?_
        exact aw_lret dX11_influence_63 rfl
      · refine aw_iload dX11_influence_32 rfl ?_
        refine aw_i2l dX11_influence_34 ?_
        refine aw_lconst (0 : Int64) dX11_influence_35 rfl ?_
        refine aw_aload_n dX11_influence_36 rfl ?_
        refine aw_gA dX11_influence_37 fl_X11_7 (fun x37 => ?_)
        refine aw_iload_n dX11_influence_40 rfl ?_
        refine aw_iald dX11_influence_41 (fun x41 => ?_)
        refine aw_i2l dX11_influence_42 ?_
        refine aw_cS3 puI dX11_influence_43 (ctX11_in _ _ _) mcX11_in ml_X11_133 msX11_in rfl (by decide) (Nat.le_of_ble_eq_true rfl) (fun x43 => ?_)
        refine aw_if_eq 60 dX11_influence_46 (by decide) ?_ ?_
        · refine aw_ldc2 dX11_influence_60 cj_X11_171 ?_
          exact aw_lret dX11_influence_63 rfl
        · refine aw_iload dX11_influence_49 rfl ?_
          refine aw_i2l dX11_influence_51 ?_
          refine aw_lconst (0 : Int64) dX11_influence_52 rfl ?_
          refine aw_lconst (1 : Int64) dX11_influence_53 rfl ?_
          refine aw_cS3 puI dX11_influence_54 (ctX11_in _ _ _) mcX11_in ml_X11_133 msX11_in rfl (by decide) (Nat.le_of_ble_eq_true rfl) (fun x54 => ?_)
          refine aw_if_ne 64 dX11_influence_57 (by decide) ?_ ?_
          · refine aw_aload_n dX11_influence_64 rfl ?_
            refine aw_iload_n dX11_influence_65 rfl ?_
            refine aw_iload_n dX11_influence_66 rfl ?_
            refine aw_iload_n dX11_influence_67 rfl ?_
            refine aw_iload dX11_influence_68 rfl ?_
            refine aw_cV4 puL dX11_influence_70 (fun o => ctX11_influenceAt o _ _ _ _) mcX11_influenceAt ml_X11_173 rfl rfl msX11_influenceAt rfl (by decide) (Nat.le_of_ble_eq_true rfl) (fun x70 => ?_)
            refine aw_aload_n dX11_influence_73 rfl ?_
            refine aw_gA dX11_influence_74 fl_X11_35 (fun x74 => ?_)
            refine aw_iload_n dX11_influence_77 rfl ?_
            refine aw_lald dX11_influence_78 (fun x78 => ?_)
            refine aw_iload dX11_influence_79 rfl ?_
            refine aw_cS3 puL dX11_influence_81 (ctX11_part _ _ _) mcX11_part ml_X11_177 msX11_part rfl (by decide) (Nat.le_of_ble_eq_true rfl) (fun x81 => ?_)
            exact aw_lret dX11_influence_84 rfl
          · refine aw_ldc2 dX11_influence_60 cj_X11_171 ?_
            exact aw_lret dX11_influence_63 rfl
    · refine aw_ldc2 dX11_influence_18 cj_X11_166 ?_
      exact aw_lret dX11_influence_21 rfl
set_option maxRecDepth 20000 in
theorem ctX11_noCheck (t : Nat) (v1 : Int32) (v2 : Int32) : Ct yX11_noCheck cX11_noCheck mX11_noCheck qI [vr (some t), vi v1, vi v2] (pX11_noCheck t v1 v2) := by
  refine ct_go rfl rfl (fun h9 => by cases h9) (Nat.le_of_ble_eq_true rfl) (fun C res => ?_)
  refine aw_aload_n dX11_noCheck_0 rfl ?_
  refine aw_iload_n dX11_noCheck_1 rfl ?_
  refine aw_cV1 puI dX11_noCheck_2 (fun o => ctX11_noBridge o _) mcX11_noBridge ml_X11_158 rfl rfl msX11_noBridge rfl (by decide) (Nat.le_of_ble_eq_true rfl) (fun x2 => ?_)
  refine aw_if_ne 26 dX11_noCheck_5 (by decide) ?_ ?_
  · refine aw_iconst (1 : Int32) dX11_noCheck_26 rfl ?_
    refine aw_goto 31 dX11_noCheck_27 (by decide) ?_
    exact aw_zret dX11_noCheck_31 rfl
  · refine aw_iload_n dX11_noCheck_8 rfl ?_
    refine aw_i2l dX11_noCheck_9 ?_
    refine aw_lconst (0 : Int64) dX11_noCheck_10 rfl ?_
    refine aw_aload_n dX11_noCheck_11 rfl ?_
    refine aw_gA dX11_noCheck_12 fl_X11_66 (fun x12 => ?_)
    refine aw_iload_n dX11_noCheck_15 rfl ?_
    refine aw_iald dX11_noCheck_16 (fun x16 => ?_)
    refine aw_iconst (1 : Int32) dX11_noCheck_17 rfl ?_
    refine aw_isub dX11_noCheck_18 ?_
    refine aw_i2l dX11_noCheck_19 ?_
    refine aw_cS3 puI dX11_noCheck_20 (ctX11_in _ _ _) mcX11_in ml_X11_133 msX11_in rfl (by decide) (Nat.le_of_ble_eq_true rfl) (fun x20 => ?_)
    refine aw_if_ne 30 dX11_noCheck_23 (by decide) ?_ ?_
    · refine aw_iconst (0 : Int32) dX11_noCheck_30 rfl ?_
      exact aw_zret dX11_noCheck_31 rfl
    · refine aw_iconst (1 : Int32) dX11_noCheck_26 rfl ?_
      refine aw_goto 31 dX11_noCheck_27 (by decide) ?_
      exact aw_zret dX11_noCheck_31 rfl
set_option maxRecDepth 20000 in
theorem ctX11_limit (t : Nat) (v1 : Int32) (v2 : Int32) (v3 : Int32) (v4 : Int32) : Ct yX11_limit cX11_limit mX11_limit qI [vr (some t), vi v1, vi v2, vi v3, vi v4] (pX11_limit t v1 v2 v3 v4) := by
  refine ct_go rfl rfl (fun h9 => by cases h9) (Nat.le_of_ble_eq_true rfl) (fun C res => ?_)
  refine aw_aload_n dX11_limit_0 rfl ?_
  refine aw_iload_n dX11_limit_1 rfl ?_
  refine aw_iload_n dX11_limit_2 rfl ?_
  refine aw_cV2 puI dX11_limit_3 (fun o => ctX11_noCheck o _ _) mcX11_noCheck ml_X11_233 rfl rfl msX11_noCheck rfl (by decide) (Nat.le_of_ble_eq_true rfl) (fun x3 => ?_)
  refine aw_if_eq 13 dX11_limit_6 (by decide) ?_ ?_
  · refine aw_iload_n dX11_limit_13 rfl ?_
    refine aw_iload dX11_limit_14 rfl ?_
    refine aw_cS2 puI dX11_limit_16 (ctX11_isLimit _ _) mcX11_isLimit ml_X11_229 msX11_isLimit rfl (by decide) (Nat.le_of_ble_eq_true rfl) (fun x16 => ?_)
    refine aw_if_ne 26 dX11_limit_19 (by decide) ?_ ?_
    · refine aw_aload_n dX11_limit_26 rfl ?_
      refine aw_gA dX11_limit_27 fl_X11_75 (fun x27 => ?_)
      refine aw_iconst (5 : Int32) dX11_limit_30 rfl ?_
      refine aw_iload_n dX11_limit_31 rfl ?_
      refine aw_imul dX11_limit_32 ?_
      refine aw_iload_n dX11_limit_33 rfl ?_
      refine aw_iadd dX11_limit_34 ?_
      refine aw_iload_n dX11_limit_35 rfl ?_
      refine aw_iast dX11_limit_36 (fun _ => ?_)
      refine aw_aload_n dX11_limit_37 rfl ?_
      refine aw_gA dX11_limit_38 fl_X11_78 (fun x38 => ?_)
      refine aw_iconst (5 : Int32) dX11_limit_41 rfl ?_
      refine aw_iload_n dX11_limit_42 rfl ?_
      refine aw_imul dX11_limit_43 ?_
      refine aw_iload_n dX11_limit_44 rfl ?_
      refine aw_iadd dX11_limit_45 ?_
      refine aw_iload dX11_limit_46 rfl ?_
      refine aw_iast dX11_limit_48 (fun _ => ?_)
      refine aw_iconst (1 : Int32) dX11_limit_49 rfl ?_
      exact aw_iret dX11_limit_50 rfl
    · refine aw_sipush (-1002 : Int32) dX11_limit_22 rfl ?_
      exact aw_iret dX11_limit_25 rfl
  · refine aw_sipush (-1001 : Int32) dX11_limit_9 rfl ?_
    exact aw_iret dX11_limit_12 rfl
set_option maxRecDepth 20000 in
theorem abX11_holds_32 {C : Cx} {res : Int32 × Hp}   : ∀ (t : Nat) (s0 : Int32), AW C cX11_holds mX11_holds qI res 32 [vr (some t), vu, vu, vu, vu, vu, vu] [vi s0] (bX11_holds_32   t s0) := by
  intro t s0
  refine aw_istore dX11_holds_32 (by decide) ?_
  refine aw_aload_n dX11_holds_34 rfl ?_
  refine aw_iconst (-1 : Int32) dX11_holds_35 rfl ?_
  refine aw_pI dX11_holds_36 pl_X11_63 (fun _ => ?_)
  refine aw_aload_n dX11_holds_39 rfl ?_
  refine aw_bipush (100 : Int32) dX11_holds_40 rfl ?_
  refine aw_pI dX11_holds_42 pl_X11_60 (fun _ => ?_)
  refine aw_aload_n dX11_holds_45 rfl ?_
  refine aw_iconst (0 : Int32) dX11_holds_46 rfl ?_
  refine aw_pI dX11_holds_47 pl_X11_195 (fun _ => ?_)
  refine aw_iload dX11_holds_50 rfl ?_
  exact aw_zret dX11_holds_52 rfl
set_option maxRecDepth 20000 in
theorem ctX11_holds (t : Nat) (v1 : Int32) (v2 : Int32) (v3 : Int32) (v4 : Int32) (v5 : Int32) : Ct yX11_holds cX11_holds mX11_holds qI [vr (some t), vi v1, vi v2, vi v3, vi v4, vi v5] (pX11_holds t v1 v2 v3 v4 v5) := by
  refine ct_go rfl rfl (fun h9 => by cases h9) (Nat.le_of_ble_eq_true rfl) (fun C res => ?_)
  refine aw_aload_n dX11_holds_0 rfl ?_
  refine aw_iload_n dX11_holds_1 rfl ?_
  refine aw_pI dX11_holds_2 pl_X11_63 (fun _ => ?_)
  refine aw_aload_n dX11_holds_5 rfl ?_
  refine aw_iload dX11_holds_6 rfl ?_
  refine aw_pI dX11_holds_8 pl_X11_60 (fun _ => ?_)
  refine aw_aload_n dX11_holds_11 rfl ?_
  refine aw_iload dX11_holds_12 rfl ?_
  refine aw_pI dX11_holds_14 pl_X11_195 (fun _ => ?_)
  refine aw_aload_n dX11_holds_17 rfl ?_
  refine aw_iload_n dX11_holds_18 rfl ?_
  refine aw_iload_n dX11_holds_19 rfl ?_
  refine aw_iload_n dX11_holds_20 rfl ?_
  refine aw_cV3 puI dX11_holds_21 (fun o => ctX11_failing o _ _ _) mcX11_failing ml_X11_248 rfl rfl msX11_failing rfl (by decide) (Nat.le_of_ble_eq_true rfl) (fun x21 => ?_)
  refine aw_if_ge 31 dX11_holds_24 (by decide) ?_ ?_
  · refine aw_iconst (0 : Int32) dX11_holds_31 rfl ?_
    refine aw_msk [true, false, false, false, false, false, false] ?_
    exact abX11_holds_32   t ((0 : Int32))
  · refine aw_iconst (1 : Int32) dX11_holds_27 rfl ?_
    refine aw_goto 32 dX11_holds_28 (by decide) ?_
    refine aw_msk [true, false, false, false, false, false, false] ?_
    exact abX11_holds_32   t ((1 : Int32))
set_option maxRecDepth 20000 in
theorem abX11_posted_24 {C : Cx} {res : Int32 × Hp}  {k24 : Nat → Int32 → Int32 → Int32 → Mo Int32} (h24 : ∀ (t : Nat) (v1 : Int32) (v2 : Int32) (v3 : Int32), AW C cX11_posted mX11_posted qI res 24 [vr (some t), vi v1, vi v2, vi v3] [] (k24 t v1 v2 v3)) : ∀ (t : Nat) (v1 : Int32) (v2 : Int32) (v3 : Int32), AW C cX11_posted mX11_posted qI res 24 [vr (some t), vi v1, vi v2, vi v3] [] (bX11_posted_24  k24 t v1 v2 v3) := by
  intro t v1 v2 v3
  refine aw_iload_n dX11_posted_24 rfl ?_
  refine aw_if_lt 46 dX11_posted_25 (by decide) ?_ ?_
  · refine aw_iload_n dX11_posted_46 rfl ?_
    exact aw_iret dX11_posted_47 rfl
  · refine aw_aload_n dX11_posted_28 rfl ?_
    refine aw_iload_n dX11_posted_29 rfl ?_
    refine aw_iload_n dX11_posted_30 rfl ?_
    refine aw_iconst (0 : Int32) dX11_posted_31 rfl ?_
    refine aw_iload_n dX11_posted_32 rfl ?_
    refine aw_iconst (0 : Int32) dX11_posted_33 rfl ?_
    refine aw_cV5 puI dX11_posted_34 (fun o => ctX11_holds o _ _ _ _ _) mcX11_holds ml_X11_252 rfl rfl msX11_holds rfl (by decide) (Nat.le_of_ble_eq_true rfl) (fun x34 => ?_)
    refine aw_if_ne 46 dX11_posted_37 (by decide) ?_ ?_
    · refine aw_iload_n dX11_posted_46 rfl ?_
      exact aw_iret dX11_posted_47 rfl
    · refine aw_iinc (v3 + (-1 : Int32)) dX11_posted_40 rfl rfl (by decide) ?_
      refine aw_goto 24 dX11_posted_43 (by decide) ?_
      refine aw_msk [true, true, true, true] ?_
      exact h24 t v1 v2 ((v3 + (-1 : Int32)))
theorem afX11_posted_24 {C : Cx} {res : Int32 × Hp}   : ∀ (n : Nat) (t : Nat) (v1 : Int32) (v2 : Int32) (v3 : Int32), AW C cX11_posted mX11_posted qI res 24 [vr (some t), vi v1, vi v2, vi v3] [] (fX11_posted_24   n t v1 v2 v3)
  | 0, _, _, _, _ => aw_fl
  | n + 1, t, v1, v2, v3 => abX11_posted_24  (fun t v1 v2 v3 => afX11_posted_24   n t v1 v2 v3) t v1 v2 v3
set_option maxRecDepth 20000 in
theorem ctX11_posted (t : Nat) (v1 : Int32) (v2 : Int32) : Ct yX11_posted cX11_posted mX11_posted qI [vr (some t), vi v1, vi v2] (pX11_posted t v1 v2) := by
  refine ct_go rfl rfl (fun h9 => by cases h9) (Nat.le_of_ble_eq_true rfl) (fun C res => ?_)
  refine aw_aload_n dX11_posted_0 rfl ?_
  refine aw_iload_n dX11_posted_1 rfl ?_
  refine aw_cV1 puI dX11_posted_2 (fun o => ctX11_noBridge o _) mcX11_noBridge ml_X11_158 rfl rfl msX11_noBridge rfl (by decide) (Nat.le_of_ble_eq_true rfl) (fun x2 => ?_)
  refine aw_if_ne 16 dX11_posted_5 (by decide) ?_ ?_
  · refine aw_sipush (-1001 : Int32) dX11_posted_16 rfl ?_
    exact aw_iret dX11_posted_19 rfl
  · refine aw_aload_n dX11_posted_8 rfl ?_
    refine aw_iload_n dX11_posted_9 rfl ?_
    refine aw_cV1 puI dX11_posted_10 (fun o => ctX11_noTrain o _) mcX11_noTrain ml_X11_190 rfl rfl msX11_noTrain rfl (by decide) (Nat.le_of_ble_eq_true rfl) (fun x10 => ?_)
    refine aw_if_eq 20 dX11_posted_13 (by decide) ?_ ?_
    · refine aw_sipush (300 : Int32) dX11_posted_20 rfl ?_
      refine aw_istore_n dX11_posted_23 (by decide) ?_
      refine aw_msk [true, true, true, true] ?_
      exact afX11_posted_24   FU t v1 v2 ((300 : Int32))
    · refine aw_sipush (-1001 : Int32) dX11_posted_16 rfl ?_
      exact aw_iret dX11_posted_19 rfl
set_option maxRecDepth 20000 in
theorem ctX11_isTown (v0 : Int32) : Ct yX11_isTown cX11_isTown mX11_isTown qI [vi v0] (pX11_isTown v0) := by
  refine ct_go rfl rfl (fun h9 => by cases h9) (Nat.le_of_ble_eq_true rfl) (fun C res => ?_)
  refine aw_iload_n dX11_isTown_0 rfl ?_
  refine aw_i2l dX11_isTown_1 ?_
  refine aw_lconst (0 : Int64) dX11_isTown_2 rfl ?_
  refine aw_ldc2 dX11_isTown_3 cj_X11_256 ?_
  refine aw_cS3 puI dX11_isTown_6 (ctX11_in _ _ _) mcX11_in ml_X11_133 msX11_in rfl (by decide) (Nat.le_of_ble_eq_true rfl) (fun x6 => ?_)
  exact aw_zret dX11_isTown_9 rfl
set_option maxRecDepth 20000 in
theorem abX11_road_33 {C : Cx} {res : Int32 × Hp}   : ∀ (t : Nat) (v1 : Int32) (v2 : Int32) (v3 : Int32) (v4 : Int32), AW C cX11_road mX11_road qI res 33 [vr (some t), vi v1, vi v2, vi v3, vi v4] [] (bX11_road_33   t v1 v2 v3 v4) := by
  intro t v1 v2 v3 v4
  refine aw_iload_n dX11_road_33 rfl ?_
  refine aw_i2l dX11_road_34 ?_
  refine aw_lconst (1 : Int64) dX11_road_35 rfl ?_
  refine aw_ldc2 dX11_road_36 cj_X11_261 ?_
  refine aw_cS3 puI dX11_road_39 (ctX11_in _ _ _) mcX11_in ml_X11_133 msX11_in rfl (by decide) (Nat.le_of_ble_eq_true rfl) (fun x39 => ?_)
  refine aw_if_eq 50 dX11_road_42 (by decide) ?_ ?_
  · refine aw_sipush (-1002 : Int32) dX11_road_50 rfl ?_
    exact aw_iret dX11_road_53 rfl
  · refine aw_iload_n dX11_road_45 rfl ?_
    refine aw_iload_n dX11_road_46 rfl ?_
    refine aw_icmp_ne 54 dX11_road_47 (by decide) ?_ ?_
    · refine aw_aload_n dX11_road_54 rfl ?_
      refine aw_gI dX11_road_55 fl_X11_263 (fun x55 => ?_)
      refine aw_bipush (24 : Int32) dX11_road_58 rfl ?_
      refine aw_icmp_ne 67 dX11_road_60 (by decide) ?_ ?_
      · refine aw_aload_n dX11_road_67 rfl ?_
        refine aw_gA dX11_road_68 fl_X11_81 (fun x68 => ?_)
        refine aw_aload_n dX11_road_71 rfl ?_
        refine aw_gI dX11_road_72 fl_X11_263 (fun x72 => ?_)
        refine aw_iload_n dX11_road_75 rfl ?_
        refine aw_iast dX11_road_76 (fun _ => ?_)
        refine aw_aload_n dX11_road_77 rfl ?_
        refine aw_gA dX11_road_78 fl_X11_84 (fun x78 => ?_)
        refine aw_aload_n dX11_road_81 rfl ?_
        refine aw_gI dX11_road_82 fl_X11_263 (fun x82 => ?_)
        refine aw_iload_n dX11_road_85 rfl ?_
        refine aw_iast dX11_road_86 (fun _ => ?_)
        refine aw_aload_n dX11_road_87 rfl ?_
        refine aw_gA dX11_road_88 fl_X11_87 (fun x88 => ?_)
        refine aw_aload_n dX11_road_91 rfl ?_
        refine aw_gI dX11_road_92 fl_X11_263 (fun x92 => ?_)
        refine aw_iload_n dX11_road_95 rfl ?_
        refine aw_iast dX11_road_96 (fun _ => ?_)
        refine aw_aload_n dX11_road_97 rfl ?_
        refine aw_gA dX11_road_98 fl_X11_90 (fun x98 => ?_)
        refine aw_aload_n dX11_road_101 rfl ?_
        refine aw_gI dX11_road_102 fl_X11_263 (fun x102 => ?_)
        refine aw_iload dX11_road_105 rfl ?_
        refine aw_iast dX11_road_107 (fun _ => ?_)
        refine aw_aload_n dX11_road_108 rfl ?_
        refine aw_dup dX11_road_109 rfl ?_
        refine aw_gI dX11_road_110 fl_X11_263 (fun x110 => ?_)
        refine aw_iconst (1 : Int32) dX11_road_113 rfl ?_
        refine aw_iadd dX11_road_114 ?_
        refine aw_pI dX11_road_115 pl_X11_263 (fun _ => ?_)
        refine aw_aload_n dX11_road_118 rfl ?_
        refine aw_gI dX11_road_119 fl_X11_263 (fun x119 => ?_)
        refine aw_iconst (1 : Int32) dX11_road_122 rfl ?_
        refine aw_isub dX11_road_123 ?_
        exact aw_iret dX11_road_124 rfl
      · refine aw_sipush (-1004 : Int32) dX11_road_63 rfl ?_
        exact aw_iret dX11_road_66 rfl
    · refine aw_sipush (-1002 : Int32) dX11_road_50 rfl ?_
      exact aw_iret dX11_road_53 rfl
set_option maxRecDepth 20000 in
theorem ctX11_road (t : Nat) (v1 : Int32) (v2 : Int32) (v3 : Int32) (v4 : Int32) : Ct yX11_road cX11_road mX11_road qI [vr (some t), vi v1, vi v2, vi v3, vi v4] (pX11_road t v1 v2 v3 v4) := by
  refine ct_go rfl rfl (fun h9 => by cases h9) (Nat.le_of_ble_eq_true rfl) (fun C res => ?_)
  refine aw_iload_n dX11_road_0 rfl ?_
  refine aw_cS1 puI dX11_road_1 (ctX11_isTown _) mcX11_isTown ml_X11_258 msX11_isTown rfl (by decide) (Nat.le_of_ble_eq_true rfl) (fun x1 => ?_)
  refine aw_if_eq 29 dX11_road_4 (by decide) ?_ ?_
  · refine aw_sipush (-1001 : Int32) dX11_road_29 rfl ?_
    exact aw_iret dX11_road_32 rfl
  · refine aw_iload_n dX11_road_7 rfl ?_
    refine aw_cS1 puI dX11_road_8 (ctX11_isTown _) mcX11_isTown ml_X11_258 msX11_isTown rfl (by decide) (Nat.le_of_ble_eq_true rfl) (fun x8 => ?_)
    refine aw_if_eq 29 dX11_road_11 (by decide) ?_ ?_
    · refine aw_sipush (-1001 : Int32) dX11_road_29 rfl ?_
      exact aw_iret dX11_road_32 rfl
    · refine aw_iload dX11_road_14 rfl ?_
      refine aw_iconst (-1 : Int32) dX11_road_16 rfl ?_
      refine aw_icmp_eq 33 dX11_road_17 (by decide) ?_ ?_
      · refine aw_msk [true, true, true, true, true] ?_
        exact abX11_road_33   t v1 v2 v3 v4
      · refine aw_aload_n dX11_road_20 rfl ?_
        refine aw_iload dX11_road_21 rfl ?_
        refine aw_cV1 puI dX11_road_23 (fun o => ctX11_noBridge o _) mcX11_noBridge ml_X11_158 rfl rfl msX11_noBridge rfl (by decide) (Nat.le_of_ble_eq_true rfl) (fun x23 => ?_)
        refine aw_if_eq 33 dX11_road_26 (by decide) ?_ ?_
        · refine aw_msk [true, true, true, true, true] ?_
          exact abX11_road_33   t v1 v2 v3 v4
        · refine aw_sipush (-1001 : Int32) dX11_road_29 rfl ?_
          exact aw_iret dX11_road_32 rfl
set_option maxRecDepth 20000 in
theorem ctX11_beyond (t : Nat) (v1 : Int32) (v2 : Int32) : Ct yX11_beyond cX11_beyond mX11_beyond qI [vr (some t), vi v1, vi v2] (pX11_beyond t v1 v2) := by
  refine ct_go rfl rfl (fun h9 => by cases h9) (Nat.le_of_ble_eq_true rfl) (fun C res => ?_)
  refine aw_aload_n dX11_beyond_0 rfl ?_
  refine aw_gA dX11_beyond_1 fl_X11_81 (fun x1 => ?_)
  refine aw_iload_n dX11_beyond_4 rfl ?_
  refine aw_iald dX11_beyond_5 (fun x5 => ?_)
  refine aw_iload_n dX11_beyond_6 rfl ?_
  refine aw_icmp_ne 19 dX11_beyond_7 (by decide) ?_ ?_
  · refine aw_aload_n dX11_beyond_19 rfl ?_
    refine aw_gA dX11_beyond_20 fl_X11_84 (fun x20 => ?_)
    refine aw_iload_n dX11_beyond_23 rfl ?_
    refine aw_iald dX11_beyond_24 (fun x24 => ?_)
    refine aw_iload_n dX11_beyond_25 rfl ?_
    refine aw_icmp_ne 38 dX11_beyond_26 (by decide) ?_ ?_
    · refine aw_iconst (-1 : Int32) dX11_beyond_38 rfl ?_
      exact aw_iret dX11_beyond_39 rfl
    · refine aw_aload_n dX11_beyond_29 rfl ?_
      refine aw_gA dX11_beyond_30 fl_X11_81 (fun x30 => ?_)
      refine aw_iload_n dX11_beyond_33 rfl ?_
      refine aw_iald dX11_beyond_34 (fun x34 => ?_)
      refine aw_goto 39 dX11_beyond_35 (by decide) ?_
      exact aw_iret dX11_beyond_39 rfl
  · refine aw_aload_n dX11_beyond_10 rfl ?_
    refine aw_gA dX11_beyond_11 fl_X11_84 (fun x11 => ?_)
    refine aw_iload_n dX11_beyond_14 rfl ?_
    refine aw_iald dX11_beyond_15 (fun x15 => ?_)
    refine aw_goto 39 dX11_beyond_16 (by decide) ?_
    exact aw_iret dX11_beyond_39 rfl
set_option maxRecDepth 20000 in
theorem abX11_findFar_201 {C : Cx} {res : Unit × Hp}  {k39 : Nat → Int32 → Mo Unit} (h39 : ∀ (t : Nat) (v2 : Int32), AW C cX11_findFar mX11_findFar qV res 39 [vr (some t), vu, vi v2, vu, vu, vu, vu, vu, vu] [] (k39 t v2)) {k47 : Nat → Int32 → Int32 → Mo Unit} (h47 : ∀ (t : Nat) (v2 : Int32) (v3 : Int32), AW C cX11_findFar mX11_findFar qV res 47 [vr (some t), vu, vi v2, vi v3, vu, vu, vu, vu, vu] [] (k47 t v2 v3)) {k58 : Nat → Int32 → Int32 → Int32 → Mo Unit} (h58 : ∀ (t : Nat) (v2 : Int32) (v3 : Int32) (v4 : Int32), AW C cX11_findFar mX11_findFar qV res 58 [vr (some t), vu, vi v2, vi v3, vi v4, vu, vu, vu, vu] [] (k58 t v2 v3 v4)) : ∀ (t : Nat) (v2 : Int32) (v3 : Int32) (v4 : Int32) (v5 : Int32) (v6 : Int32) (v7 : Int32) (s0 : Int32), AW C cX11_findFar mX11_findFar qV res 201 [vr (some t), vu, vi v2, vi v3, vi v4, vi v5, vi v6, vi v7, vu] [vi s0] (bX11_findFar_201  k39 k47 k58 t v2 v3 v4 v5 v6 v7 s0) := by
  intro t v2 v3 v4 v5 v6 v7 s0
  refine aw_istore dX11_findFar_201 (by decide) ?_
  refine aw_iload dX11_findFar_203 rfl ?_
  refine aw_if_eq 235 dX11_findFar_205 (by decide) ?_ ?_
  · refine aw_iinc (v4 + (1 : Int32)) dX11_findFar_235 rfl rfl (by decide) ?_
    refine aw_goto 58 dX11_findFar_238 (by decide) ?_
    refine aw_msk [true, false, true, true, true, false, false, false, false] ?_
    exact h58 t v2 v3 ((v4 + (1 : Int32)))
  · refine aw_aload_n dX11_findFar_208 rfl ?_
    refine aw_gA dX11_findFar_209 fl_X11_97 (fun x209 => ?_)
    refine aw_iload dX11_findFar_212 rfl ?_
    refine aw_iload dX11_findFar_214 rfl ?_
    refine aw_iast dX11_findFar_216 (fun _ => ?_)
    refine aw_aload_n dX11_findFar_217 rfl ?_
    refine aw_gA dX11_findFar_218 fl_X11_100 (fun x218 => ?_)
    refine aw_iload dX11_findFar_221 rfl ?_
    refine aw_aload_n dX11_findFar_223 rfl ?_
    refine aw_gA dX11_findFar_224 fl_X11_100 (fun x224 => ?_)
    refine aw_iload dX11_findFar_227 rfl ?_
    refine aw_iald dX11_findFar_229 (fun x229 => ?_)
    refine aw_iconst (1 : Int32) dX11_findFar_230 rfl ?_
    refine aw_iadd dX11_findFar_231 ?_
    refine aw_iast dX11_findFar_232 (fun _ => ?_)
    refine aw_iconst (1 : Int32) dX11_findFar_233 rfl ?_
    refine aw_istore_n dX11_findFar_234 (by decide) ?_
    refine aw_iinc (v4 + (1 : Int32)) dX11_findFar_235 rfl rfl (by decide) ?_
    refine aw_goto 58 dX11_findFar_238 (by decide) ?_
    refine aw_msk [true, false, true, true, true, false, false, false, false] ?_
    exact h58 t ((1 : Int32)) v3 ((v4 + (1 : Int32)))
set_option maxRecDepth 20000 in
theorem abX11_findFar_115 {C : Cx} {res : Unit × Hp}  {k39 : Nat → Int32 → Mo Unit} (h39 : ∀ (t : Nat) (v2 : Int32), AW C cX11_findFar mX11_findFar qV res 39 [vr (some t), vu, vi v2, vu, vu, vu, vu, vu, vu] [] (k39 t v2)) {k47 : Nat → Int32 → Int32 → Mo Unit} (h47 : ∀ (t : Nat) (v2 : Int32) (v3 : Int32), AW C cX11_findFar mX11_findFar qV res 47 [vr (some t), vu, vi v2, vi v3, vu, vu, vu, vu, vu] [] (k47 t v2 v3)) {k58 : Nat → Int32 → Int32 → Int32 → Mo Unit} (h58 : ∀ (t : Nat) (v2 : Int32) (v3 : Int32) (v4 : Int32), AW C cX11_findFar mX11_findFar qV res 58 [vr (some t), vu, vi v2, vi v3, vi v4, vu, vu, vu, vu] [] (k58 t v2 v3 v4)) : ∀ (t : Nat) (v2 : Int32) (v3 : Int32) (v4 : Int32) (v5 : Int32) (s0 : Int32), AW C cX11_findFar mX11_findFar qV res 115 [vr (some t), vu, vi v2, vi v3, vi v4, vi v5, vu, vu, vu] [vi s0] (bX11_findFar_115  k39 k47 k58 t v2 v3 v4 v5 s0) := by
  intro t v2 v3 v4 v5 s0
  refine aw_istore dX11_findFar_115 (by decide) ?_
  refine aw_aload_n dX11_findFar_117 rfl ?_
  refine aw_gA dX11_findFar_118 fl_X11_97 (fun x118 => ?_)
  refine aw_iload dX11_findFar_121 rfl ?_
  refine aw_iald dX11_findFar_123 (fun x123 => ?_)
  refine aw_aload_n dX11_findFar_124 rfl ?_
  refine aw_gA dX11_findFar_125 fl_X11_87 (fun x125 => ?_)
  refine aw_iload_n dX11_findFar_128 rfl ?_
  refine aw_iald dX11_findFar_129 (fun x129 => ?_)
  refine aw_iadd dX11_findFar_130 ?_
  refine aw_istore dX11_findFar_131 (by decide) ?_
  refine aw_aload_n dX11_findFar_133 rfl ?_
  refine aw_gA dX11_findFar_134 fl_X11_97 (fun x134 => ?_)
  refine aw_iload dX11_findFar_137 rfl ?_
  refine aw_iald dX11_findFar_139 (fun x139 => ?_)
  refine aw_if_lt 200 dX11_findFar_140 (by decide) ?_ ?_
  · refine aw_iconst (0 : Int32) dX11_findFar_200 rfl ?_
    refine aw_msk [true, false, true, true, true, true, true, true, false] ?_
    exact abX11_findFar_201  h39 h47 h58 t v2 v3 v4 v5 s0 ((x123 + x129)) ((0 : Int32))
  · refine aw_aload_n dX11_findFar_143 rfl ?_
    refine aw_gA dX11_findFar_144 fl_X11_97 (fun x144 => ?_)
    refine aw_iload dX11_findFar_147 rfl ?_
    refine aw_iald dX11_findFar_149 (fun x149 => ?_)
    refine aw_if_lt 196 dX11_findFar_150 (by decide) ?_ ?_
    · refine aw_iconst (1 : Int32) dX11_findFar_196 rfl ?_
      refine aw_goto 201 dX11_findFar_197 (by decide) ?_
      refine aw_msk [true, false, true, true, true, true, true, true, false] ?_
      exact abX11_findFar_201  h39 h47 h58 t v2 v3 v4 v5 s0 ((x123 + x129)) ((1 : Int32))
    · refine aw_iload dX11_findFar_153 rfl ?_
      refine aw_aload_n dX11_findFar_155 rfl ?_
      refine aw_gA dX11_findFar_156 fl_X11_97 (fun x156 => ?_)
      refine aw_iload dX11_findFar_159 rfl ?_
      refine aw_iald dX11_findFar_161 (fun x161 => ?_)
      refine aw_icmp_lt 196 dX11_findFar_162 (by decide) ?_ ?_
      · refine aw_iconst (1 : Int32) dX11_findFar_196 rfl ?_
        refine aw_goto 201 dX11_findFar_197 (by decide) ?_
        refine aw_msk [true, false, true, true, true, true, true, true, false] ?_
        exact abX11_findFar_201  h39 h47 h58 t v2 v3 v4 v5 s0 ((x123 + x129)) ((1 : Int32))
      · refine aw_iload dX11_findFar_165 rfl ?_
        refine aw_aload_n dX11_findFar_167 rfl ?_
        refine aw_gA dX11_findFar_168 fl_X11_97 (fun x168 => ?_)
        refine aw_iload dX11_findFar_171 rfl ?_
        refine aw_iald dX11_findFar_173 (fun x173 => ?_)
        refine aw_icmp_ne 200 dX11_findFar_174 (by decide) ?_ ?_
        · refine aw_iconst (0 : Int32) dX11_findFar_200 rfl ?_
          refine aw_msk [true, false, true, true, true, true, true, true, false] ?_
          exact abX11_findFar_201  h39 h47 h58 t v2 v3 v4 v5 s0 ((x123 + x129)) ((0 : Int32))
        · refine aw_aload_n dX11_findFar_177 rfl ?_
          refine aw_gA dX11_findFar_178 fl_X11_100 (fun x178 => ?_)
          refine aw_iload dX11_findFar_181 rfl ?_
          refine aw_iald dX11_findFar_183 (fun x183 => ?_)
          refine aw_iconst (1 : Int32) dX11_findFar_184 rfl ?_
          refine aw_iadd dX11_findFar_185 ?_
          refine aw_aload_n dX11_findFar_186 rfl ?_
          refine aw_gA dX11_findFar_187 fl_X11_100 (fun x187 => ?_)
          refine aw_iload dX11_findFar_190 rfl ?_
          refine aw_iald dX11_findFar_192 (fun x192 => ?_)
          refine aw_icmp_ge 200 dX11_findFar_193 (by decide) ?_ ?_
          · refine aw_iconst (0 : Int32) dX11_findFar_200 rfl ?_
            refine aw_msk [true, false, true, true, true, true, true, true, false] ?_
            exact abX11_findFar_201  h39 h47 h58 t v2 v3 v4 v5 s0 ((x123 + x129)) ((0 : Int32))
          · refine aw_iconst (1 : Int32) dX11_findFar_196 rfl ?_
            refine aw_goto 201 dX11_findFar_197 (by decide) ?_
            refine aw_msk [true, false, true, true, true, true, true, true, false] ?_
            exact abX11_findFar_201  h39 h47 h58 t v2 v3 v4 v5 s0 ((x123 + x129)) ((1 : Int32))
set_option maxRecDepth 20000 in
theorem abX11_findFar_93 {C : Cx} {res : Unit × Hp}  {k39 : Nat → Int32 → Mo Unit} (h39 : ∀ (t : Nat) (v2 : Int32), AW C cX11_findFar mX11_findFar qV res 39 [vr (some t), vu, vi v2, vu, vu, vu, vu, vu, vu] [] (k39 t v2)) {k47 : Nat → Int32 → Int32 → Mo Unit} (h47 : ∀ (t : Nat) (v2 : Int32) (v3 : Int32), AW C cX11_findFar mX11_findFar qV res 47 [vr (some t), vu, vi v2, vi v3, vu, vu, vu, vu, vu] [] (k47 t v2 v3)) {k58 : Nat → Int32 → Int32 → Int32 → Mo Unit} (h58 : ∀ (t : Nat) (v2 : Int32) (v3 : Int32) (v4 : Int32), AW C cX11_findFar mX11_findFar qV res 58 [vr (some t), vu, vi v2, vi v3, vi v4, vu, vu, vu, vu] [] (k58 t v2 v3 v4)) : ∀ (t : Nat) (v2 : Int32) (v3 : Int32) (v4 : Int32) (s0 : Int32), AW C cX11_findFar mX11_findFar qV res 93 [vr (some t), vu, vi v2, vi v3, vi v4, vu, vu, vu, vu] [vi s0] (bX11_findFar_93  k39 k47 k58 t v2 v3 v4 s0) := by
  intro t v2 v3 v4 s0
  refine aw_istore dX11_findFar_93 (by decide) ?_
  refine aw_iload dX11_findFar_95 rfl ?_
  refine aw_if_ne 109 dX11_findFar_97 (by decide) ?_ ?_
  · refine aw_aload_n dX11_findFar_109 rfl ?_
    refine aw_gA dX11_findFar_110 fl_X11_81 (fun x110 => ?_)
    refine aw_iload_n dX11_findFar_113 rfl ?_
    refine aw_iald dX11_findFar_114 (fun x114 => ?_)
    refine aw_msk [true, false, true, true, true, true, false, false, false] ?_
    exact abX11_findFar_115  h39 h47 h58 t v2 v3 v4 s0 x114
  · refine aw_aload_n dX11_findFar_100 rfl ?_
    refine aw_gA dX11_findFar_101 fl_X11_84 (fun x101 => ?_)
    refine aw_iload_n dX11_findFar_104 rfl ?_
    refine aw_iald dX11_findFar_105 (fun x105 => ?_)
    refine aw_goto 115 dX11_findFar_106 (by decide) ?_
    refine aw_msk [true, false, true, true, true, true, false, false, false] ?_
    exact abX11_findFar_115  h39 h47 h58 t v2 v3 v4 s0 x105
set_option maxRecDepth 20000 in
theorem abX11_findFar_58 {C : Cx} {res : Unit × Hp}  {k39 : Nat → Int32 → Mo Unit} (h39 : ∀ (t : Nat) (v2 : Int32), AW C cX11_findFar mX11_findFar qV res 39 [vr (some t), vu, vi v2, vu, vu, vu, vu, vu, vu] [] (k39 t v2)) {k47 : Nat → Int32 → Int32 → Mo Unit} (h47 : ∀ (t : Nat) (v2 : Int32) (v3 : Int32), AW C cX11_findFar mX11_findFar qV res 47 [vr (some t), vu, vi v2, vi v3, vu, vu, vu, vu, vu] [] (k47 t v2 v3)) {k58 : Nat → Int32 → Int32 → Int32 → Mo Unit} (h58 : ∀ (t : Nat) (v2 : Int32) (v3 : Int32) (v4 : Int32), AW C cX11_findFar mX11_findFar qV res 58 [vr (some t), vu, vi v2, vi v3, vi v4, vu, vu, vu, vu] [] (k58 t v2 v3 v4)) : ∀ (t : Nat) (v2 : Int32) (v3 : Int32) (v4 : Int32), AW C cX11_findFar mX11_findFar qV res 58 [vr (some t), vu, vi v2, vi v3, vi v4, vu, vu, vu, vu] [] (bX11_findFar_58  k39 k47 k58 t v2 v3 v4) := by
  intro t v2 v3 v4
  refine aw_iload dX11_findFar_58 rfl ?_
  refine aw_iconst (2 : Int32) dX11_findFar_60 rfl ?_
  refine aw_icmp_ge 241 dX11_findFar_61 (by decide) ?_ ?_
  · refine aw_iinc (v3 + (1 : Int32)) dX11_findFar_241 rfl rfl (by decide) ?_
    refine aw_goto 47 dX11_findFar_244 (by decide) ?_
    refine aw_msk [true, false, true, true, false, false, false, false, false] ?_
    exact h47 t v2 ((v3 + (1 : Int32)))
  · refine aw_aload_n dX11_findFar_64 rfl ?_
    refine aw_gA dX11_findFar_65 fl_X11_93 (fun x65 => ?_)
    refine aw_iload_n dX11_findFar_68 rfl ?_
    refine aw_zald dX11_findFar_69 (fun x69 => ?_)
    refine aw_if_eq 241 dX11_findFar_70 (by decide) ?_ ?_
    · refine aw_iinc (v3 + (1 : Int32)) dX11_findFar_241 rfl rfl (by decide) ?_
      refine aw_goto 47 dX11_findFar_244 (by decide) ?_
      refine aw_msk [true, false, true, true, false, false, false, false, false] ?_
      exact h47 t v2 ((v3 + (1 : Int32)))
    · refine aw_iload dX11_findFar_73 rfl ?_
      refine aw_if_ne 87 dX11_findFar_75 (by decide) ?_ ?_
      · refine aw_aload_n dX11_findFar_87 rfl ?_
        refine aw_gA dX11_findFar_88 fl_X11_84 (fun x88 => ?_)
        refine aw_iload_n dX11_findFar_91 rfl ?_
        refine aw_iald dX11_findFar_92 (fun x92 => ?_)
        refine aw_msk [true, false, true, true, true, false, false, false, false] ?_
        exact abX11_findFar_93  h39 h47 h58 t v2 v3 v4 x92
      · refine aw_aload_n dX11_findFar_78 rfl ?_
        refine aw_gA dX11_findFar_79 fl_X11_81 (fun x79 => ?_)
        refine aw_iload_n dX11_findFar_82 rfl ?_
        refine aw_iald dX11_findFar_83 (fun x83 => ?_)
        refine aw_goto 93 dX11_findFar_84 (by decide) ?_
        refine aw_msk [true, false, true, true, true, false, false, false, false] ?_
        exact abX11_findFar_93  h39 h47 h58 t v2 v3 v4 x83
theorem afX11_findFar_58 {C : Cx} {res : Unit × Hp}  {k39 : Nat → Int32 → Mo Unit} (h39 : ∀ (t : Nat) (v2 : Int32), AW C cX11_findFar mX11_findFar qV res 39 [vr (some t), vu, vi v2, vu, vu, vu, vu, vu, vu] [] (k39 t v2)) {k47 : Nat → Int32 → Int32 → Mo Unit} (h47 : ∀ (t : Nat) (v2 : Int32) (v3 : Int32), AW C cX11_findFar mX11_findFar qV res 47 [vr (some t), vu, vi v2, vi v3, vu, vu, vu, vu, vu] [] (k47 t v2 v3)) : ∀ (n : Nat) (t : Nat) (v2 : Int32) (v3 : Int32) (v4 : Int32), AW C cX11_findFar mX11_findFar qV res 58 [vr (some t), vu, vi v2, vi v3, vi v4, vu, vu, vu, vu] [] (fX11_findFar_58  k39 k47 n t v2 v3 v4)
  | 0, _, _, _, _ => aw_fl
  | n + 1, t, v2, v3, v4 => abX11_findFar_58  h39 h47 (fun t v2 v3 v4 => afX11_findFar_58  h39 h47 n t v2 v3 v4) t v2 v3 v4
set_option maxRecDepth 20000 in
theorem abX11_findFar_47 {C : Cx} {res : Unit × Hp}  {k39 : Nat → Int32 → Mo Unit} (h39 : ∀ (t : Nat) (v2 : Int32), AW C cX11_findFar mX11_findFar qV res 39 [vr (some t), vu, vi v2, vu, vu, vu, vu, vu, vu] [] (k39 t v2)) {k47 : Nat → Int32 → Int32 → Mo Unit} (h47 : ∀ (t : Nat) (v2 : Int32) (v3 : Int32), AW C cX11_findFar mX11_findFar qV res 47 [vr (some t), vu, vi v2, vi v3, vu, vu, vu, vu, vu] [] (k47 t v2 v3)) : ∀ (t : Nat) (v2 : Int32) (v3 : Int32), AW C cX11_findFar mX11_findFar qV res 47 [vr (some t), vu, vi v2, vi v3, vu, vu, vu, vu, vu] [] (bX11_findFar_47  k39 k47 t v2 v3) := by
  intro t v2 v3
  refine aw_iload_n dX11_findFar_47 rfl ?_
  refine aw_aload_n dX11_findFar_48 rfl ?_
  refine aw_gI dX11_findFar_49 fl_X11_263 (fun x49 => ?_)
  refine aw_icmp_ge 247 dX11_findFar_52 (by decide) ?_ ?_
  · refine aw_goto 39 dX11_findFar_247 (by decide) ?_
    refine aw_msk [true, false, true, false, false, false, false, false, false] ?_
    exact h39 t v2
  · refine aw_iconst (0 : Int32) dX11_findFar_55 rfl ?_
    refine aw_istore dX11_findFar_56 (by decide) ?_
    refine aw_msk [true, false, true, true, true, false, false, false, false] ?_
    exact afX11_findFar_58  h39 h47 FU t v2 v3 ((0 : Int32))
theorem afX11_findFar_47 {C : Cx} {res : Unit × Hp}  {k39 : Nat → Int32 → Mo Unit} (h39 : ∀ (t : Nat) (v2 : Int32), AW C cX11_findFar mX11_findFar qV res 39 [vr (some t), vu, vi v2, vu, vu, vu, vu, vu, vu] [] (k39 t v2)) : ∀ (n : Nat) (t : Nat) (v2 : Int32) (v3 : Int32), AW C cX11_findFar mX11_findFar qV res 47 [vr (some t), vu, vi v2, vi v3, vu, vu, vu, vu, vu] [] (fX11_findFar_47  k39 n t v2 v3)
  | 0, _, _, _ => aw_fl
  | n + 1, t, v2, v3 => abX11_findFar_47  h39 (fun t v2 v3 => afX11_findFar_47  h39 n t v2 v3) t v2 v3
set_option maxRecDepth 20000 in
theorem abX11_findFar_39 {C : Cx} {res : Unit × Hp}  {k39 : Nat → Int32 → Mo Unit} (h39 : ∀ (t : Nat) (v2 : Int32), AW C cX11_findFar mX11_findFar qV res 39 [vr (some t), vu, vi v2, vu, vu, vu, vu, vu, vu] [] (k39 t v2)) : ∀ (t : Nat) (v2 : Int32), AW C cX11_findFar mX11_findFar qV res 39 [vr (some t), vu, vi v2, vu, vu, vu, vu, vu, vu] [] (bX11_findFar_39  k39 t v2) := by
  intro t v2
  refine aw_iload_n dX11_findFar_39 rfl ?_
  refine aw_if_eq 250 dX11_findFar_40 (by decide) ?_ ?_
  · exact aw_vret dX11_findFar_250 rfl
  · refine aw_iconst (0 : Int32) dX11_findFar_43 rfl ?_
    refine aw_istore_n dX11_findFar_44 (by decide) ?_
    refine aw_iconst (0 : Int32) dX11_findFar_45 rfl ?_
    refine aw_istore_n dX11_findFar_46 (by decide) ?_
    refine aw_msk [true, false, true, true, false, false, false, false, false] ?_
    exact afX11_findFar_47  h39 FU t ((0 : Int32)) ((0 : Int32))
theorem afX11_findFar_39 {C : Cx} {res : Unit × Hp}   : ∀ (n : Nat) (t : Nat) (v2 : Int32), AW C cX11_findFar mX11_findFar qV res 39 [vr (some t), vu, vi v2, vu, vu, vu, vu, vu, vu] [] (fX11_findFar_39   n t v2)
  | 0, _, _ => aw_fl
  | n + 1, t, v2 => abX11_findFar_39  (fun t v2 => afX11_findFar_39   n t v2) t v2
set_option maxRecDepth 20000 in
theorem abX11_findFar_23 {C : Cx} {res : Unit × Hp}  {k2 : Nat → Int32 → Int32 → Mo Unit} (h2 : ∀ (t : Nat) (v1 : Int32) (v2 : Int32), AW C cX11_findFar mX11_findFar qV res 2 [vr (some t), vi v1, vi v2, vu, vu, vu, vu, vu, vu] [] (k2 t v1 v2)) : ∀ (t : Nat) (v1 : Int32) (v2 : Int32) (s0 : Option Nat) (s1 : Int32) (s2 : Int32), AW C cX11_findFar mX11_findFar qV res 23 [vr (some t), vi v1, vi v2, vu, vu, vu, vu, vu, vu] [vi s2, vi s1, vr s0] (bX11_findFar_23  k2 t v1 v2 s0 s1 s2) := by
  intro t v1 v2 s0 s1 s2
  refine aw_iast dX11_findFar_23 (fun _ => ?_)
  refine aw_aload_n dX11_findFar_24 rfl ?_
  refine aw_gA dX11_findFar_25 fl_X11_100 (fun x25 => ?_)
  refine aw_iload_n dX11_findFar_28 rfl ?_
  refine aw_iconst (0 : Int32) dX11_findFar_29 rfl ?_
  refine aw_iast dX11_findFar_30 (fun _ => ?_)
  refine aw_iinc (v2 + (1 : Int32)) dX11_findFar_31 rfl rfl (by decide) ?_
  refine aw_goto 2 dX11_findFar_34 (by decide) ?_
  refine aw_msk [true, true, true, false, false, false, false, false, false] ?_
  exact h2 t v1 ((v2 + (1 : Int32)))
set_option maxRecDepth 20000 in
theorem abX11_findFar_2 {C : Cx} {res : Unit × Hp}  {k2 : Nat → Int32 → Int32 → Mo Unit} (h2 : ∀ (t : Nat) (v1 : Int32) (v2 : Int32), AW C cX11_findFar mX11_findFar qV res 2 [vr (some t), vi v1, vi v2, vu, vu, vu, vu, vu, vu] [] (k2 t v1 v2)) : ∀ (t : Nat) (v1 : Int32) (v2 : Int32), AW C cX11_findFar mX11_findFar qV res 2 [vr (some t), vi v1, vi v2, vu, vu, vu, vu, vu, vu] [] (bX11_findFar_2  k2 t v1 v2) := by
  intro t v1 v2
  refine aw_iload_n dX11_findFar_2 rfl ?_
  refine aw_bipush (10 : Int32) dX11_findFar_3 rfl ?_
  refine aw_icmp_ge 37 dX11_findFar_5 (by decide) ?_ ?_
  · refine aw_iconst (1 : Int32) dX11_findFar_37 rfl ?_
    refine aw_istore_n dX11_findFar_38 (by decide) ?_
    refine aw_msk [true, false, true, false, false, false, false, false, false] ?_
    exact afX11_findFar_39   FU t ((1 : Int32))
  · refine aw_aload_n dX11_findFar_8 rfl ?_
    refine aw_gA dX11_findFar_9 fl_X11_97 (fun x9 => ?_)
    refine aw_iload_n dX11_findFar_12 rfl ?_
    refine aw_iload_n dX11_findFar_13 rfl ?_
    refine aw_iload_n dX11_findFar_14 rfl ?_
    refine aw_icmp_ne 22 dX11_findFar_15 (by decide) ?_ ?_
    · refine aw_iconst (-1 : Int32) dX11_findFar_22 rfl ?_
      refine aw_msk [true, true, true, false, false, false, false, false, false] ?_
      exact abX11_findFar_23  h2 t v1 v2 x9 v2 ((-1 : Int32))
    · refine aw_iconst (0 : Int32) dX11_findFar_18 rfl ?_
      refine aw_goto 23 dX11_findFar_19 (by decide) ?_
      refine aw_msk [true, true, true, false, false, false, false, false, false] ?_
      exact abX11_findFar_23  h2 t v1 v2 x9 v2 ((0 : Int32))
theorem afX11_findFar_2 {C : Cx} {res : Unit × Hp}   : ∀ (n : Nat) (t : Nat) (v1 : Int32) (v2 : Int32), AW C cX11_findFar mX11_findFar qV res 2 [vr (some t), vi v1, vi v2, vu, vu, vu, vu, vu, vu] [] (fX11_findFar_2   n t v1 v2)
  | 0, _, _, _ => aw_fl
  | n + 1, t, v1, v2 => abX11_findFar_2  (fun t v1 v2 => afX11_findFar_2   n t v1 v2) t v1 v2
set_option maxRecDepth 20000 in
theorem ctX11_findFar (t : Nat) (v1 : Int32) : Ct yX11_findFar cX11_findFar mX11_findFar qV [vr (some t), vi v1] (pX11_findFar t v1) := by
  refine ct_go rfl rfl (fun h9 => by cases h9) (Nat.le_of_ble_eq_true rfl) (fun C res => ?_)
  refine aw_iconst (0 : Int32) dX11_findFar_0 rfl ?_
  refine aw_istore_n dX11_findFar_1 (by decide) ?_
  refine aw_msk [true, true, true, false, false, false, false, false, false] ?_
  exact afX11_findFar_2   FU t v1 ((0 : Int32))
set_option maxRecDepth 20000 in
theorem abX11_layRoute_122 {C : Cx} {res : Int32 × Hp}  {k21 : Nat → Int32 → Int32 → Int32 → Mo Int32} (h21 : ∀ (t : Nat) (v2 : Int32) (v3 : Int32) (v4 : Int32), AW C cX11_layRoute mX11_layRoute qI res 21 [vr (some t), vu, vi v2, vi v3, vi v4, vu, vu, vu] [] (k21 t v2 v3 v4)) {k32 : Nat → Int32 → Int32 → Int32 → Int32 → Int32 → Mo Int32} (h32 : ∀ (t : Nat) (v2 : Int32) (v3 : Int32) (v4 : Int32) (v5 : Int32) (v6 : Int32), AW C cX11_layRoute mX11_layRoute qI res 32 [vr (some t), vu, vi v2, vi v3, vi v4, vi v5, vi v6, vu] [] (k32 t v2 v3 v4 v5 v6)) : ∀ (t : Nat) (v2 : Int32) (v3 : Int32) (v4 : Int32) (v5 : Int32) (s0 : Int32), AW C cX11_layRoute mX11_layRoute qI res 122 [vr (some t), vu, vi v2, vi v3, vi v4, vi v5, vu, vu] [vi s0] (bX11_layRoute_122  k21 k32 t v2 v3 v4 v5 s0) := by
  intro t v2 v3 v4 v5 s0
  refine aw_istore dX11_layRoute_122 (by decide) ?_
  refine aw_iload dX11_layRoute_124 rfl ?_
  refine aw_iload dX11_layRoute_126 rfl ?_
  refine aw_if_eq 135 dX11_layRoute_128 (by decide) ?_ ?_
  · refine aw_iconst (1 : Int32) dX11_layRoute_135 rfl ?_
    refine aw_iadd dX11_layRoute_136 ?_
    refine aw_istore dX11_layRoute_137 (by decide) ?_
    refine aw_goto 32 dX11_layRoute_139 (by decide) ?_
    refine aw_msk [true, false, true, true, true, true, true, false] ?_
    exact h32 t v2 v3 v4 ((v5 + (1 : Int32))) s0
  · refine aw_iconst (0 : Int32) dX11_layRoute_131 rfl ?_
    refine aw_goto 136 dX11_layRoute_132 (by decide) ?_
    refine aw_iadd dX11_layRoute_136 ?_
    refine aw_istore dX11_layRoute_137 (by decide) ?_
    refine aw_goto 32 dX11_layRoute_139 (by decide) ?_
    refine aw_msk [true, false, true, true, true, true, true, false] ?_
    exact h32 t v2 v3 v4 ((v5 + (0 : Int32))) s0
set_option maxRecDepth 20000 in
theorem abX11_layRoute_58 {C : Cx} {res : Int32 × Hp}  {k21 : Nat → Int32 → Int32 → Int32 → Mo Int32} (h21 : ∀ (t : Nat) (v2 : Int32) (v3 : Int32) (v4 : Int32), AW C cX11_layRoute mX11_layRoute qI res 21 [vr (some t), vu, vi v2, vi v3, vi v4, vu, vu, vu] [] (k21 t v2 v3 v4)) {k32 : Nat → Int32 → Int32 → Int32 → Int32 → Int32 → Mo Int32} (h32 : ∀ (t : Nat) (v2 : Int32) (v3 : Int32) (v4 : Int32) (v5 : Int32) (v6 : Int32), AW C cX11_layRoute mX11_layRoute qI res 32 [vr (some t), vu, vi v2, vi v3, vi v4, vi v5, vi v6, vu] [] (k32 t v2 v3 v4 v5 v6)) : ∀ (t : Nat) (v2 : Int32) (v3 : Int32) (v4 : Int32) (v5 : Int32) (s0 : Int32), AW C cX11_layRoute mX11_layRoute qI res 58 [vr (some t), vu, vi v2, vi v3, vi v4, vi v5, vu, vu] [vi s0] (bX11_layRoute_58  k21 k32 t v2 v3 v4 v5 s0) := by
  intro t v2 v3 v4 v5 s0
  refine aw_istore dX11_layRoute_58 (by decide) ?_
  refine aw_iload dX11_layRoute_60 rfl ?_
  refine aw_if_lt 121 dX11_layRoute_62 (by decide) ?_ ?_
  · refine aw_iconst (0 : Int32) dX11_layRoute_121 rfl ?_
    refine aw_msk [true, false, true, true, true, true, false, false] ?_
    exact abX11_layRoute_122  h21 h32 t v2 v3 v4 v5 ((0 : Int32))
  · refine aw_aload_n dX11_layRoute_65 rfl ?_
    refine aw_gA dX11_layRoute_66 fl_X11_97 (fun x66 => ?_)
    refine aw_iload dX11_layRoute_69 rfl ?_
    refine aw_iald dX11_layRoute_71 (fun x71 => ?_)
    refine aw_if_lt 121 dX11_layRoute_72 (by decide) ?_ ?_
    · refine aw_iconst (0 : Int32) dX11_layRoute_121 rfl ?_
      refine aw_msk [true, false, true, true, true, true, false, false] ?_
      exact abX11_layRoute_122  h21 h32 t v2 v3 v4 v5 ((0 : Int32))
    · refine aw_aload_n dX11_layRoute_75 rfl ?_
      refine aw_gA dX11_layRoute_76 fl_X11_97 (fun x76 => ?_)
      refine aw_iload dX11_layRoute_79 rfl ?_
      refine aw_iald dX11_layRoute_81 (fun x81 => ?_)
      refine aw_aload_n dX11_layRoute_82 rfl ?_
      refine aw_gA dX11_layRoute_83 fl_X11_87 (fun x83 => ?_)
      refine aw_iload dX11_layRoute_86 rfl ?_
      refine aw_iald dX11_layRoute_88 (fun x88 => ?_)
      refine aw_iadd dX11_layRoute_89 ?_
      refine aw_aload_n dX11_layRoute_90 rfl ?_
      refine aw_gA dX11_layRoute_91 fl_X11_97 (fun x91 => ?_)
      refine aw_iload_n dX11_layRoute_94 rfl ?_
      refine aw_iald dX11_layRoute_95 (fun x95 => ?_)
      refine aw_icmp_ne 121 dX11_layRoute_96 (by decide) ?_ ?_
      · refine aw_iconst (0 : Int32) dX11_layRoute_121 rfl ?_
        refine aw_msk [true, false, true, true, true, true, false, false] ?_
        exact abX11_layRoute_122  h21 h32 t v2 v3 v4 v5 ((0 : Int32))
      · refine aw_aload_n dX11_layRoute_99 rfl ?_
        refine aw_gA dX11_layRoute_100 fl_X11_100 (fun x100 => ?_)
        refine aw_iload dX11_layRoute_103 rfl ?_
        refine aw_iald dX11_layRoute_105 (fun x105 => ?_)
        refine aw_iconst (1 : Int32) dX11_layRoute_106 rfl ?_
        refine aw_iadd dX11_layRoute_107 ?_
        refine aw_aload_n dX11_layRoute_108 rfl ?_
        refine aw_gA dX11_layRoute_109 fl_X11_100 (fun x109 => ?_)
        refine aw_iload_n dX11_layRoute_112 rfl ?_
        refine aw_iald dX11_layRoute_113 (fun x113 => ?_)
        refine aw_icmp_ne 121 dX11_layRoute_114 (by decide) ?_ ?_
        · refine aw_iconst (0 : Int32) dX11_layRoute_121 rfl ?_
          refine aw_msk [true, false, true, true, true, true, false, false] ?_
          exact abX11_layRoute_122  h21 h32 t v2 v3 v4 v5 ((0 : Int32))
        · refine aw_iconst (1 : Int32) dX11_layRoute_117 rfl ?_
          refine aw_goto 122 dX11_layRoute_118 (by decide) ?_
          refine aw_msk [true, false, true, true, true, true, false, false] ?_
          exact abX11_layRoute_122  h21 h32 t v2 v3 v4 v5 ((1 : Int32))
set_option maxRecDepth 20000 in
theorem abX11_layRoute_32 {C : Cx} {res : Int32 × Hp}  {k21 : Nat → Int32 → Int32 → Int32 → Mo Int32} (h21 : ∀ (t : Nat) (v2 : Int32) (v3 : Int32) (v4 : Int32), AW C cX11_layRoute mX11_layRoute qI res 21 [vr (some t), vu, vi v2, vi v3, vi v4, vu, vu, vu] [] (k21 t v2 v3 v4)) {k32 : Nat → Int32 → Int32 → Int32 → Int32 → Int32 → Mo Int32} (h32 : ∀ (t : Nat) (v2 : Int32) (v3 : Int32) (v4 : Int32) (v5 : Int32) (v6 : Int32), AW C cX11_layRoute mX11_layRoute qI res 32 [vr (some t), vu, vi v2, vi v3, vi v4, vi v5, vi v6, vu] [] (k32 t v2 v3 v4 v5 v6)) : ∀ (t : Nat) (v2 : Int32) (v3 : Int32) (v4 : Int32) (v5 : Int32) (v6 : Int32), AW C cX11_layRoute mX11_layRoute qI res 32 [vr (some t), vu, vi v2, vi v3, vi v4, vi v5, vi v6, vu] [] (bX11_layRoute_32  k21 k32 t v2 v3 v4 v5 v6) := by
  intro t v2 v3 v4 v5 v6
  refine aw_iload dX11_layRoute_32 rfl ?_
  refine aw_if_ne 142 dX11_layRoute_34 (by decide) ?_ ?_
  · refine aw_aload_n dX11_layRoute_142 rfl ?_
    refine aw_gA dX11_layRoute_143 fl_X11_103 (fun x143 => ?_)
    refine aw_iload dX11_layRoute_146 rfl ?_
    refine aw_iload dX11_layRoute_148 rfl ?_
    refine aw_iast dX11_layRoute_150 (fun _ => ?_)
    refine aw_iinc (v4 + (1 : Int32)) dX11_layRoute_151 rfl rfl (by decide) ?_
    refine aw_aload_n dX11_layRoute_154 rfl ?_
    refine aw_iload dX11_layRoute_155 rfl ?_
    refine aw_iload_n dX11_layRoute_157 rfl ?_
    refine aw_cV2 puI dX11_layRoute_158 (fun o => ctX11_beyond o _ _) mcX11_beyond ml_X11_270 rfl rfl msX11_beyond rfl (by decide) (Nat.le_of_ble_eq_true rfl) (fun x158 => ?_)
    refine aw_istore_n dX11_layRoute_161 (by decide) ?_
    refine aw_goto 21 dX11_layRoute_162 (by decide) ?_
    refine aw_msk [true, false, true, true, true, false, false, false] ?_
    exact h21 t v2 x158 ((v4 + (1 : Int32)))
  · refine aw_aload_n dX11_layRoute_37 rfl ?_
    refine aw_gA dX11_layRoute_38 fl_X11_93 (fun x38 => ?_)
    refine aw_iload dX11_layRoute_41 rfl ?_
    refine aw_zald dX11_layRoute_43 (fun x43 => ?_)
    refine aw_if_eq 57 dX11_layRoute_44 (by decide) ?_ ?_
    · refine aw_iconst (-1 : Int32) dX11_layRoute_57 rfl ?_
      refine aw_msk [true, false, true, true, true, true, false, false] ?_
      exact abX11_layRoute_58  h21 h32 t v2 v3 v4 v5 ((-1 : Int32))
    · refine aw_aload_n dX11_layRoute_47 rfl ?_
      refine aw_iload dX11_layRoute_48 rfl ?_
      refine aw_iload_n dX11_layRoute_50 rfl ?_
      refine aw_cV2 puI dX11_layRoute_51 (fun o => ctX11_beyond o _ _) mcX11_beyond ml_X11_270 rfl rfl msX11_beyond rfl (by decide) (Nat.le_of_ble_eq_true rfl) (fun x51 => ?_)
      refine aw_goto 58 dX11_layRoute_54 (by decide) ?_
      refine aw_msk [true, false, true, true, true, true, false, false] ?_
      exact abX11_layRoute_58  h21 h32 t v2 v3 v4 v5 x51
theorem afX11_layRoute_32 {C : Cx} {res : Int32 × Hp}  {k21 : Nat → Int32 → Int32 → Int32 → Mo Int32} (h21 : ∀ (t : Nat) (v2 : Int32) (v3 : Int32) (v4 : Int32), AW C cX11_layRoute mX11_layRoute qI res 21 [vr (some t), vu, vi v2, vi v3, vi v4, vu, vu, vu] [] (k21 t v2 v3 v4)) : ∀ (n : Nat) (t : Nat) (v2 : Int32) (v3 : Int32) (v4 : Int32) (v5 : Int32) (v6 : Int32), AW C cX11_layRoute mX11_layRoute qI res 32 [vr (some t), vu, vi v2, vi v3, vi v4, vi v5, vi v6, vu] [] (fX11_layRoute_32  k21 n t v2 v3 v4 v5 v6)
  | 0, _, _, _, _, _, _ => aw_fl
  | n + 1, t, v2, v3, v4, v5, v6 => abX11_layRoute_32  h21 (fun t v2 v3 v4 v5 v6 => afX11_layRoute_32  h21 n t v2 v3 v4 v5 v6) t v2 v3 v4 v5 v6
set_option maxRecDepth 20000 in
theorem abX11_layRoute_21 {C : Cx} {res : Int32 × Hp}  {k21 : Nat → Int32 → Int32 → Int32 → Mo Int32} (h21 : ∀ (t : Nat) (v2 : Int32) (v3 : Int32) (v4 : Int32), AW C cX11_layRoute mX11_layRoute qI res 21 [vr (some t), vu, vi v2, vi v3, vi v4, vu, vu, vu] [] (k21 t v2 v3 v4)) : ∀ (t : Nat) (v2 : Int32) (v3 : Int32) (v4 : Int32), AW C cX11_layRoute mX11_layRoute qI res 21 [vr (some t), vu, vi v2, vi v3, vi v4, vu, vu, vu] [] (bX11_layRoute_21  k21 t v2 v3 v4) := by
  intro t v2 v3 v4
  refine aw_iload_n dX11_layRoute_21 rfl ?_
  refine aw_iload_n dX11_layRoute_22 rfl ?_
  refine aw_icmp_eq 165 dX11_layRoute_23 (by decide) ?_ ?_
  · refine aw_iload dX11_layRoute_165 rfl ?_
    exact aw_iret dX11_layRoute_167 rfl
  · refine aw_iconst (0 : Int32) dX11_layRoute_26 rfl ?_
    refine aw_istore dX11_layRoute_27 (by decide) ?_
    refine aw_iconst (0 : Int32) dX11_layRoute_29 rfl ?_
    refine aw_istore dX11_layRoute_30 (by decide) ?_
    refine aw_msk [true, false, true, true, true, true, true, false] ?_
    exact afX11_layRoute_32  h21 FU t v2 v3 v4 ((0 : Int32)) ((0 : Int32))
theorem afX11_layRoute_21 {C : Cx} {res : Int32 × Hp}   : ∀ (n : Nat) (t : Nat) (v2 : Int32) (v3 : Int32) (v4 : Int32), AW C cX11_layRoute mX11_layRoute qI res 21 [vr (some t), vu, vi v2, vi v3, vi v4, vu, vu, vu] [] (fX11_layRoute_21   n t v2 v3 v4)
  | 0, _, _, _, _ => aw_fl
  | n + 1, t, v2, v3, v4 => abX11_layRoute_21  (fun t v2 v3 v4 => afX11_layRoute_21   n t v2 v3 v4) t v2 v3 v4
set_option maxRecDepth 20000 in
theorem ctX11_layRoute (t : Nat) (v1 : Int32) (v2 : Int32) : Ct yX11_layRoute cX11_layRoute mX11_layRoute qI [vr (some t), vi v1, vi v2] (pX11_layRoute t v1 v2) := by
  refine ct_go rfl rfl (fun h9 => by cases h9) (Nat.le_of_ble_eq_true rfl) (fun C res => ?_)
  refine aw_aload_n dX11_layRoute_0 rfl ?_
  refine aw_iload_n dX11_layRoute_1 rfl ?_
  refine aw_cV1 puV dX11_layRoute_2 (fun o => ctX11_findFar o _) mcX11_findFar ml_X11_266 rfl rfl msX11_findFar rfl (by decide) (Nat.le_of_ble_eq_true rfl) (fun _ => ?_)
  refine aw_aload_n dX11_layRoute_5 rfl ?_
  refine aw_gA dX11_layRoute_6 fl_X11_97 (fun x6 => ?_)
  refine aw_iload_n dX11_layRoute_9 rfl ?_
  refine aw_iald dX11_layRoute_10 (fun x10 => ?_)
  refine aw_if_ge 16 dX11_layRoute_11 (by decide) ?_ ?_
  · refine aw_iload_n dX11_layRoute_16 rfl ?_
    refine aw_istore_n dX11_layRoute_17 (by decide) ?_
    refine aw_iconst (0 : Int32) dX11_layRoute_18 rfl ?_
    refine aw_istore dX11_layRoute_19 (by decide) ?_
    refine aw_msk [true, false, true, true, true, false, false, false] ?_
    exact afX11_layRoute_21   FU t v2 v1 ((0 : Int32))
  · refine aw_iconst (-1 : Int32) dX11_layRoute_14 rfl ?_
    exact aw_iret dX11_layRoute_15 rfl
set_option maxRecDepth 20000 in
theorem abX11_open_53 {C : Cx} {res : Unit × Hp}  {k3 : Nat → Int32 → Int32 → Int32 → Int32 → Mo Unit} (h3 : ∀ (t : Nat) (v1 : Int32) (v2 : Int32) (v3 : Int32) (v4 : Int32), AW C cX11_open mX11_open qV res 3 [vr (some t), vi v1, vi v2, vi v3, vi v4] [] (k3 t v1 v2 v3 v4)) : ∀ (t : Nat) (v1 : Int32) (v2 : Int32) (v3 : Int32) (v4 : Int32) (s0 : Option Nat) (s1 : Int32) (s2 : Int32), AW C cX11_open mX11_open qV res 53 [vr (some t), vi v1, vi v2, vi v3, vi v4] [vi s2, vi s1, vr s0] (bX11_open_53  k3 t v1 v2 v3 v4 s0 s1 s2) := by
  intro t v1 v2 v3 v4 s0 s1 s2
  refine aw_zast dX11_open_53 (fun _ => ?_)
  refine aw_iinc (v4 + (1 : Int32)) dX11_open_54 rfl rfl (by decide) ?_
  refine aw_goto 3 dX11_open_57 (by decide) ?_
  refine aw_msk [true, true, true, true, true] ?_
  exact h3 t v1 v2 v3 ((v4 + (1 : Int32)))
set_option maxRecDepth 20000 in
theorem abX11_open_3 {C : Cx} {res : Unit × Hp}  {k3 : Nat → Int32 → Int32 → Int32 → Int32 → Mo Unit} (h3 : ∀ (t : Nat) (v1 : Int32) (v2 : Int32) (v3 : Int32) (v4 : Int32), AW C cX11_open mX11_open qV res 3 [vr (some t), vi v1, vi v2, vi v3, vi v4] [] (k3 t v1 v2 v3 v4)) : ∀ (t : Nat) (v1 : Int32) (v2 : Int32) (v3 : Int32) (v4 : Int32), AW C cX11_open mX11_open qV res 3 [vr (some t), vi v1, vi v2, vi v3, vi v4] [] (bX11_open_3  k3 t v1 v2 v3 v4) := by
  intro t v1 v2 v3 v4
  refine aw_iload dX11_open_3 rfl ?_
  refine aw_aload_n dX11_open_5 rfl ?_
  refine aw_gI dX11_open_6 fl_X11_263 (fun x6 => ?_)
  refine aw_icmp_ge 60 dX11_open_9 (by decide) ?_ ?_
  · exact aw_vret dX11_open_60 rfl
  · refine aw_aload_n dX11_open_12 rfl ?_
    refine aw_gA dX11_open_13 fl_X11_93 (fun x13 => ?_)
    refine aw_iload dX11_open_16 rfl ?_
    refine aw_iload_n dX11_open_18 rfl ?_
    refine aw_if_ne 48 dX11_open_19 (by decide) ?_ ?_
    · refine aw_iconst (1 : Int32) dX11_open_48 rfl ?_
      refine aw_goto 53 dX11_open_49 (by decide) ?_
      refine aw_msk [true, true, true, true, true] ?_
      exact abX11_open_53  h3 t v1 v2 v3 v4 x13 v4 ((1 : Int32))
    · refine aw_aload_n dX11_open_22 rfl ?_
      refine aw_gA dX11_open_23 fl_X11_90 (fun x23 => ?_)
      refine aw_iload dX11_open_26 rfl ?_
      refine aw_iald dX11_open_28 (fun x28 => ?_)
      refine aw_if_lt 48 dX11_open_29 (by decide) ?_ ?_
      · refine aw_iconst (1 : Int32) dX11_open_48 rfl ?_
        refine aw_goto 53 dX11_open_49 (by decide) ?_
        refine aw_msk [true, true, true, true, true] ?_
        exact abX11_open_53  h3 t v1 v2 v3 v4 x13 v4 ((1 : Int32))
      · refine aw_aload_n dX11_open_32 rfl ?_
        refine aw_aload_n dX11_open_33 rfl ?_
        refine aw_gA dX11_open_34 fl_X11_90 (fun x34 => ?_)
        refine aw_iload dX11_open_37 rfl ?_
        refine aw_iald dX11_open_39 (fun x39 => ?_)
        refine aw_iload_n dX11_open_40 rfl ?_
        refine aw_iload_n dX11_open_41 rfl ?_
        refine aw_cV3 puI dX11_open_42 (fun o => ctX11_failing o _ _ _) mcX11_failing ml_X11_248 rfl rfl msX11_failing rfl (by decide) (Nat.le_of_ble_eq_true rfl) (fun x42 => ?_)
        refine aw_if_ge 52 dX11_open_45 (by decide) ?_ ?_
        · refine aw_iconst (0 : Int32) dX11_open_52 rfl ?_
          refine aw_msk [true, true, true, true, true] ?_
          exact abX11_open_53  h3 t v1 v2 v3 v4 x13 v4 ((0 : Int32))
        · refine aw_iconst (1 : Int32) dX11_open_48 rfl ?_
          refine aw_goto 53 dX11_open_49 (by decide) ?_
          refine aw_msk [true, true, true, true, true] ?_
          exact abX11_open_53  h3 t v1 v2 v3 v4 x13 v4 ((1 : Int32))
theorem afX11_open_3 {C : Cx} {res : Unit × Hp}   : ∀ (n : Nat) (t : Nat) (v1 : Int32) (v2 : Int32) (v3 : Int32) (v4 : Int32), AW C cX11_open mX11_open qV res 3 [vr (some t), vi v1, vi v2, vi v3, vi v4] [] (fX11_open_3   n t v1 v2 v3 v4)
  | 0, _, _, _, _, _ => aw_fl
  | n + 1, t, v1, v2, v3, v4 => abX11_open_3  (fun t v1 v2 v3 v4 => afX11_open_3   n t v1 v2 v3 v4) t v1 v2 v3 v4
set_option maxRecDepth 20000 in
theorem ctX11_open (t : Nat) (v1 : Int32) (v2 : Int32) (v3 : Int32) : Ct yX11_open cX11_open mX11_open qV [vr (some t), vi v1, vi v2, vi v3] (pX11_open t v1 v2 v3) := by
  refine ct_go rfl rfl (fun h9 => by cases h9) (Nat.le_of_ble_eq_true rfl) (fun C res => ?_)
  refine aw_iconst (0 : Int32) dX11_open_0 rfl ?_
  refine aw_istore dX11_open_1 (by decide) ?_
  refine aw_msk [true, true, true, true, true] ?_
  exact afX11_open_3   FU t v1 v2 v3 ((0 : Int32))
set_option maxRecDepth 20000 in
theorem ctX11_route (t : Nat) (v1 : Int32) (v2 : Int32) (v3 : Int32) (v4 : Int32) (v5 : Int32) : Ct yX11_route cX11_route mX11_route qI [vr (some t), vi v1, vi v2, vi v3, vi v4, vi v5] (pX11_route t v1 v2 v3 v4 v5) := by
  refine ct_go rfl rfl (fun h9 => by cases h9) (Nat.le_of_ble_eq_true rfl) (fun C res => ?_)
  refine aw_aload_n dX11_route_0 rfl ?_
  refine aw_iload_n dX11_route_1 rfl ?_
  refine aw_cV1 puI dX11_route_2 (fun o => ctX11_noTrain o _) mcX11_noTrain ml_X11_190 rfl rfl msX11_noTrain rfl (by decide) (Nat.le_of_ble_eq_true rfl) (fun x2 => ?_)
  refine aw_if_ne 23 dX11_route_5 (by decide) ?_ ?_
  · refine aw_sipush (-1001 : Int32) dX11_route_23 rfl ?_
    exact aw_iret dX11_route_26 rfl
  · refine aw_iload_n dX11_route_8 rfl ?_
    refine aw_cS1 puI dX11_route_9 (ctX11_isTown _) mcX11_isTown ml_X11_258 msX11_isTown rfl (by decide) (Nat.le_of_ble_eq_true rfl) (fun x9 => ?_)
    refine aw_if_eq 23 dX11_route_12 (by decide) ?_ ?_
    · refine aw_sipush (-1001 : Int32) dX11_route_23 rfl ?_
      exact aw_iret dX11_route_26 rfl
    · refine aw_iload dX11_route_15 rfl ?_
      refine aw_cS1 puI dX11_route_17 (ctX11_isTown _) mcX11_isTown ml_X11_258 msX11_isTown rfl (by decide) (Nat.le_of_ble_eq_true rfl) (fun x17 => ?_)
      refine aw_if_ne 27 dX11_route_20 (by decide) ?_ ?_
      · refine aw_iload_n dX11_route_27 rfl ?_
        refine aw_cS1 puI dX11_route_28 (ctX11_isMode _) mcX11_isMode ml_X11_236 msX11_isMode rfl (by decide) (Nat.le_of_ble_eq_true rfl) (fun x28 => ?_)
        refine aw_if_eq 53 dX11_route_31 (by decide) ?_ ?_
        · refine aw_sipush (-1002 : Int32) dX11_route_53 rfl ?_
          exact aw_iret dX11_route_56 rfl
        · refine aw_iload dX11_route_34 rfl ?_
          refine aw_i2l dX11_route_36 ?_
          refine aw_lconst (0 : Int64) dX11_route_37 rfl ?_
          refine aw_ldc2 dX11_route_38 cj_X11_273 ?_
          refine aw_cS3 puI dX11_route_41 (ctX11_in _ _ _) mcX11_in ml_X11_133 msX11_in rfl (by decide) (Nat.le_of_ble_eq_true rfl) (fun x41 => ?_)
          refine aw_if_eq 53 dX11_route_44 (by decide) ?_ ?_
          · refine aw_sipush (-1002 : Int32) dX11_route_53 rfl ?_
            exact aw_iret dX11_route_56 rfl
          · refine aw_iload_n dX11_route_47 rfl ?_
            refine aw_iload dX11_route_48 rfl ?_
            refine aw_icmp_ne 57 dX11_route_50 (by decide) ?_ ?_
            · refine aw_aload_n dX11_route_57 rfl ?_
              refine aw_iload_n dX11_route_58 rfl ?_
              refine aw_iload_n dX11_route_59 rfl ?_
              refine aw_iconst (0 : Int32) dX11_route_60 rfl ?_
              refine aw_cV3 puV dX11_route_61 (fun o => ctX11_open o _ _ _) mcX11_open ml_X11_275 rfl rfl msX11_open rfl (by decide) (Nat.le_of_ble_eq_true rfl) (fun _ => ?_)
              refine aw_aload_n dX11_route_64 rfl ?_
              refine aw_iload_n dX11_route_65 rfl ?_
              refine aw_iload dX11_route_66 rfl ?_
              refine aw_cV2 puI dX11_route_68 (fun o => ctX11_layRoute o _ _) mcX11_layRoute ml_X11_279 rfl rfl msX11_layRoute rfl (by decide) (Nat.le_of_ble_eq_true rfl) (fun x68 => ?_)
              refine aw_istore dX11_route_71 (by decide) ?_
              refine aw_iload dX11_route_73 rfl ?_
              refine aw_if_ge 80 dX11_route_75 (by decide) ?_ ?_
              · refine aw_iload dX11_route_80 rfl ?_
                refine aw_if_ne 94 dX11_route_82 (by decide) ?_ ?_
                · refine aw_iload dX11_route_94 rfl ?_
                  refine aw_iconst (1 : Int32) dX11_route_96 rfl ?_
                  refine aw_icmp_ne 105 dX11_route_97 (by decide) ?_ ?_
                  · refine aw_iload dX11_route_105 rfl ?_
                    refine aw_iconst (2 : Int32) dX11_route_107 rfl ?_
                    refine aw_isub dX11_route_108 ?_
                    refine aw_iload dX11_route_109 rfl ?_
                    refine aw_icmp_ge 126 dX11_route_111 (by decide) ?_ ?_
                    · refine aw_iconst (-1 : Int32) dX11_route_126 rfl ?_
                      exact aw_iret dX11_route_127 rfl
                    · refine aw_aload_n dX11_route_114 rfl ?_
                      refine aw_gA dX11_route_115 fl_X11_103 (fun x115 => ?_)
                      refine aw_iload dX11_route_118 rfl ?_
                      refine aw_iconst (2 : Int32) dX11_route_120 rfl ?_
                      refine aw_isub dX11_route_121 ?_
                      refine aw_iald dX11_route_122 (fun x122 => ?_)
                      refine aw_goto 127 dX11_route_123 (by decide) ?_
                      exact aw_iret dX11_route_127 rfl
                  · refine aw_iload dX11_route_100 rfl ?_
                    refine aw_goto 127 dX11_route_102 (by decide) ?_
                    exact aw_iret dX11_route_127 rfl
                · refine aw_aload_n dX11_route_85 rfl ?_
                  refine aw_gA dX11_route_86 fl_X11_97 (fun x86 => ?_)
                  refine aw_iload_n dX11_route_89 rfl ?_
                  refine aw_iald dX11_route_90 (fun x90 => ?_)
                  refine aw_goto 127 dX11_route_91 (by decide) ?_
                  exact aw_iret dX11_route_127 rfl
              · refine aw_iconst (-1 : Int32) dX11_route_78 rfl ?_
                exact aw_iret dX11_route_79 rfl
            · refine aw_sipush (-1002 : Int32) dX11_route_53 rfl ?_
              exact aw_iret dX11_route_56 rfl
      · refine aw_sipush (-1001 : Int32) dX11_route_23 rfl ?_
        exact aw_iret dX11_route_26 rfl
set_option maxRecDepth 20000 in
theorem abX11_rule_86 {C : Cx} {res : Int32 × Hp}   : ∀ (t : Nat) (v1 : Int32) (v2 : Int32) (v3 : Int32) (v4 : Int32), AW C cX11_rule mX11_rule qI res 86 [vr (some t), vi v1, vi v2, vi v3, vi v4] [] (bX11_rule_86   t v1 v2 v3 v4) := by
  intro t v1 v2 v3 v4
  refine aw_iload_n dX11_rule_86 rfl ?_
  refine aw_iconst (2 : Int32) dX11_rule_87 rfl ?_
  refine aw_icmp_ne 118 dX11_rule_88 (by decide) ?_ ?_
  · refine aw_iload dX11_rule_118 rfl ?_
    exact aw_iret dX11_rule_120 rfl
  · refine aw_iload_n dX11_rule_91 rfl ?_
    refine aw_i2l dX11_rule_92 ?_
    refine aw_lconst (0 : Int64) dX11_rule_93 rfl ?_
    refine aw_ldc2 dX11_rule_94 cj_X11_183 ?_
    refine aw_cS3 puI dX11_rule_97 (ctX11_in _ _ _) mcX11_in ml_X11_133 msX11_in rfl (by decide) (Nat.le_of_ble_eq_true rfl) (fun x97 => ?_)
    refine aw_if_eq 118 dX11_rule_100 (by decide) ?_ ?_
    · refine aw_iload dX11_rule_118 rfl ?_
      exact aw_iret dX11_rule_120 rfl
    · refine aw_aload_n dX11_rule_103 rfl ?_
      refine aw_gA dX11_rule_104 fl_X11_28 (fun x104 => ?_)
      refine aw_iload_n dX11_rule_107 rfl ?_
      refine aw_iald dX11_rule_108 (fun x108 => ?_)
      refine aw_istore dX11_rule_109 (by decide) ?_
      refine aw_aload_n dX11_rule_111 rfl ?_
      refine aw_gA dX11_rule_112 fl_X11_28 (fun x112 => ?_)
      refine aw_iload_n dX11_rule_115 rfl ?_
      refine aw_iload_n dX11_rule_116 rfl ?_
      refine aw_iast dX11_rule_117 (fun _ => ?_)
      refine aw_iload dX11_rule_118 rfl ?_
      exact aw_iret dX11_rule_120 rfl
set_option maxRecDepth 20000 in
theorem abX11_rule_51 {C : Cx} {res : Int32 × Hp}   : ∀ (t : Nat) (v1 : Int32) (v2 : Int32) (v3 : Int32) (v4 : Int32), AW C cX11_rule mX11_rule qI res 51 [vr (some t), vi v1, vi v2, vi v3, vi v4] [] (bX11_rule_51   t v1 v2 v3 v4) := by
  intro t v1 v2 v3 v4
  refine aw_iload_n dX11_rule_51 rfl ?_
  refine aw_iconst (1 : Int32) dX11_rule_52 rfl ?_
  refine aw_icmp_ne 86 dX11_rule_53 (by decide) ?_ ?_
  · refine aw_msk [true, true, true, true, true] ?_
    exact abX11_rule_86   t v1 v2 v3 v4
  · refine aw_iload_n dX11_rule_56 rfl ?_
    refine aw_i2l dX11_rule_57 ?_
    refine aw_lconst (1 : Int64) dX11_rule_58 rfl ?_
    refine aw_ldc2 dX11_rule_59 cj_X11_181 ?_
    refine aw_cS3 puI dX11_rule_62 (ctX11_in _ _ _) mcX11_in ml_X11_133 msX11_in rfl (by decide) (Nat.le_of_ble_eq_true rfl) (fun x62 => ?_)
    refine aw_if_eq 86 dX11_rule_65 (by decide) ?_ ?_
    · refine aw_msk [true, true, true, true, true] ?_
      exact abX11_rule_86   t v1 v2 v3 v4
    · refine aw_aload_n dX11_rule_68 rfl ?_
      refine aw_gA dX11_rule_69 fl_X11_25 (fun x69 => ?_)
      refine aw_iload_n dX11_rule_72 rfl ?_
      refine aw_iald dX11_rule_73 (fun x73 => ?_)
      refine aw_istore dX11_rule_74 (by decide) ?_
      refine aw_aload_n dX11_rule_76 rfl ?_
      refine aw_gA dX11_rule_77 fl_X11_25 (fun x77 => ?_)
      refine aw_iload_n dX11_rule_80 rfl ?_
      refine aw_iload_n dX11_rule_81 rfl ?_
      refine aw_iast dX11_rule_82 (fun _ => ?_)
      refine aw_goto 118 dX11_rule_83 (by decide) ?_
      refine aw_iload dX11_rule_118 rfl ?_
      exact aw_iret dX11_rule_120 rfl
set_option maxRecDepth 20000 in
theorem ctX11_rule (t : Nat) (v1 : Int32) (v2 : Int32) (v3 : Int32) : Ct yX11_rule cX11_rule mX11_rule qI [vr (some t), vi v1, vi v2, vi v3] (pX11_rule t v1 v2 v3) := by
  refine ct_go rfl rfl (fun h9 => by cases h9) (Nat.le_of_ble_eq_true rfl) (fun C res => ?_)
  refine aw_aload_n dX11_rule_0 rfl ?_
  refine aw_iload_n dX11_rule_1 rfl ?_
  refine aw_cV1 puI dX11_rule_2 (fun o => ctX11_noBridge o _) mcX11_noBridge ml_X11_158 rfl rfl msX11_noBridge rfl (by decide) (Nat.le_of_ble_eq_true rfl) (fun x2 => ?_)
  refine aw_if_eq 12 dX11_rule_5 (by decide) ?_ ?_
  · refine aw_sipush (-1002 : Int32) dX11_rule_12 rfl ?_
    refine aw_istore dX11_rule_15 (by decide) ?_
    refine aw_iload_n dX11_rule_17 rfl ?_
    refine aw_if_ne 51 dX11_rule_18 (by decide) ?_ ?_
    · refine aw_msk [true, true, true, true, true] ?_
      exact abX11_rule_51   t v1 v2 v3 ((-1002 : Int32))
    · refine aw_iload_n dX11_rule_21 rfl ?_
      refine aw_i2l dX11_rule_22 ?_
      refine aw_lconst (0 : Int64) dX11_rule_23 rfl ?_
      refine aw_ldc2 dX11_rule_24 cj_X11_131 ?_
      refine aw_cS3 puI dX11_rule_27 (ctX11_in _ _ _) mcX11_in ml_X11_133 msX11_in rfl (by decide) (Nat.le_of_ble_eq_true rfl) (fun x27 => ?_)
      refine aw_if_eq 51 dX11_rule_30 (by decide) ?_ ?_
      · refine aw_msk [true, true, true, true, true] ?_
        exact abX11_rule_51   t v1 v2 v3 ((-1002 : Int32))
      · refine aw_aload_n dX11_rule_33 rfl ?_
        refine aw_gA dX11_rule_34 fl_X11_22 (fun x34 => ?_)
        refine aw_iload_n dX11_rule_37 rfl ?_
        refine aw_iald dX11_rule_38 (fun x38 => ?_)
        refine aw_istore dX11_rule_39 (by decide) ?_
        refine aw_aload_n dX11_rule_41 rfl ?_
        refine aw_gA dX11_rule_42 fl_X11_22 (fun x42 => ?_)
        refine aw_iload_n dX11_rule_45 rfl ?_
        refine aw_iload_n dX11_rule_46 rfl ?_
        refine aw_iast dX11_rule_47 (fun _ => ?_)
        refine aw_goto 118 dX11_rule_48 (by decide) ?_
        refine aw_iload dX11_rule_118 rfl ?_
        exact aw_iret dX11_rule_120 rfl
  · refine aw_sipush (-1001 : Int32) dX11_rule_8 rfl ?_
    exact aw_iret dX11_rule_11 rfl
set_option maxRecDepth 20000 in
theorem abX11_spread_61 {C : Cx} {res : Int32 × Hp}   : ∀ (t : Nat) (v4 : Int32), AW C cX11_spread mX11_spread qI res 61 [vr (some t), vu, vu, vu, vi v4] [] (bX11_spread_61   t v4) := by
  intro t v4
  refine aw_iload dX11_spread_61 rfl ?_
  refine aw_bipush (20 : Int32) dX11_spread_63 rfl ?_
  refine aw_icmp_le 72 dX11_spread_65 (by decide) ?_ ?_
  · refine aw_iload dX11_spread_72 rfl ?_
    exact aw_iret dX11_spread_74 rfl
  · refine aw_iconst (-1 : Int32) dX11_spread_68 rfl ?_
    refine aw_goto 74 dX11_spread_69 (by decide) ?_
    exact aw_iret dX11_spread_74 rfl
set_option maxRecDepth 20000 in
theorem abX11_spread_34 {C : Cx} {res : Int32 × Hp}  {k34 : Nat → Int32 → Int32 → Int32 → Int32 → Mo Int32} (h34 : ∀ (t : Nat) (v1 : Int32) (v2 : Int32) (v3 : Int32) (v4 : Int32), AW C cX11_spread mX11_spread qI res 34 [vr (some t), vi v1, vi v2, vi v3, vi v4] [] (k34 t v1 v2 v3 v4)) : ∀ (t : Nat) (v1 : Int32) (v2 : Int32) (v3 : Int32) (v4 : Int32), AW C cX11_spread mX11_spread qI res 34 [vr (some t), vi v1, vi v2, vi v3, vi v4] [] (bX11_spread_34  k34 t v1 v2 v3 v4) := by
  intro t v1 v2 v3 v4
  refine aw_iload dX11_spread_34 rfl ?_
  refine aw_bipush (20 : Int32) dX11_spread_36 rfl ?_
  refine aw_icmp_gt 61 dX11_spread_38 (by decide) ?_ ?_
  · refine aw_msk [true, false, false, false, true] ?_
    exact abX11_spread_61   t v4
  · refine aw_aload_n dX11_spread_41 rfl ?_
    refine aw_iload_n dX11_spread_42 rfl ?_
    refine aw_iload_n dX11_spread_43 rfl ?_
    refine aw_iload_n dX11_spread_44 rfl ?_
    refine aw_bipush (100 : Int32) dX11_spread_45 rfl ?_
    refine aw_iload dX11_spread_47 rfl ?_
    refine aw_cV5 puI dX11_spread_49 (fun o => ctX11_holds o _ _ _ _ _) mcX11_holds ml_X11_252 rfl rfl msX11_holds rfl (by decide) (Nat.le_of_ble_eq_true rfl) (fun x49 => ?_)
    refine aw_if_ne 61 dX11_spread_52 (by decide) ?_ ?_
    · refine aw_msk [true, false, false, false, true] ?_
      exact abX11_spread_61   t v4
    · refine aw_iinc (v4 + (1 : Int32)) dX11_spread_55 rfl rfl (by decide) ?_
      refine aw_goto 34 dX11_spread_58 (by decide) ?_
      refine aw_msk [true, true, true, true, true] ?_
      exact h34 t v1 v2 v3 ((v4 + (1 : Int32)))
theorem afX11_spread_34 {C : Cx} {res : Int32 × Hp}   : ∀ (n : Nat) (t : Nat) (v1 : Int32) (v2 : Int32) (v3 : Int32) (v4 : Int32), AW C cX11_spread mX11_spread qI res 34 [vr (some t), vi v1, vi v2, vi v3, vi v4] [] (fX11_spread_34   n t v1 v2 v3 v4)
  | 0, _, _, _, _, _ => aw_fl
  | n + 1, t, v1, v2, v3, v4 => abX11_spread_34  (fun t v1 v2 v3 v4 => afX11_spread_34   n t v1 v2 v3 v4) t v1 v2 v3 v4
set_option maxRecDepth 20000 in
theorem ctX11_spread (t : Nat) (v1 : Int32) (v2 : Int32) (v3 : Int32) : Ct yX11_spread cX11_spread mX11_spread qI [vr (some t), vi v1, vi v2, vi v3] (pX11_spread t v1 v2 v3) := by
  refine ct_go rfl rfl (fun h9 => by cases h9) (Nat.le_of_ble_eq_true rfl) (fun C res => ?_)
  refine aw_aload_n dX11_spread_0 rfl ?_
  refine aw_iload_n dX11_spread_1 rfl ?_
  refine aw_cV1 puI dX11_spread_2 (fun o => ctX11_noBridge o _) mcX11_noBridge ml_X11_158 rfl rfl msX11_noBridge rfl (by decide) (Nat.le_of_ble_eq_true rfl) (fun x2 => ?_)
  refine aw_if_ne 16 dX11_spread_5 (by decide) ?_ ?_
  · refine aw_sipush (-1001 : Int32) dX11_spread_16 rfl ?_
    exact aw_iret dX11_spread_19 rfl
  · refine aw_aload_n dX11_spread_8 rfl ?_
    refine aw_iload_n dX11_spread_9 rfl ?_
    refine aw_cV1 puI dX11_spread_10 (fun o => ctX11_noTrain o _) mcX11_noTrain ml_X11_190 rfl rfl msX11_noTrain rfl (by decide) (Nat.le_of_ble_eq_true rfl) (fun x10 => ?_)
    refine aw_if_eq 20 dX11_spread_13 (by decide) ?_ ?_
    · refine aw_iload_n dX11_spread_20 rfl ?_
      refine aw_cS1 puI dX11_spread_21 (ctX11_isMode _) mcX11_isMode ml_X11_236 msX11_isMode rfl (by decide) (Nat.le_of_ble_eq_true rfl) (fun x21 => ?_)
      refine aw_if_ne 31 dX11_spread_24 (by decide) ?_ ?_
      · refine aw_iconst (0 : Int32) dX11_spread_31 rfl ?_
        refine aw_istore dX11_spread_32 (by decide) ?_
        refine aw_msk [true, true, true, true, true] ?_
        exact afX11_spread_34   FU t v1 v2 v3 ((0 : Int32))
      · refine aw_sipush (-1002 : Int32) dX11_spread_27 rfl ?_
        exact aw_iret dX11_spread_30 rfl
    · refine aw_sipush (-1001 : Int32) dX11_spread_16 rfl ?_
      exact aw_iret dX11_spread_19 rfl
set_option maxRecDepth 20000 in
theorem ctX11_told (t : Nat) (v1 : Int32) (v2 : Int32) : Ct yX11_told cX11_told mX11_told qI [vr (some t), vi v1, vi v2] (pX11_told t v1 v2) := by
  refine ct_go rfl rfl (fun h9 => by cases h9) (Nat.le_of_ble_eq_true rfl) (fun C res => ?_)
  refine aw_aload_n dX11_told_0 rfl ?_
  refine aw_iload_n dX11_told_1 rfl ?_
  refine aw_cV1 puI dX11_told_2 (fun o => ctX11_noBridge o _) mcX11_noBridge ml_X11_158 rfl rfl msX11_noBridge rfl (by decide) (Nat.le_of_ble_eq_true rfl) (fun x2 => ?_)
  refine aw_if_eq 12 dX11_told_5 (by decide) ?_ ?_
  · refine aw_iload_n dX11_told_12 rfl ?_
    refine aw_sws 105 [56, 63, 70, 77, 84, 91, 98] dX11_told_13 rfl (Nat.le_of_ble_eq_true rfl) (by decide) (by decide) rfl ?_ ⟨?_, ?_, ?_, ?_, ?_, ?_, ?_, trivial⟩
    · refine aw_sipush (-1002 : Int32) dX11_told_105 rfl ?_
      exact aw_iret dX11_told_108 rfl
    · refine aw_aload_n dX11_told_56 rfl ?_
      refine aw_gA dX11_told_57 fl_X11_7 (fun x57 => ?_)
      refine aw_iload_n dX11_told_60 rfl ?_
      refine aw_iald dX11_told_61 (fun x61 => ?_)
      exact aw_iret dX11_told_62 rfl
    · refine aw_aload_n dX11_told_63 rfl ?_
      refine aw_gA dX11_told_64 fl_X11_13 (fun x64 => ?_)
      refine aw_iload_n dX11_told_67 rfl ?_
      refine aw_iald dX11_told_68 (fun x68 => ?_)
      exact aw_iret dX11_told_69 rfl
    · refine aw_aload_n dX11_told_70 rfl ?_
      refine aw_gA dX11_told_71 fl_X11_16 (fun x71 => ?_)
      refine aw_iload_n dX11_told_74 rfl ?_
      refine aw_iald dX11_told_75 (fun x75 => ?_)
      exact aw_iret dX11_told_76 rfl
    · refine aw_aload_n dX11_told_77 rfl ?_
      refine aw_gA dX11_told_78 fl_X11_66 (fun x78 => ?_)
      refine aw_iload_n dX11_told_81 rfl ?_
      refine aw_iald dX11_told_82 (fun x82 => ?_)
      exact aw_iret dX11_told_83 rfl
    · refine aw_aload_n dX11_told_84 rfl ?_
      refine aw_gA dX11_told_85 fl_X11_22 (fun x85 => ?_)
      refine aw_iload_n dX11_told_88 rfl ?_
      refine aw_iald dX11_told_89 (fun x89 => ?_)
      exact aw_iret dX11_told_90 rfl
    · refine aw_aload_n dX11_told_91 rfl ?_
      refine aw_gA dX11_told_92 fl_X11_25 (fun x92 => ?_)
      refine aw_iload_n dX11_told_95 rfl ?_
      refine aw_iald dX11_told_96 (fun x96 => ?_)
      exact aw_iret dX11_told_97 rfl
    · refine aw_aload_n dX11_told_98 rfl ?_
      refine aw_gA dX11_told_99 fl_X11_28 (fun x99 => ?_)
      refine aw_iload_n dX11_told_102 rfl ?_
      refine aw_iald dX11_told_103 (fun x103 => ?_)
      exact aw_iret dX11_told_104 rfl
  · refine aw_sipush (-1001 : Int32) dX11_told_8 rfl ?_
    exact aw_iret dX11_told_11 rfl
set_option maxRecDepth 20000 in
theorem ctX11_total (t : Nat) (v1 : Int32) (v2 : Int32) (v3 : Int32) (v4 : Int32) (v5 : Int32) (v6 : Int32) : Ct yX11_total cX11_total mX11_total qL [vr (some t), vi v1, vi v2, vi v3, vi v4, vi v5, vi v6] (pX11_total t v1 v2 v3 v4 v5 v6) := by
  refine ct_go rfl rfl (fun h9 => by cases h9) (Nat.le_of_ble_eq_true rfl) (fun C res => ?_)
  refine aw_aload_n dX11_total_0 rfl ?_
  refine aw_iload_n dX11_total_1 rfl ?_
  refine aw_iload_n dX11_total_2 rfl ?_
  refine aw_cV2 puI dX11_total_3 (fun o => ctX11_noCheck o _ _) mcX11_noCheck ml_X11_233 rfl rfl msX11_noCheck rfl (by decide) (Nat.le_of_ble_eq_true rfl) (fun x3 => ?_)
  refine aw_if_ne 17 dX11_total_6 (by decide) ?_ ?_
  · refine aw_ldc2 dX11_total_17 cj_X11_166 ?_
    exact aw_lret dX11_total_20 rfl
  · refine aw_aload_n dX11_total_9 rfl ?_
    refine aw_iload_n dX11_total_10 rfl ?_
    refine aw_cV1 puI dX11_total_11 (fun o => ctX11_noTrain o _) mcX11_noTrain ml_X11_190 rfl rfl msX11_noTrain rfl (by decide) (Nat.le_of_ble_eq_true rfl) (fun x11 => ?_)
    refine aw_if_eq 21 dX11_total_14 (by decide) ?_ ?_
    · refine aw_iload dX11_total_21 rfl ?_
      refine aw_cS1 puI dX11_total_23 (ctX11_isMode _) mcX11_isMode ml_X11_236 msX11_isMode rfl (by decide) (Nat.le_of_ble_eq_true rfl) (fun x23 => ?_)
      refine aw_if_eq 51 dX11_total_26 (by decide) ?_ ?_
      · refine aw_ldc2 dX11_total_51 cj_X11_171 ?_
        exact aw_lret dX11_total_54 rfl
      · refine aw_iload dX11_total_29 rfl ?_
        refine aw_i2l dX11_total_31 ?_
        refine aw_lconst (0 : Int64) dX11_total_32 rfl ?_
        refine aw_lconst (1 : Int64) dX11_total_33 rfl ?_
        refine aw_cS3 puI dX11_total_34 (ctX11_in _ _ _) mcX11_in ml_X11_133 msX11_in rfl (by decide) (Nat.le_of_ble_eq_true rfl) (fun x34 => ?_)
        refine aw_if_eq 51 dX11_total_37 (by decide) ?_ ?_
        · refine aw_ldc2 dX11_total_51 cj_X11_171 ?_
          exact aw_lret dX11_total_54 rfl
        · refine aw_iload dX11_total_40 rfl ?_
          refine aw_i2l dX11_total_42 ?_
          refine aw_lconst (0 : Int64) dX11_total_43 rfl ?_
          refine aw_lconst (1 : Int64) dX11_total_44 rfl ?_
          refine aw_cS3 puI dX11_total_45 (ctX11_in _ _ _) mcX11_in ml_X11_133 msX11_in rfl (by decide) (Nat.le_of_ble_eq_true rfl) (fun x45 => ?_)
          refine aw_if_ne 55 dX11_total_48 (by decide) ?_ ?_
          · refine aw_aload_n dX11_total_55 rfl ?_
            refine aw_iload_n dX11_total_56 rfl ?_
            refine aw_iload_n dX11_total_57 rfl ?_
            refine aw_iload_n dX11_total_58 rfl ?_
            refine aw_iload dX11_total_59 rfl ?_
            refine aw_iload dX11_total_61 rfl ?_
            refine aw_cV5 puL dX11_total_63 (fun o => ctX11_totalOf o _ _ _ _ _) mcX11_totalOf ml_X11_239 rfl rfl msX11_totalOf rfl (by decide) (Nat.le_of_ble_eq_true rfl) (fun x63 => ?_)
            refine aw_ldc2 dX11_total_66 cj_X11_242 ?_
            refine aw_aload_n dX11_total_69 rfl ?_
            refine aw_gA dX11_total_70 fl_X11_35 (fun x70 => ?_)
            refine aw_iload_n dX11_total_73 rfl ?_
            refine aw_lald dX11_total_74 (fun x74 => ?_)
            refine aw_lmul dX11_total_75 ?_
            refine aw_iload dX11_total_76 rfl ?_
            refine aw_cS3 puL dX11_total_78 (ctX11_part _ _ _) mcX11_part ml_X11_177 msX11_part rfl (by decide) (Nat.le_of_ble_eq_true rfl) (fun x78 => ?_)
            exact aw_lret dX11_total_81 rfl
          · refine aw_ldc2 dX11_total_51 cj_X11_171 ?_
            exact aw_lret dX11_total_54 rfl
    · refine aw_ldc2 dX11_total_17 cj_X11_166 ?_
      exact aw_lret dX11_total_20 rfl
set_option maxRecDepth 20000 in
theorem ctX11_traffic (t : Nat) (v1 : Int32) (v2 : Int32) : Ct yX11_traffic cX11_traffic mX11_traffic qI [vr (some t), vi v1, vi v2] (pX11_traffic t v1 v2) := by
  refine ct_go rfl rfl (fun h9 => by cases h9) (Nat.le_of_ble_eq_true rfl) (fun C res => ?_)
  refine aw_aload_n dX11_traffic_0 rfl ?_
  refine aw_iload_n dX11_traffic_1 rfl ?_
  refine aw_cV1 puI dX11_traffic_2 (fun o => ctX11_noTrain o _) mcX11_noTrain ml_X11_190 rfl rfl msX11_noTrain rfl (by decide) (Nat.le_of_ble_eq_true rfl) (fun x2 => ?_)
  refine aw_if_eq 12 dX11_traffic_5 (by decide) ?_ ?_
  · refine aw_iload_n dX11_traffic_12 rfl ?_
    refine aw_i2l dX11_traffic_13 ?_
    refine aw_lconst (0 : Int64) dX11_traffic_14 rfl ?_
    refine aw_ldc2 dX11_traffic_15 cj_X11_306 ?_
    refine aw_cS3 puI dX11_traffic_18 (ctX11_in _ _ _) mcX11_in ml_X11_133 msX11_in rfl (by decide) (Nat.le_of_ble_eq_true rfl) (fun x18 => ?_)
    refine aw_if_ne 28 dX11_traffic_21 (by decide) ?_ ?_
    · refine aw_aload_n dX11_traffic_28 rfl ?_
      refine aw_gA dX11_traffic_29 fl_X11_53 (fun x29 => ?_)
      refine aw_iload_n dX11_traffic_32 rfl ?_
      refine aw_iald dX11_traffic_33 (fun x33 => ?_)
      refine aw_istore_n dX11_traffic_34 (by decide) ?_
      refine aw_aload_n dX11_traffic_35 rfl ?_
      refine aw_gA dX11_traffic_36 fl_X11_53 (fun x36 => ?_)
      refine aw_iload_n dX11_traffic_39 rfl ?_
      refine aw_iload_n dX11_traffic_40 rfl ?_
      refine aw_iast dX11_traffic_41 (fun _ => ?_)
      refine aw_iload_n dX11_traffic_42 rfl ?_
      exact aw_iret dX11_traffic_43 rfl
    · refine aw_sipush (-1002 : Int32) dX11_traffic_24 rfl ?_
      exact aw_iret dX11_traffic_27 rfl
  · refine aw_sipush (-1001 : Int32) dX11_traffic_8 rfl ?_
    exact aw_iret dX11_traffic_11 rfl
set_option maxRecDepth 20000 in
theorem ctX11_train (t : Nat) (v1 : Int32) : Ct yX11_train cX11_train mX11_train qI [vr (some t), vi v1] (pX11_train t v1) := by
  refine ct_go rfl rfl (fun h9 => by cases h9) (Nat.le_of_ble_eq_true rfl) (fun C res => ?_)
  refine aw_iload_n dX11_train_0 rfl ?_
  refine aw_i2l dX11_train_1 ?_
  refine aw_lconst (1 : Int64) dX11_train_2 rfl ?_
  refine aw_ldc2 dX11_train_3 cj_X11_188 ?_
  refine aw_cS3 puI dX11_train_6 (ctX11_in _ _ _) mcX11_in ml_X11_133 msX11_in rfl (by decide) (Nat.le_of_ble_eq_true rfl) (fun x6 => ?_)
  refine aw_if_ne 16 dX11_train_9 (by decide) ?_ ?_
  · refine aw_aload_n dX11_train_16 rfl ?_
    refine aw_gI dX11_train_17 fl_X11_185 (fun x17 => ?_)
    refine aw_bipush (8 : Int32) dX11_train_20 rfl ?_
    refine aw_icmp_ne 29 dX11_train_22 (by decide) ?_ ?_
    · refine aw_aload_n dX11_train_29 rfl ?_
      refine aw_gA dX11_train_30 fl_X11_44 (fun x30 => ?_)
      refine aw_aload_n dX11_train_33 rfl ?_
      refine aw_gI dX11_train_34 fl_X11_185 (fun x34 => ?_)
      refine aw_iconst (1 : Int32) dX11_train_37 rfl ?_
      refine aw_iast dX11_train_38 (fun _ => ?_)
      refine aw_aload_n dX11_train_39 rfl ?_
      refine aw_gA dX11_train_40 fl_X11_47 (fun x40 => ?_)
      refine aw_bipush (8 : Int32) dX11_train_43 rfl ?_
      refine aw_aload_n dX11_train_45 rfl ?_
      refine aw_gI dX11_train_46 fl_X11_185 (fun x46 => ?_)
      refine aw_imul dX11_train_49 ?_
      refine aw_iload_n dX11_train_50 rfl ?_
      refine aw_iast dX11_train_51 (fun _ => ?_)
      refine aw_aload_n dX11_train_52 rfl ?_
      refine aw_gA dX11_train_53 fl_X11_50 (fun x53 => ?_)
      refine aw_bipush (8 : Int32) dX11_train_56 rfl ?_
      refine aw_aload_n dX11_train_58 rfl ?_
      refine aw_gI dX11_train_59 fl_X11_185 (fun x59 => ?_)
      refine aw_imul dX11_train_62 ?_
      refine aw_iconst (0 : Int32) dX11_train_63 rfl ?_
      refine aw_iast dX11_train_64 (fun _ => ?_)
      refine aw_aload_n dX11_train_65 rfl ?_
      refine aw_gA dX11_train_66 fl_X11_53 (fun x66 => ?_)
      refine aw_aload_n dX11_train_69 rfl ?_
      refine aw_gI dX11_train_70 fl_X11_185 (fun x70 => ?_)
      refine aw_iconst (0 : Int32) dX11_train_73 rfl ?_
      refine aw_iast dX11_train_74 (fun _ => ?_)
      refine aw_aload_n dX11_train_75 rfl ?_
      refine aw_dup dX11_train_76 rfl ?_
      refine aw_gI dX11_train_77 fl_X11_185 (fun x77 => ?_)
      refine aw_iconst (1 : Int32) dX11_train_80 rfl ?_
      refine aw_iadd dX11_train_81 ?_
      refine aw_pI dX11_train_82 pl_X11_185 (fun _ => ?_)
      refine aw_aload_n dX11_train_85 rfl ?_
      refine aw_gI dX11_train_86 fl_X11_185 (fun x86 => ?_)
      refine aw_iconst (1 : Int32) dX11_train_89 rfl ?_
      refine aw_isub dX11_train_90 ?_
      exact aw_iret dX11_train_91 rfl
    · refine aw_sipush (-1004 : Int32) dX11_train_25 rfl ?_
      exact aw_iret dX11_train_28 rfl
  · refine aw_sipush (-1002 : Int32) dX11_train_12 rfl ?_
    exact aw_iret dX11_train_15 rfl
set_option maxRecDepth 20000 in
theorem abX11_usual_17 {C : Cx} {res : Int32 × Hp}   : ∀ (t : Nat) (v1 : Int32), AW C cX11_usual mX11_usual qI res 17 [vr (some t), vi v1, vu] [] (bX11_usual_17   t v1) := by
  intro t v1
  refine aw_aload_n dX11_usual_17 rfl ?_
  refine aw_gI dX11_usual_18 fl_X11_56 (fun x18 => ?_)
  refine aw_istore_n dX11_usual_21 (by decide) ?_
  refine aw_aload_n dX11_usual_22 rfl ?_
  refine aw_iload_n dX11_usual_23 rfl ?_
  refine aw_pI dX11_usual_24 pl_X11_56 (fun _ => ?_)
  refine aw_iload_n dX11_usual_27 rfl ?_
  exact aw_iret dX11_usual_28 rfl
set_option maxRecDepth 20000 in
theorem ctX11_usual (t : Nat) (v1 : Int32) : Ct yX11_usual cX11_usual mX11_usual qI [vr (some t), vi v1] (pX11_usual t v1) := by
  refine ct_go rfl rfl (fun h9 => by cases h9) (Nat.le_of_ble_eq_true rfl) (fun C res => ?_)
  refine aw_iload_n dX11_usual_0 rfl ?_
  refine aw_iconst (-1 : Int32) dX11_usual_1 rfl ?_
  refine aw_icmp_eq 17 dX11_usual_2 (by decide) ?_ ?_
  · refine aw_msk [true, true, false] ?_
    exact abX11_usual_17   t v1
  · refine aw_aload_n dX11_usual_5 rfl ?_
    refine aw_iload_n dX11_usual_6 rfl ?_
    refine aw_cV1 puI dX11_usual_7 (fun o => ctX11_noTrain o _) mcX11_noTrain ml_X11_190 rfl rfl msX11_noTrain rfl (by decide) (Nat.le_of_ble_eq_true rfl) (fun x7 => ?_)
    refine aw_if_eq 17 dX11_usual_10 (by decide) ?_ ?_
    · refine aw_msk [true, true, false] ?_
      exact abX11_usual_17   t v1
    · refine aw_sipush (-1001 : Int32) dX11_usual_13 rfl ?_
      exact aw_iret dX11_usual_16 rfl
set_option maxRecDepth 20000 in
theorem ctX11_cube (v0 : Int64) : Ct yX11_cube cX11_cube mX11_cube qL [vl v0] (pX11_cube v0) := by
  refine ct_go rfl rfl (fun h9 => by cases h9) (Nat.le_of_ble_eq_true rfl) (fun C res => ?_)
  refine aw_lload_n dX11_cube_0 rfl ?_
  refine aw_lload_n dX11_cube_1 rfl ?_
  refine aw_lmul dX11_cube_2 ?_
  refine aw_lload_n dX11_cube_3 rfl ?_
  refine aw_lmul dX11_cube_4 ?_
  exact aw_lret dX11_cube_5 rfl
set_option maxRecDepth 20000 in
theorem abX11_isIdle_69 {C : Cx} {res : Int32 × Hp}   : ∀ (t : Nat) (s0 : Int32) (s1 : Int32), AW C cX11_isIdle mX11_isIdle qI res 69 [vr (some t), vu, vu, vu, vu, vu] [vi s1, vi s0] (bX11_isIdle_69   t s0 s1) := by
  intro t s0 s1
  refine aw_icmp_ne 76 dX11_isIdle_69 (by decide) ?_ ?_
  · refine aw_iconst (0 : Int32) dX11_isIdle_76 rfl ?_
    exact aw_zret dX11_isIdle_77 rfl
  · refine aw_iconst (1 : Int32) dX11_isIdle_72 rfl ?_
    refine aw_goto 77 dX11_isIdle_73 (by decide) ?_
    exact aw_zret dX11_isIdle_77 rfl
set_option maxRecDepth 20000 in
theorem abX11_isIdle_57 {C : Cx} {res : Int32 × Hp}   : ∀ (t : Nat) (v4 : Int64) (s0 : Int32), AW C cX11_isIdle mX11_isIdle qI res 57 [vr (some t), vu, vu, vu, vl v4, vu] [vi s0] (bX11_isIdle_57   t v4 s0) := by
  intro t v4 s0
  refine aw_lload dX11_isIdle_57 rfl ?_
  refine aw_lconst (0 : Int64) dX11_isIdle_59 rfl ?_
  refine aw_lle 68 dX11_isIdle_60 dX11_isIdle_61 (by decide) ?_ ?_
  · refine aw_iconst (0 : Int32) dX11_isIdle_68 rfl ?_
    refine aw_msk [true, false, false, false, false, false] ?_
    exact abX11_isIdle_69   t s0 ((0 : Int32))
  · refine aw_iconst (1 : Int32) dX11_isIdle_64 rfl ?_
    refine aw_goto 69 dX11_isIdle_65 (by decide) ?_
    refine aw_msk [true, false, false, false, false, false] ?_
    exact abX11_isIdle_69   t s0 ((1 : Int32))
set_option maxRecDepth 20000 in
theorem ctX11_isIdle (t : Nat) (v1 : Int32) : Ct yX11_isIdle cX11_isIdle mX11_isIdle qI [vr (some t), vi v1] (pX11_isIdle t v1) := by
  refine ct_go rfl rfl (fun h9 => by cases h9) (Nat.le_of_ble_eq_true rfl) (fun C res => ?_)
  refine aw_aload_n dX11_isIdle_0 rfl ?_
  refine aw_gA dX11_isIdle_1 fl_X11_106 (fun x1 => ?_)
  refine aw_iload_n dX11_isIdle_4 rfl ?_
  refine aw_lald dX11_isIdle_5 (fun x5 => ?_)
  refine aw_aload_n dX11_isIdle_6 rfl ?_
  refine aw_gA dX11_isIdle_7 fl_X11_106 (fun x7 => ?_)
  refine aw_iload_n dX11_isIdle_10 rfl ?_
  refine aw_iconst (1 : Int32) dX11_isIdle_11 rfl ?_
  refine aw_isub dX11_isIdle_12 ?_
  refine aw_lald dX11_isIdle_13 (fun x13 => ?_)
  refine aw_lsub dX11_isIdle_14 ?_
  refine aw_lstore_n dX11_isIdle_15 (by decide) ?_
  refine aw_aload_n dX11_isIdle_16 rfl ?_
  refine aw_gA dX11_isIdle_17 fl_X11_106 (fun x17 => ?_)
  refine aw_iload_n dX11_isIdle_20 rfl ?_
  refine aw_iconst (1 : Int32) dX11_isIdle_21 rfl ?_
  refine aw_iadd dX11_isIdle_22 ?_
  refine aw_lald dX11_isIdle_23 (fun x23 => ?_)
  refine aw_aload_n dX11_isIdle_24 rfl ?_
  refine aw_gA dX11_isIdle_25 fl_X11_106 (fun x25 => ?_)
  refine aw_iload_n dX11_isIdle_28 rfl ?_
  refine aw_lald dX11_isIdle_29 (fun x29 => ?_)
  refine aw_lsub dX11_isIdle_30 ?_
  refine aw_lstore dX11_isIdle_31 (by decide) ?_
  refine aw_lload_n dX11_isIdle_33 rfl ?_
  refine aw_lconst (0 : Int64) dX11_isIdle_34 rfl ?_
  refine aw_leq 72 dX11_isIdle_35 dX11_isIdle_36 (by decide) ?_ ?_
  · refine aw_iconst (1 : Int32) dX11_isIdle_72 rfl ?_
    refine aw_goto 77 dX11_isIdle_73 (by decide) ?_
    exact aw_zret dX11_isIdle_77 rfl
  · refine aw_lload dX11_isIdle_39 rfl ?_
    refine aw_lconst (0 : Int64) dX11_isIdle_41 rfl ?_
    refine aw_leq 72 dX11_isIdle_42 dX11_isIdle_43 (by decide) ?_ ?_
    · refine aw_iconst (1 : Int32) dX11_isIdle_72 rfl ?_
      refine aw_goto 77 dX11_isIdle_73 (by decide) ?_
      exact aw_zret dX11_isIdle_77 rfl
    · refine aw_lload_n dX11_isIdle_46 rfl ?_
      refine aw_lconst (0 : Int64) dX11_isIdle_47 rfl ?_
      refine aw_lle 56 dX11_isIdle_48 dX11_isIdle_49 (by decide) ?_ ?_
      · refine aw_iconst (0 : Int32) dX11_isIdle_56 rfl ?_
        refine aw_msk [true, false, false, false, true, false] ?_
        exact abX11_isIdle_57   t ((x23 - x29)) ((0 : Int32))
      · refine aw_iconst (1 : Int32) dX11_isIdle_52 rfl ?_
        refine aw_goto 57 dX11_isIdle_53 (by decide) ?_
        refine aw_msk [true, false, false, false, true, false] ?_
        exact abX11_isIdle_57   t ((x23 - x29)) ((1 : Int32))
set_option maxRecDepth 20000 in
theorem abX11_out_2 {C : Cx} {res : Unit × Hp}  {k2 : Nat → Int32 → Int32 → Mo Unit} (h2 : ∀ (t : Nat) (v2 : Int32) (v3 : Int32), AW C cX11_out mX11_out qV res 2 [vr (some t), vu, vi v2, vi v3] [] (k2 t v2 v3)) : ∀ (t : Nat) (v2 : Int32) (v3 : Int32), AW C cX11_out mX11_out qV res 2 [vr (some t), vu, vi v2, vi v3] [] (bX11_out_2  k2 t v2 v3) := by
  intro t v2 v3
  refine aw_iload_n dX11_out_2 rfl ?_
  refine aw_iload_n dX11_out_3 rfl ?_
  refine aw_iadd dX11_out_4 ?_
  refine aw_aload_n dX11_out_5 rfl ?_
  refine aw_gI dX11_out_6 fl_X11_282 (fun x6 => ?_)
  refine aw_icmp_ge 32 dX11_out_9 (by decide) ?_ ?_
  · refine aw_aload_n dX11_out_32 rfl ?_
    refine aw_dup dX11_out_33 rfl ?_
    refine aw_gI dX11_out_34 fl_X11_282 (fun x34 => ?_)
    refine aw_iload_n dX11_out_37 rfl ?_
    refine aw_isub dX11_out_38 ?_
    refine aw_pI dX11_out_39 pl_X11_282 (fun _ => ?_)
    exact aw_vret dX11_out_42 rfl
  · refine aw_aload_n dX11_out_12 rfl ?_
    refine aw_gA dX11_out_13 fl_X11_106 (fun x13 => ?_)
    refine aw_iload_n dX11_out_16 rfl ?_
    refine aw_aload_n dX11_out_17 rfl ?_
    refine aw_gA dX11_out_18 fl_X11_106 (fun x18 => ?_)
    refine aw_iload_n dX11_out_21 rfl ?_
    refine aw_iload_n dX11_out_22 rfl ?_
    refine aw_iadd dX11_out_23 ?_
    refine aw_lald dX11_out_24 (fun x24 => ?_)
    refine aw_last dX11_out_25 (fun _ => ?_)
    refine aw_iinc (v3 + (1 : Int32)) dX11_out_26 rfl rfl (by decide) ?_
    refine aw_goto 2 dX11_out_29 (by decide) ?_
    refine aw_msk [true, false, true, true] ?_
    exact h2 t v2 ((v3 + (1 : Int32)))
theorem afX11_out_2 {C : Cx} {res : Unit × Hp}   : ∀ (n : Nat) (t : Nat) (v2 : Int32) (v3 : Int32), AW C cX11_out mX11_out qV res 2 [vr (some t), vu, vi v2, vi v3] [] (fX11_out_2   n t v2 v3)
  | 0, _, _, _ => aw_fl
  | n + 1, t, v2, v3 => abX11_out_2  (fun t v2 v3 => afX11_out_2   n t v2 v3) t v2 v3
set_option maxRecDepth 20000 in
theorem ctX11_out (t : Nat) (v1 : Int32) (v2 : Int32) : Ct yX11_out cX11_out mX11_out qV [vr (some t), vi v1, vi v2] (pX11_out t v1 v2) := by
  refine ct_go rfl rfl (fun h9 => by cases h9) (Nat.le_of_ble_eq_true rfl) (fun C res => ?_)
  refine aw_iload_n dX11_out_0 rfl ?_
  refine aw_istore_n dX11_out_1 (by decide) ?_
  refine aw_msk [true, false, true, true] ?_
  exact afX11_out_2   FU t v2 v1
set_option maxRecDepth 20000 in
theorem ctX11_stepAt (t : Nat) (v1 : Int32) : Ct yX11_stepAt cX11_stepAt mX11_stepAt qL [vr (some t), vi v1] (pX11_stepAt t v1) := by
  refine ct_go rfl rfl (fun h9 => by cases h9) (Nat.le_of_ble_eq_true rfl) (fun C res => ?_)
  refine aw_aload_n dX11_stepAt_0 rfl ?_
  refine aw_gA dX11_stepAt_1 fl_X11_106 (fun x1 => ?_)
  refine aw_iload_n dX11_stepAt_4 rfl ?_
  refine aw_iconst (1 : Int32) dX11_stepAt_5 rfl ?_
  refine aw_iadd dX11_stepAt_6 ?_
  refine aw_lald dX11_stepAt_7 (fun x7 => ?_)
  refine aw_aload_n dX11_stepAt_8 rfl ?_
  refine aw_gA dX11_stepAt_9 fl_X11_106 (fun x9 => ?_)
  refine aw_iload_n dX11_stepAt_12 rfl ?_
  refine aw_lald dX11_stepAt_13 (fun x13 => ?_)
  refine aw_lsub dX11_stepAt_14 ?_
  refine aw_cS1 puL dX11_stepAt_15 (ctX11_size _) mcX11_size ml_X11_109 msX11_size rfl (by decide) (Nat.le_of_ble_eq_true rfl) (fun x15 => ?_)
  exact aw_lret dX11_stepAt_18 rfl
set_option maxRecDepth 20000 in
theorem abX11_wearOf_255 {C : Cx} {res : Int64 × Hp}  {k255 : Nat → Int32 → Int64 → Int32 → Mo Int64} (h255 : ∀ (t : Nat) (v1 : Int32) (v6 : Int64) (v8 : Int32), AW C cX11_wearOf mX11_wearOf qL res 255 [vr (some t), vi v1, vu, vu, vu, vu, vl v6, vu, vi v8, vu] [] (k255 t v1 v6 v8)) : ∀ (t : Nat) (v1 : Int32) (v6 : Int64) (v8 : Int32), AW C cX11_wearOf mX11_wearOf qL res 255 [vr (some t), vi v1, vu, vu, vu, vu, vl v6, vu, vi v8, vu] [] (bX11_wearOf_255  k255 t v1 v6 v8) := by
  intro t v1 v6 v8
  refine aw_iload dX11_wearOf_255 rfl ?_
  refine aw_iconst (1 : Int32) dX11_wearOf_257 rfl ?_
  refine aw_iadd dX11_wearOf_258 ?_
  refine aw_aload_n dX11_wearOf_259 rfl ?_
  refine aw_gI dX11_wearOf_260 fl_X11_282 (fun x260 => ?_)
  refine aw_icmp_ge 293 dX11_wearOf_263 (by decide) ?_ ?_
  · refine aw_lload dX11_wearOf_293 rfl ?_
    exact aw_lret dX11_wearOf_295 rfl
  · refine aw_lload dX11_wearOf_266 rfl ?_
    refine aw_aload_n dX11_wearOf_268 rfl ?_
    refine aw_iload dX11_wearOf_269 rfl ?_
    refine aw_cV1 puL dX11_wearOf_271 (fun o => ctX11_stepAt o _) mcX11_stepAt ml_X11_294 rfl rfl msX11_stepAt rfl (by decide) (Nat.le_of_ble_eq_true rfl) (fun x271 => ?_)
    refine aw_aload_n dX11_wearOf_274 rfl ?_
    refine aw_gA dX11_wearOf_275 fl_X11_35 (fun x275 => ?_)
    refine aw_iload_n dX11_wearOf_278 rfl ?_
    refine aw_lald dX11_wearOf_279 (fun x279 => ?_)
    refine aw_ldiv dX11_wearOf_280 (fun x280 => ?_)
    refine aw_cS1 puL dX11_wearOf_281 (ctX11_cube _) mcX11_cube ml_X11_297 msX11_cube rfl (by decide) (Nat.le_of_ble_eq_true rfl) (fun x281 => ?_)
    refine aw_ladd dX11_wearOf_284 ?_
    refine aw_lstore dX11_wearOf_285 (by decide) ?_
    refine aw_iinc (v8 + (1 : Int32)) dX11_wearOf_287 rfl rfl (by decide) ?_
    refine aw_goto 255 dX11_wearOf_290 (by decide) ?_
    refine aw_msk [true, true, false, false, false, false, true, false, true, false] ?_
    exact h255 t v1 ((v6 + x281)) ((v8 + (1 : Int32)))
theorem afX11_wearOf_255 {C : Cx} {res : Int64 × Hp}   : ∀ (n : Nat) (t : Nat) (v1 : Int32) (v6 : Int64) (v8 : Int32), AW C cX11_wearOf mX11_wearOf qL res 255 [vr (some t), vi v1, vu, vu, vu, vu, vl v6, vu, vi v8, vu] [] (fX11_wearOf_255   n t v1 v6 v8)
  | 0, _, _, _, _ => aw_fl
  | n + 1, t, v1, v6, v8 => abX11_wearOf_255  (fun t v1 v6 v8 => afX11_wearOf_255   n t v1 v6 v8) t v1 v6 v8
set_option maxRecDepth 20000 in
theorem abX11_wearOf_143 {C : Cx} {res : Int64 × Hp}  {k143 : Nat → Int32 → Int32 → Int64 → Mo Int64} (h143 : ∀ (t : Nat) (v1 : Int32) (v5 : Int32) (v6 : Int64), AW C cX11_wearOf mX11_wearOf qL res 143 [vr (some t), vi v1, vu, vu, vu, vi v5, vl v6, vu, vu, vu] [] (k143 t v1 v5 v6)) : ∀ (t : Nat) (v1 : Int32) (v5 : Int32) (v6 : Int64), AW C cX11_wearOf mX11_wearOf qL res 143 [vr (some t), vi v1, vu, vu, vu, vi v5, vl v6, vu, vu, vu] [] (bX11_wearOf_143  k143 t v1 v5 v6) := by
  intro t v1 v5 v6
  refine aw_iload dX11_wearOf_143 rfl ?_
  refine aw_iconst (3 : Int32) dX11_wearOf_145 rfl ?_
  refine aw_iadd dX11_wearOf_146 ?_
  refine aw_aload_n dX11_wearOf_147 rfl ?_
  refine aw_gI dX11_wearOf_148 fl_X11_282 (fun x148 => ?_)
  refine aw_icmp_ge 242 dX11_wearOf_151 (by decide) ?_ ?_
  · refine aw_aload_n dX11_wearOf_242 rfl ?_
    refine aw_aload_n dX11_wearOf_243 rfl ?_
    refine aw_gI dX11_wearOf_244 fl_X11_282 (fun x244 => ?_)
    refine aw_iconst (1 : Int32) dX11_wearOf_247 rfl ?_
    refine aw_isub dX11_wearOf_248 ?_
    refine aw_pI dX11_wearOf_249 pl_X11_300 (fun _ => ?_)
    refine aw_iconst (0 : Int32) dX11_wearOf_252 rfl ?_
    refine aw_istore dX11_wearOf_253 (by decide) ?_
    refine aw_msk [true, true, false, false, false, false, true, false, true, false] ?_
    exact afX11_wearOf_255   FU t v1 v6 ((0 : Int32))
  · refine aw_aload_n dX11_wearOf_154 rfl ?_
    refine aw_iload dX11_wearOf_155 rfl ?_
    refine aw_iconst (1 : Int32) dX11_wearOf_157 rfl ?_
    refine aw_iadd dX11_wearOf_158 ?_
    refine aw_cV1 puL dX11_wearOf_159 (fun o => ctX11_stepAt o _) mcX11_stepAt ml_X11_294 rfl rfl msX11_stepAt rfl (by decide) (Nat.le_of_ble_eq_true rfl) (fun x159 => ?_)
    refine aw_lstore dX11_wearOf_162 (by decide) ?_
    refine aw_lload dX11_wearOf_164 rfl ?_
    refine aw_aload_n dX11_wearOf_166 rfl ?_
    refine aw_iload dX11_wearOf_167 rfl ?_
    refine aw_cV1 puL dX11_wearOf_169 (fun o => ctX11_stepAt o _) mcX11_stepAt ml_X11_294 rfl rfl msX11_stepAt rfl (by decide) (Nat.le_of_ble_eq_true rfl) (fun x169 => ?_)
    refine aw_lgt 236 dX11_wearOf_172 dX11_wearOf_173 (by decide) ?_ ?_
    · refine aw_iinc (v5 + (1 : Int32)) dX11_wearOf_236 rfl rfl (by decide) ?_
      refine aw_goto 143 dX11_wearOf_239 (by decide) ?_
      refine aw_msk [true, true, false, false, false, true, true, false, false, false] ?_
      exact h143 t v1 ((v5 + (1 : Int32))) v6
    · refine aw_lload dX11_wearOf_176 rfl ?_
      refine aw_aload_n dX11_wearOf_178 rfl ?_
      refine aw_iload dX11_wearOf_179 rfl ?_
      refine aw_iconst (2 : Int32) dX11_wearOf_181 rfl ?_
      refine aw_iadd dX11_wearOf_182 ?_
      refine aw_cV1 puL dX11_wearOf_183 (fun o => ctX11_stepAt o _) mcX11_stepAt ml_X11_294 rfl rfl msX11_stepAt rfl (by decide) (Nat.le_of_ble_eq_true rfl) (fun x183 => ?_)
      refine aw_lgt 236 dX11_wearOf_186 dX11_wearOf_187 (by decide) ?_ ?_
      · refine aw_iinc (v5 + (1 : Int32)) dX11_wearOf_236 rfl rfl (by decide) ?_
        refine aw_goto 143 dX11_wearOf_239 (by decide) ?_
        refine aw_msk [true, true, false, false, false, true, true, false, false, false] ?_
        exact h143 t v1 ((v5 + (1 : Int32))) v6
      · refine aw_lload dX11_wearOf_190 rfl ?_
        refine aw_ldc2 dX11_wearOf_192 cj_X11_129 ?_
        refine aw_lload dX11_wearOf_195 rfl ?_
        refine aw_aload_n dX11_wearOf_197 rfl ?_
        refine aw_gA dX11_wearOf_198 fl_X11_35 (fun x198 => ?_)
        refine aw_iload_n dX11_wearOf_201 rfl ?_
        refine aw_lald dX11_wearOf_202 (fun x202 => ?_)
        refine aw_ldiv dX11_wearOf_203 (fun x203 => ?_)
        refine aw_cS1 puL dX11_wearOf_204 (ctX11_cube _) mcX11_cube ml_X11_297 msX11_cube rfl (by decide) (Nat.le_of_ble_eq_true rfl) (fun x204 => ?_)
        refine aw_lmul dX11_wearOf_207 ?_
        refine aw_ladd dX11_wearOf_208 ?_
        refine aw_lstore dX11_wearOf_209 (by decide) ?_
        refine aw_aload_n dX11_wearOf_211 rfl ?_
        refine aw_dup dX11_wearOf_212 rfl ?_
        refine aw_gI dX11_wearOf_213 fl_X11_291 (fun x213 => ?_)
        refine aw_iconst (1 : Int32) dX11_wearOf_216 rfl ?_
        refine aw_iadd dX11_wearOf_217 ?_
        refine aw_pI dX11_wearOf_218 pl_X11_291 (fun _ => ?_)
        refine aw_aload_n dX11_wearOf_221 rfl ?_
        refine aw_iload dX11_wearOf_222 rfl ?_
        refine aw_iconst (1 : Int32) dX11_wearOf_224 rfl ?_
        refine aw_iadd dX11_wearOf_225 ?_
        refine aw_iconst (2 : Int32) dX11_wearOf_226 rfl ?_
        refine aw_cV2 puV dX11_wearOf_227 (fun o => ctX11_out o _ _) mcX11_out ml_X11_288 rfl rfl msX11_out rfl (by decide) (Nat.le_of_ble_eq_true rfl) (fun _ => ?_)
        refine aw_iconst (0 : Int32) dX11_wearOf_230 rfl ?_
        refine aw_istore dX11_wearOf_231 (by decide) ?_
        refine aw_goto 239 dX11_wearOf_233 (by decide) ?_
        refine aw_goto 143 dX11_wearOf_239 (by decide) ?_
        refine aw_msk [true, true, false, false, false, true, true, false, false, false] ?_
        exact h143 t v1 ((0 : Int32)) ((v6 + ((2 : Int64) * x204)))
theorem afX11_wearOf_143 {C : Cx} {res : Int64 × Hp}   : ∀ (n : Nat) (t : Nat) (v1 : Int32) (v5 : Int32) (v6 : Int64), AW C cX11_wearOf mX11_wearOf qL res 143 [vr (some t), vi v1, vu, vu, vu, vi v5, vl v6, vu, vu, vu] [] (fX11_wearOf_143   n t v1 v5 v6)
  | 0, _, _, _, _ => aw_fl
  | n + 1, t, v1, v5, v6 => abX11_wearOf_143  (fun t v1 v5 v6 => afX11_wearOf_143   n t v1 v5 v6) t v1 v5 v6
set_option maxRecDepth 20000 in
theorem abX11_wearOf_93 {C : Cx} {res : Int64 × Hp}  {k93 : Nat → Int32 → Int32 → Mo Int64} (h93 : ∀ (t : Nat) (v1 : Int32) (v5 : Int32), AW C cX11_wearOf mX11_wearOf qL res 93 [vr (some t), vi v1, vu, vu, vu, vi v5, vu, vu, vu, vu] [] (k93 t v1 v5)) : ∀ (t : Nat) (v1 : Int32) (v5 : Int32), AW C cX11_wearOf mX11_wearOf qL res 93 [vr (some t), vi v1, vu, vu, vu, vi v5, vu, vu, vu, vu] [] (bX11_wearOf_93  k93 t v1 v5) := by
  intro t v1 v5
  refine aw_iload dX11_wearOf_93 rfl ?_
  refine aw_iconst (1 : Int32) dX11_wearOf_95 rfl ?_
  refine aw_iadd dX11_wearOf_96 ?_
  refine aw_aload_n dX11_wearOf_97 rfl ?_
  refine aw_gI dX11_wearOf_98 fl_X11_282 (fun x98 => ?_)
  refine aw_icmp_ge 132 dX11_wearOf_101 (by decide) ?_ ?_
  · refine aw_lconst (0 : Int64) dX11_wearOf_132 rfl ?_
    refine aw_lstore dX11_wearOf_133 (by decide) ?_
    refine aw_aload_n dX11_wearOf_135 rfl ?_
    refine aw_iconst (0 : Int32) dX11_wearOf_136 rfl ?_
    refine aw_pI dX11_wearOf_137 pl_X11_291 (fun _ => ?_)
    refine aw_iconst (0 : Int32) dX11_wearOf_140 rfl ?_
    refine aw_istore dX11_wearOf_141 (by decide) ?_
    refine aw_msk [true, true, false, false, false, true, true, false, false, false] ?_
    exact afX11_wearOf_143   FU t v1 ((0 : Int32)) ((0 : Int64))
  · refine aw_aload_n dX11_wearOf_104 rfl ?_
    refine aw_iload dX11_wearOf_105 rfl ?_
    refine aw_cV1 puI dX11_wearOf_107 (fun o => ctX11_isIdle o _) mcX11_isIdle ml_X11_285 rfl rfl msX11_isIdle rfl (by decide) (Nat.le_of_ble_eq_true rfl) (fun x107 => ?_)
    refine aw_if_eq 126 dX11_wearOf_110 (by decide) ?_ ?_
    · refine aw_iinc (v5 + (1 : Int32)) dX11_wearOf_126 rfl rfl (by decide) ?_
      refine aw_goto 93 dX11_wearOf_129 (by decide) ?_
      refine aw_msk [true, true, false, false, false, true, false, false, false, false] ?_
      exact h93 t v1 ((v5 + (1 : Int32)))
    · refine aw_aload_n dX11_wearOf_113 rfl ?_
      refine aw_iload dX11_wearOf_114 rfl ?_
      refine aw_iconst (1 : Int32) dX11_wearOf_116 rfl ?_
      refine aw_cV2 puV dX11_wearOf_117 (fun o => ctX11_out o _ _) mcX11_out ml_X11_288 rfl rfl msX11_out rfl (by decide) (Nat.le_of_ble_eq_true rfl) (fun _ => ?_)
      refine aw_iconst (1 : Int32) dX11_wearOf_120 rfl ?_
      refine aw_istore dX11_wearOf_121 (by decide) ?_
      refine aw_goto 93 dX11_wearOf_123 (by decide) ?_
      refine aw_msk [true, true, false, false, false, true, false, false, false, false] ?_
      exact h93 t v1 ((1 : Int32))
theorem afX11_wearOf_93 {C : Cx} {res : Int64 × Hp}   : ∀ (n : Nat) (t : Nat) (v1 : Int32) (v5 : Int32), AW C cX11_wearOf mX11_wearOf qL res 93 [vr (some t), vi v1, vu, vu, vu, vi v5, vu, vu, vu, vu] [] (fX11_wearOf_93   n t v1 v5)
  | 0, _, _, _ => aw_fl
  | n + 1, t, v1, v5 => abX11_wearOf_93  (fun t v1 v5 => afX11_wearOf_93   n t v1 v5) t v1 v5
set_option maxRecDepth 20000 in
theorem abX11_wearOf_15 {C : Cx} {res : Int64 × Hp}  {k15 : Nat → Int32 → Int32 → Int32 → Int32 → Int32 → Mo Int64} (h15 : ∀ (t : Nat) (v1 : Int32) (v2 : Int32) (v3 : Int32) (v4 : Int32) (v5 : Int32), AW C cX11_wearOf mX11_wearOf qL res 15 [vr (some t), vi v1, vi v2, vi v3, vi v4, vi v5, vu, vu, vu, vu] [] (k15 t v1 v2 v3 v4 v5)) : ∀ (t : Nat) (v1 : Int32) (v2 : Int32) (v3 : Int32) (v4 : Int32) (v5 : Int32), AW C cX11_wearOf mX11_wearOf qL res 15 [vr (some t), vi v1, vi v2, vi v3, vi v4, vi v5, vu, vu, vu, vu] [] (bX11_wearOf_15  k15 t v1 v2 v3 v4 v5) := by
  intro t v1 v2 v3 v4 v5
  refine aw_iload dX11_wearOf_15 rfl ?_
  refine aw_aload_n dX11_wearOf_17 rfl ?_
  refine aw_gA dX11_wearOf_18 fl_X11_7 (fun x18 => ?_)
  refine aw_iload_n dX11_wearOf_21 rfl ?_
  refine aw_iald dX11_wearOf_22 (fun x22 => ?_)
  refine aw_aload_n dX11_wearOf_23 rfl ?_
  refine aw_iload dX11_wearOf_24 rfl ?_
  refine aw_cV1 puI dX11_wearOf_26 (fun o => ctX11_allGaps o _) mcX11_allGaps ml_X11_202 rfl rfl msX11_allGaps rfl (by decide) (Nat.le_of_ble_eq_true rfl) (fun x26 => ?_)
  refine aw_iadd dX11_wearOf_29 ?_
  refine aw_icmp_gt 70 dX11_wearOf_30 (by decide) ?_ ?_
  · refine aw_aload_n dX11_wearOf_70 rfl ?_
    refine aw_gA dX11_wearOf_71 fl_X11_106 (fun x71 => ?_)
    refine aw_aload_n dX11_wearOf_74 rfl ?_
    refine aw_gI dX11_wearOf_75 fl_X11_282 (fun x75 => ?_)
    refine aw_lconst (0 : Int64) dX11_wearOf_78 rfl ?_
    refine aw_last dX11_wearOf_79 (fun _ => ?_)
    refine aw_aload_n dX11_wearOf_80 rfl ?_
    refine aw_dup dX11_wearOf_81 rfl ?_
    refine aw_gI dX11_wearOf_82 fl_X11_282 (fun x82 => ?_)
    refine aw_iconst (1 : Int32) dX11_wearOf_85 rfl ?_
    refine aw_iadd dX11_wearOf_86 ?_
    refine aw_pI dX11_wearOf_87 pl_X11_282 (fun _ => ?_)
    refine aw_iconst (1 : Int32) dX11_wearOf_90 rfl ?_
    refine aw_istore dX11_wearOf_91 (by decide) ?_
    refine aw_msk [true, true, false, false, false, true, false, false, false, false] ?_
    exact afX11_wearOf_93   FU t v1 ((1 : Int32))
  · refine aw_aload_n dX11_wearOf_33 rfl ?_
    refine aw_gA dX11_wearOf_34 fl_X11_106 (fun x34 => ?_)
    refine aw_aload_n dX11_wearOf_37 rfl ?_
    refine aw_gI dX11_wearOf_38 fl_X11_282 (fun x38 => ?_)
    refine aw_aload_n dX11_wearOf_41 rfl ?_
    refine aw_iload_n dX11_wearOf_42 rfl ?_
    refine aw_iload_n dX11_wearOf_43 rfl ?_
    refine aw_iload_n dX11_wearOf_44 rfl ?_
    refine aw_iload dX11_wearOf_45 rfl ?_
    refine aw_iconst (0 : Int32) dX11_wearOf_47 rfl ?_
    refine aw_iload dX11_wearOf_48 rfl ?_
    refine aw_cV6 puL dX11_wearOf_50 (fun o => ctX11_effectAt o _ _ _ _ _ _) mcX11_effectAt ml_X11_209 rfl rfl msX11_effectAt rfl (by decide) (Nat.le_of_ble_eq_true rfl) (fun x50 => ?_)
    refine aw_last dX11_wearOf_53 (fun _ => ?_)
    refine aw_aload_n dX11_wearOf_54 rfl ?_
    refine aw_dup dX11_wearOf_55 rfl ?_
    refine aw_gI dX11_wearOf_56 fl_X11_282 (fun x56 => ?_)
    refine aw_iconst (1 : Int32) dX11_wearOf_59 rfl ?_
    refine aw_iadd dX11_wearOf_60 ?_
    refine aw_pI dX11_wearOf_61 pl_X11_282 (fun _ => ?_)
    refine aw_iinc (v5 + (1 : Int32)) dX11_wearOf_64 rfl rfl (by decide) ?_
    refine aw_goto 15 dX11_wearOf_67 (by decide) ?_
    refine aw_msk [true, true, true, true, true, true, false, false, false, false] ?_
    exact h15 t v1 v2 v3 v4 ((v5 + (1 : Int32)))
theorem afX11_wearOf_15 {C : Cx} {res : Int64 × Hp}   : ∀ (n : Nat) (t : Nat) (v1 : Int32) (v2 : Int32) (v3 : Int32) (v4 : Int32) (v5 : Int32), AW C cX11_wearOf mX11_wearOf qL res 15 [vr (some t), vi v1, vi v2, vi v3, vi v4, vi v5, vu, vu, vu, vu] [] (fX11_wearOf_15   n t v1 v2 v3 v4 v5)
  | 0, _, _, _, _, _, _ => aw_fl
  | n + 1, t, v1, v2, v3, v4, v5 => abX11_wearOf_15  (fun t v1 v2 v3 v4 v5 => afX11_wearOf_15   n t v1 v2 v3 v4 v5) t v1 v2 v3 v4 v5
set_option maxRecDepth 20000 in
theorem ctX11_wearOf (t : Nat) (v1 : Int32) (v2 : Int32) (v3 : Int32) (v4 : Int32) : Ct yX11_wearOf cX11_wearOf mX11_wearOf qL [vr (some t), vi v1, vi v2, vi v3, vi v4] (pX11_wearOf t v1 v2 v3 v4) := by
  refine ct_go rfl rfl (fun h9 => by cases h9) (Nat.le_of_ble_eq_true rfl) (fun C res => ?_)
  refine aw_aload_n dX11_wearOf_0 rfl ?_
  refine aw_iconst (1 : Int32) dX11_wearOf_1 rfl ?_
  refine aw_pI dX11_wearOf_2 pl_X11_282 (fun _ => ?_)
  refine aw_aload_n dX11_wearOf_5 rfl ?_
  refine aw_gA dX11_wearOf_6 fl_X11_106 (fun x6 => ?_)
  refine aw_iconst (0 : Int32) dX11_wearOf_9 rfl ?_
  refine aw_lconst (0 : Int64) dX11_wearOf_10 rfl ?_
  refine aw_last dX11_wearOf_11 (fun _ => ?_)
  refine aw_iconst (0 : Int32) dX11_wearOf_12 rfl ?_
  refine aw_istore dX11_wearOf_13 (by decide) ?_
  refine aw_msk [true, true, true, true, true, true, false, false, false, false] ?_
  exact afX11_wearOf_15   FU t v1 v2 v3 v4 ((0 : Int32))
set_option maxRecDepth 20000 in
theorem ctX11_wear (t : Nat) (v1 : Int32) (v2 : Int32) (v3 : Int32) (v4 : Int32) (v5 : Int32) : Ct yX11_wear cX11_wear mX11_wear qL [vr (some t), vi v1, vi v2, vi v3, vi v4, vi v5] (pX11_wear t v1 v2 v3 v4 v5) := by
  refine ct_go rfl rfl (fun h9 => by cases h9) (Nat.le_of_ble_eq_true rfl) (fun C res => ?_)
  refine aw_aload_n dX11_wear_0 rfl ?_
  refine aw_iload_n dX11_wear_1 rfl ?_
  refine aw_cV1 puI dX11_wear_2 (fun o => ctX11_noBridge o _) mcX11_noBridge ml_X11_158 rfl rfl msX11_noBridge rfl (by decide) (Nat.le_of_ble_eq_true rfl) (fun x2 => ?_)
  refine aw_if_ne 27 dX11_wear_5 (by decide) ?_ ?_
  · refine aw_ldc2 dX11_wear_27 cj_X11_166 ?_
    exact aw_lret dX11_wear_30 rfl
  · refine aw_aload_n dX11_wear_8 rfl ?_
    refine aw_iload_n dX11_wear_9 rfl ?_
    refine aw_iload_n dX11_wear_10 rfl ?_
    refine aw_iload_n dX11_wear_11 rfl ?_
    refine aw_cV3 puI dX11_wear_12 (fun o => ctX11_noSupport o _ _ _) mcX11_noSupport ml_X11_162 rfl rfl msX11_noSupport rfl (by decide) (Nat.le_of_ble_eq_true rfl) (fun x12 => ?_)
    refine aw_if_ne 27 dX11_wear_15 (by decide) ?_ ?_
    · refine aw_ldc2 dX11_wear_27 cj_X11_166 ?_
      exact aw_lret dX11_wear_30 rfl
    · refine aw_aload_n dX11_wear_18 rfl ?_
      refine aw_iload dX11_wear_19 rfl ?_
      refine aw_cV1 puI dX11_wear_21 (fun o => ctX11_noTrain o _) mcX11_noTrain ml_X11_190 rfl rfl msX11_noTrain rfl (by decide) (Nat.le_of_ble_eq_true rfl) (fun x21 => ?_)
      refine aw_if_eq 31 dX11_wear_24 (by decide) ?_ ?_
      · refine aw_aload_n dX11_wear_31 rfl ?_
        refine aw_iload_n dX11_wear_32 rfl ?_
        refine aw_iload_n dX11_wear_33 rfl ?_
        refine aw_iload_n dX11_wear_34 rfl ?_
        refine aw_cV3 puI dX11_wear_35 (fun o => ctX11_isResponse o _ _ _) mcX11_isResponse ml_X11_168 rfl rfl msX11_isResponse rfl (by decide) (Nat.le_of_ble_eq_true rfl) (fun x35 => ?_)
        refine aw_if_eq 54 dX11_wear_38 (by decide) ?_ ?_
        · refine aw_ldc2 dX11_wear_54 cj_X11_171 ?_
          exact aw_lret dX11_wear_57 rfl
        · refine aw_iload dX11_wear_41 rfl ?_
          refine aw_i2l dX11_wear_43 ?_
          refine aw_lconst (0 : Int64) dX11_wear_44 rfl ?_
          refine aw_ldc2 dX11_wear_45 cj_X11_129 ?_
          refine aw_cS3 puI dX11_wear_48 (ctX11_in _ _ _) mcX11_in ml_X11_133 msX11_in rfl (by decide) (Nat.le_of_ble_eq_true rfl) (fun x48 => ?_)
          refine aw_if_ne 58 dX11_wear_51 (by decide) ?_ ?_
          · refine aw_aload_n dX11_wear_58 rfl ?_
            refine aw_iload_n dX11_wear_59 rfl ?_
            refine aw_iload_n dX11_wear_60 rfl ?_
            refine aw_iload_n dX11_wear_61 rfl ?_
            refine aw_iload dX11_wear_62 rfl ?_
            refine aw_cV4 puL dX11_wear_64 (fun o => ctX11_wearOf o _ _ _ _) mcX11_wearOf ml_X11_303 rfl rfl msX11_wearOf rfl (by decide) (Nat.le_of_ble_eq_true rfl) (fun x64 => ?_)
            refine aw_lstore dX11_wear_67 (by decide) ?_
            refine aw_iload dX11_wear_69 rfl ?_
            refine aw_if_ne 79 dX11_wear_71 (by decide) ?_ ?_
            · refine aw_iload dX11_wear_79 rfl ?_
              refine aw_iconst (1 : Int32) dX11_wear_81 rfl ?_
              refine aw_icmp_ne 93 dX11_wear_82 (by decide) ?_ ?_
              · refine aw_aload_n dX11_wear_93 rfl ?_
                refine aw_gI dX11_wear_94 fl_X11_300 (fun x94 => ?_)
                refine aw_i2l dX11_wear_97 ?_
                exact aw_lret dX11_wear_98 rfl
              · refine aw_aload_n dX11_wear_85 rfl ?_
                refine aw_gI dX11_wear_86 fl_X11_291 (fun x86 => ?_)
                refine aw_i2l dX11_wear_89 ?_
                refine aw_goto 98 dX11_wear_90 (by decide) ?_
                exact aw_lret dX11_wear_98 rfl
            · refine aw_lload dX11_wear_74 rfl ?_
              refine aw_goto 98 dX11_wear_76 (by decide) ?_
              exact aw_lret dX11_wear_98 rfl
          · refine aw_ldc2 dX11_wear_54 cj_X11_171 ?_
            exact aw_lret dX11_wear_57 rfl
      · refine aw_ldc2 dX11_wear_27 cj_X11_166 ?_
        exact aw_lret dX11_wear_30 rfl
set_option maxRecDepth 20000 in
theorem abX11_why_120 {C : Cx} {res : Int32 × Hp}  {k82 : Nat → Int32 → Int32 → Int32 → Int32 → Mo Int32} (h82 : ∀ (t : Nat) (v1 : Int32) (v2 : Int32) (v5 : Int32) (v6 : Int32), AW C cX11_why mX11_why qI res 82 [vr (some t), vi v1, vi v2, vu, vu, vi v5, vi v6, vu, vu] [] (k82 t v1 v2 v5 v6)) : ∀ (t : Nat) (v1 : Int32) (v2 : Int32) (v5 : Int32) (v6 : Int32) (v7 : Int32) (s0 : Int32), AW C cX11_why mX11_why qI res 120 [vr (some t), vi v1, vi v2, vu, vu, vi v5, vi v6, vi v7, vu] [vi s0] (bX11_why_120  k82 t v1 v2 v5 v6 v7 s0) := by
  intro t v1 v2 v5 v6 v7 s0
  refine aw_istore dX11_why_120 (by decide) ?_
  refine aw_iload dX11_why_122 rfl ?_
  refine aw_if_lt 136 dX11_why_124 (by decide) ?_ ?_
  · refine aw_iinc (v6 + (1 : Int32)) dX11_why_136 rfl rfl (by decide) ?_
    refine aw_goto 82 dX11_why_139 (by decide) ?_
    refine aw_msk [true, true, true, false, false, true, true, false, false] ?_
    exact h82 t v1 v2 v5 ((v6 + (1 : Int32)))
  · refine aw_bipush (10 : Int32) dX11_why_127 rfl ?_
    refine aw_iload dX11_why_129 rfl ?_
    refine aw_imul dX11_why_131 ?_
    refine aw_iload dX11_why_132 rfl ?_
    refine aw_iadd dX11_why_134 ?_
    exact aw_iret dX11_why_135 rfl
set_option maxRecDepth 20000 in
theorem abX11_why_82 {C : Cx} {res : Int32 × Hp}  {k82 : Nat → Int32 → Int32 → Int32 → Int32 → Mo Int32} (h82 : ∀ (t : Nat) (v1 : Int32) (v2 : Int32) (v5 : Int32) (v6 : Int32), AW C cX11_why mX11_why qI res 82 [vr (some t), vi v1, vi v2, vu, vu, vi v5, vi v6, vu, vu] [] (k82 t v1 v2 v5 v6)) : ∀ (t : Nat) (v1 : Int32) (v2 : Int32) (v5 : Int32) (v6 : Int32), AW C cX11_why mX11_why qI res 82 [vr (some t), vi v1, vi v2, vu, vu, vi v5, vi v6, vu, vu] [] (bX11_why_82  k82 t v1 v2 v5 v6) := by
  intro t v1 v2 v5 v6
  refine aw_iload dX11_why_82 rfl ?_
  refine aw_iload dX11_why_84 rfl ?_
  refine aw_icmp_ge 142 dX11_why_86 (by decide) ?_ ?_
  · refine aw_iconst (-1 : Int32) dX11_why_142 rfl ?_
    exact aw_iret dX11_why_143 rfl
  · refine aw_aload_n dX11_why_89 rfl ?_
    refine aw_gA dX11_why_90 fl_X11_90 (fun x90 => ?_)
    refine aw_aload_n dX11_why_93 rfl ?_
    refine aw_gA dX11_why_94 fl_X11_103 (fun x94 => ?_)
    refine aw_iload dX11_why_97 rfl ?_
    refine aw_iald dX11_why_99 (fun x99 => ?_)
    refine aw_iald dX11_why_100 (fun x100 => ?_)
    refine aw_istore dX11_why_101 (by decide) ?_
    refine aw_iload dX11_why_103 rfl ?_
    refine aw_if_ge 112 dX11_why_105 (by decide) ?_ ?_
    · refine aw_aload_n dX11_why_112 rfl ?_
      refine aw_iload dX11_why_113 rfl ?_
      refine aw_iload_n dX11_why_115 rfl ?_
      refine aw_iload_n dX11_why_116 rfl ?_
      refine aw_cV3 puI dX11_why_117 (fun o => ctX11_failing o _ _ _) mcX11_failing ml_X11_248 rfl rfl msX11_failing rfl (by decide) (Nat.le_of_ble_eq_true rfl) (fun x117 => ?_)
      refine aw_msk [true, true, true, false, false, true, true, true, false] ?_
      exact abX11_why_120  h82 t v1 v2 v5 v6 x100 x117
    · refine aw_iconst (-1 : Int32) dX11_why_108 rfl ?_
      refine aw_goto 120 dX11_why_109 (by decide) ?_
      refine aw_msk [true, true, true, false, false, true, true, true, false] ?_
      exact abX11_why_120  h82 t v1 v2 v5 v6 x100 ((-1 : Int32))
theorem afX11_why_82 {C : Cx} {res : Int32 × Hp}   : ∀ (n : Nat) (t : Nat) (v1 : Int32) (v2 : Int32) (v5 : Int32) (v6 : Int32), AW C cX11_why mX11_why qI res 82 [vr (some t), vi v1, vi v2, vu, vu, vi v5, vi v6, vu, vu] [] (fX11_why_82   n t v1 v2 v5 v6)
  | 0, _, _, _, _, _ => aw_fl
  | n + 1, t, v1, v2, v5, v6 => abX11_why_82  (fun t v1 v2 v5 v6 => afX11_why_82   n t v1 v2 v5 v6) t v1 v2 v5 v6
set_option maxRecDepth 20000 in
theorem ctX11_why (t : Nat) (v1 : Int32) (v2 : Int32) (v3 : Int32) (v4 : Int32) : Ct yX11_why cX11_why mX11_why qI [vr (some t), vi v1, vi v2, vi v3, vi v4] (pX11_why t v1 v2 v3 v4) := by
  refine ct_go rfl rfl (fun h9 => by cases h9) (Nat.le_of_ble_eq_true rfl) (fun C res => ?_)
  refine aw_aload_n dX11_why_0 rfl ?_
  refine aw_iload_n dX11_why_1 rfl ?_
  refine aw_cV1 puI dX11_why_2 (fun o => ctX11_noTrain o _) mcX11_noTrain ml_X11_190 rfl rfl msX11_noTrain rfl (by decide) (Nat.le_of_ble_eq_true rfl) (fun x2 => ?_)
  refine aw_if_ne 23 dX11_why_5 (by decide) ?_ ?_
  · refine aw_sipush (-1001 : Int32) dX11_why_23 rfl ?_
    exact aw_iret dX11_why_26 rfl
  · refine aw_iload_n dX11_why_8 rfl ?_
    refine aw_cS1 puI dX11_why_9 (ctX11_isTown _) mcX11_isTown ml_X11_258 msX11_isTown rfl (by decide) (Nat.le_of_ble_eq_true rfl) (fun x9 => ?_)
    refine aw_if_eq 23 dX11_why_12 (by decide) ?_ ?_
    · refine aw_sipush (-1001 : Int32) dX11_why_23 rfl ?_
      exact aw_iret dX11_why_26 rfl
    · refine aw_iload dX11_why_15 rfl ?_
      refine aw_cS1 puI dX11_why_17 (ctX11_isTown _) mcX11_isTown ml_X11_258 msX11_isTown rfl (by decide) (Nat.le_of_ble_eq_true rfl) (fun x17 => ?_)
      refine aw_if_ne 27 dX11_why_20 (by decide) ?_ ?_
      · refine aw_iload_n dX11_why_27 rfl ?_
        refine aw_cS1 puI dX11_why_28 (ctX11_isMode _) mcX11_isMode ml_X11_236 msX11_isMode rfl (by decide) (Nat.le_of_ble_eq_true rfl) (fun x28 => ?_)
        refine aw_if_eq 40 dX11_why_31 (by decide) ?_ ?_
        · refine aw_sipush (-1002 : Int32) dX11_why_40 rfl ?_
          exact aw_iret dX11_why_43 rfl
        · refine aw_iload_n dX11_why_34 rfl ?_
          refine aw_iload dX11_why_35 rfl ?_
          refine aw_icmp_ne 44 dX11_why_37 (by decide) ?_ ?_
          · refine aw_aload_n dX11_why_44 rfl ?_
            refine aw_iload_n dX11_why_45 rfl ?_
            refine aw_iload_n dX11_why_46 rfl ?_
            refine aw_iconst (0 : Int32) dX11_why_47 rfl ?_
            refine aw_cV3 puV dX11_why_48 (fun o => ctX11_open o _ _ _) mcX11_open ml_X11_275 rfl rfl msX11_open rfl (by decide) (Nat.le_of_ble_eq_true rfl) (fun _ => ?_)
            refine aw_aload_n dX11_why_51 rfl ?_
            refine aw_iload_n dX11_why_52 rfl ?_
            refine aw_iload dX11_why_53 rfl ?_
            refine aw_cV2 puI dX11_why_55 (fun o => ctX11_layRoute o _ _) mcX11_layRoute ml_X11_279 rfl rfl msX11_layRoute rfl (by decide) (Nat.le_of_ble_eq_true rfl) (fun x55 => ?_)
            refine aw_if_lt 63 dX11_why_58 (by decide) ?_ ?_
            · refine aw_aload_n dX11_why_63 rfl ?_
              refine aw_iload_n dX11_why_64 rfl ?_
              refine aw_iload_n dX11_why_65 rfl ?_
              refine aw_iconst (1 : Int32) dX11_why_66 rfl ?_
              refine aw_cV3 puV dX11_why_67 (fun o => ctX11_open o _ _ _) mcX11_open ml_X11_275 rfl rfl msX11_open rfl (by decide) (Nat.le_of_ble_eq_true rfl) (fun _ => ?_)
              refine aw_aload_n dX11_why_70 rfl ?_
              refine aw_iload_n dX11_why_71 rfl ?_
              refine aw_iload dX11_why_72 rfl ?_
              refine aw_cV2 puI dX11_why_74 (fun o => ctX11_layRoute o _ _) mcX11_layRoute ml_X11_279 rfl rfl msX11_layRoute rfl (by decide) (Nat.le_of_ble_eq_true rfl) (fun x74 => ?_)
              refine aw_istore dX11_why_77 (by decide) ?_
              refine aw_iconst (0 : Int32) dX11_why_79 rfl ?_
              refine aw_istore dX11_why_80 (by decide) ?_
              refine aw_msk [true, true, true, false, false, true, true, false, false] ?_
              exact afX11_why_82   FU t v1 v2 x74 ((0 : Int32))
            · refine aw_iconst (-1 : Int32) dX11_why_61 rfl ?_
              exact aw_iret dX11_why_62 rfl
          · refine aw_sipush (-1002 : Int32) dX11_why_40 rfl ?_
            exact aw_iret dX11_why_43 rfl
      · refine aw_sipush (-1001 : Int32) dX11_why_23 rfl ?_
        exact aw_iret dX11_why_26 rfl
set_option maxRecDepth 20000 in
theorem abX11_worn_42 {C : Cx} {res : Int64 × Hp}  {k42 : Nat → Int32 → Int32 → Int32 → Int64 → Int32 → Mo Int64} (h42 : ∀ (t : Nat) (v1 : Int32) (v2 : Int32) (v3 : Int32) (v4 : Int64) (v6 : Int32), AW C cX11_worn mX11_worn qL res 42 [vr (some t), vi v1, vi v2, vi v3, vl v4, vu, vi v6] [] (k42 t v1 v2 v3 v4 v6)) : ∀ (t : Nat) (v1 : Int32) (v2 : Int32) (v3 : Int32) (v4 : Int64) (v6 : Int32), AW C cX11_worn mX11_worn qL res 42 [vr (some t), vi v1, vi v2, vi v3, vl v4, vu, vi v6] [] (bX11_worn_42  k42 t v1 v2 v3 v4 v6) := by
  intro t v1 v2 v3 v4 v6
  refine aw_iload dX11_worn_42 rfl ?_
  refine aw_aload_n dX11_worn_44 rfl ?_
  refine aw_gI dX11_worn_45 fl_X11_185 (fun x45 => ?_)
  refine aw_icmp_ge 80 dX11_worn_48 (by decide) ?_ ?_
  · refine aw_lload dX11_worn_80 rfl ?_
    exact aw_lret dX11_worn_82 rfl
  · refine aw_lload dX11_worn_51 rfl ?_
    refine aw_aload_n dX11_worn_53 rfl ?_
    refine aw_gA dX11_worn_54 fl_X11_53 (fun x54 => ?_)
    refine aw_iload dX11_worn_57 rfl ?_
    refine aw_iald dX11_worn_59 (fun x59 => ?_)
    refine aw_i2l dX11_worn_60 ?_
    refine aw_aload_n dX11_worn_61 rfl ?_
    refine aw_iload_n dX11_worn_62 rfl ?_
    refine aw_iload_n dX11_worn_63 rfl ?_
    refine aw_iload_n dX11_worn_64 rfl ?_
    refine aw_iload dX11_worn_65 rfl ?_
    refine aw_cV4 puL dX11_worn_67 (fun o => ctX11_wearOf o _ _ _ _) mcX11_wearOf ml_X11_303 rfl rfl msX11_wearOf rfl (by decide) (Nat.le_of_ble_eq_true rfl) (fun x67 => ?_)
    refine aw_lmul dX11_worn_70 ?_
    refine aw_ladd dX11_worn_71 ?_
    refine aw_lstore dX11_worn_72 (by decide) ?_
    refine aw_iinc (v6 + (1 : Int32)) dX11_worn_74 rfl rfl (by decide) ?_
    refine aw_goto 42 dX11_worn_77 (by decide) ?_
    refine aw_msk [true, true, true, true, true, false, true] ?_
    exact h42 t v1 v2 v3 ((v4 + ((Int32.toInt64 x59) * x67))) ((v6 + (1 : Int32)))
theorem afX11_worn_42 {C : Cx} {res : Int64 × Hp}   : ∀ (n : Nat) (t : Nat) (v1 : Int32) (v2 : Int32) (v3 : Int32) (v4 : Int64) (v6 : Int32), AW C cX11_worn mX11_worn qL res 42 [vr (some t), vi v1, vi v2, vi v3, vl v4, vu, vi v6] [] (fX11_worn_42   n t v1 v2 v3 v4 v6)
  | 0, _, _, _, _, _, _ => aw_fl
  | n + 1, t, v1, v2, v3, v4, v6 => abX11_worn_42  (fun t v1 v2 v3 v4 v6 => afX11_worn_42   n t v1 v2 v3 v4 v6) t v1 v2 v3 v4 v6
set_option maxRecDepth 20000 in
theorem ctX11_worn (t : Nat) (v1 : Int32) (v2 : Int32) (v3 : Int32) : Ct yX11_worn cX11_worn mX11_worn qL [vr (some t), vi v1, vi v2, vi v3] (pX11_worn t v1 v2 v3) := by
  refine ct_go rfl rfl (fun h9 => by cases h9) (Nat.le_of_ble_eq_true rfl) (fun C res => ?_)
  refine aw_aload_n dX11_worn_0 rfl ?_
  refine aw_iload_n dX11_worn_1 rfl ?_
  refine aw_cV1 puI dX11_worn_2 (fun o => ctX11_noBridge o _) mcX11_noBridge ml_X11_158 rfl rfl msX11_noBridge rfl (by decide) (Nat.le_of_ble_eq_true rfl) (fun x2 => ?_)
  refine aw_if_ne 18 dX11_worn_5 (by decide) ?_ ?_
  · refine aw_ldc2 dX11_worn_18 cj_X11_166 ?_
    exact aw_lret dX11_worn_21 rfl
  · refine aw_aload_n dX11_worn_8 rfl ?_
    refine aw_iload_n dX11_worn_9 rfl ?_
    refine aw_iload_n dX11_worn_10 rfl ?_
    refine aw_iload_n dX11_worn_11 rfl ?_
    refine aw_cV3 puI dX11_worn_12 (fun o => ctX11_noSupport o _ _ _) mcX11_noSupport ml_X11_162 rfl rfl msX11_noSupport rfl (by decide) (Nat.le_of_ble_eq_true rfl) (fun x12 => ?_)
    refine aw_if_eq 22 dX11_worn_15 (by decide) ?_ ?_
    · refine aw_aload_n dX11_worn_22 rfl ?_
      refine aw_iload_n dX11_worn_23 rfl ?_
      refine aw_iload_n dX11_worn_24 rfl ?_
      refine aw_iload_n dX11_worn_25 rfl ?_
      refine aw_cV3 puI dX11_worn_26 (fun o => ctX11_isResponse o _ _ _) mcX11_isResponse ml_X11_168 rfl rfl msX11_isResponse rfl (by decide) (Nat.le_of_ble_eq_true rfl) (fun x26 => ?_)
      refine aw_if_ne 36 dX11_worn_29 (by decide) ?_ ?_
      · refine aw_lconst (0 : Int64) dX11_worn_36 rfl ?_
        refine aw_lstore dX11_worn_37 (by decide) ?_
        refine aw_iconst (0 : Int32) dX11_worn_39 rfl ?_
        refine aw_istore dX11_worn_40 (by decide) ?_
        refine aw_msk [true, true, true, true, true, false, true] ?_
        exact afX11_worn_42   FU t v1 v2 v3 ((0 : Int64)) ((0 : Int32))
      · refine aw_ldc2 dX11_worn_32 cj_X11_171 ?_
        exact aw_lret dX11_worn_35 rfl
    · refine aw_ldc2 dX11_worn_18 cj_X11_166 ?_
      exact aw_lret dX11_worn_21 rfl
set_option maxRecDepth 20000 in
theorem ctX11_worst (t : Nat) (v1 : Int32) (v2 : Int32) (v3 : Int32) (v4 : Int32) (v5 : Int32) (v6 : Int32) : Ct yX11_worst cX11_worst mX11_worst qL [vr (some t), vi v1, vi v2, vi v3, vi v4, vi v5, vi v6] (pX11_worst t v1 v2 v3 v4 v5 v6) := by
  refine ct_go rfl rfl (fun h9 => by cases h9) (Nat.le_of_ble_eq_true rfl) (fun C res => ?_)
  refine aw_aload_n dX11_worst_0 rfl ?_
  refine aw_iload_n dX11_worst_1 rfl ?_
  refine aw_cV1 puI dX11_worst_2 (fun o => ctX11_noBridge o _) mcX11_noBridge ml_X11_158 rfl rfl msX11_noBridge rfl (by decide) (Nat.le_of_ble_eq_true rfl) (fun x2 => ?_)
  refine aw_if_ne 27 dX11_worst_5 (by decide) ?_ ?_
  · refine aw_ldc2 dX11_worst_27 cj_X11_166 ?_
    exact aw_lret dX11_worst_30 rfl
  · refine aw_aload_n dX11_worst_8 rfl ?_
    refine aw_iload_n dX11_worst_9 rfl ?_
    refine aw_iload_n dX11_worst_10 rfl ?_
    refine aw_iload_n dX11_worst_11 rfl ?_
    refine aw_cV3 puI dX11_worst_12 (fun o => ctX11_noSupport o _ _ _) mcX11_noSupport ml_X11_162 rfl rfl msX11_noSupport rfl (by decide) (Nat.le_of_ble_eq_true rfl) (fun x12 => ?_)
    refine aw_if_ne 27 dX11_worst_15 (by decide) ?_ ?_
    · refine aw_ldc2 dX11_worst_27 cj_X11_166 ?_
      exact aw_lret dX11_worst_30 rfl
    · refine aw_aload_n dX11_worst_18 rfl ?_
      refine aw_iload dX11_worst_19 rfl ?_
      refine aw_cV1 puI dX11_worst_21 (fun o => ctX11_noTrain o _) mcX11_noTrain ml_X11_190 rfl rfl msX11_noTrain rfl (by decide) (Nat.le_of_ble_eq_true rfl) (fun x21 => ?_)
      refine aw_if_eq 31 dX11_worst_24 (by decide) ?_ ?_
      · refine aw_aload_n dX11_worst_31 rfl ?_
        refine aw_iload_n dX11_worst_32 rfl ?_
        refine aw_iload_n dX11_worst_33 rfl ?_
        refine aw_iload_n dX11_worst_34 rfl ?_
        refine aw_cV3 puI dX11_worst_35 (fun o => ctX11_isResponse o _ _ _) mcX11_isResponse ml_X11_168 rfl rfl msX11_isResponse rfl (by decide) (Nat.le_of_ble_eq_true rfl) (fun x35 => ?_)
        refine aw_if_eq 65 dX11_worst_38 (by decide) ?_ ?_
        · refine aw_ldc2 dX11_worst_65 cj_X11_171 ?_
          exact aw_lret dX11_worst_68 rfl
        · refine aw_iload dX11_worst_41 rfl ?_
          refine aw_i2l dX11_worst_43 ?_
          refine aw_lconst (0 : Int64) dX11_worst_44 rfl ?_
          refine aw_lconst (1 : Int64) dX11_worst_45 rfl ?_
          refine aw_cS3 puI dX11_worst_46 (ctX11_in _ _ _) mcX11_in ml_X11_133 msX11_in rfl (by decide) (Nat.le_of_ble_eq_true rfl) (fun x46 => ?_)
          refine aw_if_eq 65 dX11_worst_49 (by decide) ?_ ?_
          · refine aw_ldc2 dX11_worst_65 cj_X11_171 ?_
            exact aw_lret dX11_worst_68 rfl
          · refine aw_iload dX11_worst_52 rfl ?_
            refine aw_i2l dX11_worst_54 ?_
            refine aw_lconst (0 : Int64) dX11_worst_55 rfl ?_
            refine aw_ldc2 dX11_worst_56 cj_X11_219 ?_
            refine aw_cS3 puI dX11_worst_59 (ctX11_in _ _ _) mcX11_in ml_X11_133 msX11_in rfl (by decide) (Nat.le_of_ble_eq_true rfl) (fun x59 => ?_)
            refine aw_if_ne 69 dX11_worst_62 (by decide) ?_ ?_
            · refine aw_aload_n dX11_worst_69 rfl ?_
              refine aw_iload_n dX11_worst_70 rfl ?_
              refine aw_iload_n dX11_worst_71 rfl ?_
              refine aw_iload_n dX11_worst_72 rfl ?_
              refine aw_iload dX11_worst_73 rfl ?_
              refine aw_iload dX11_worst_75 rfl ?_
              refine aw_cV5 puL dX11_worst_77 (fun o => ctX11_extreme o _ _ _ _ _) mcX11_extreme ml_X11_221 rfl rfl msX11_extreme rfl (by decide) (Nat.le_of_ble_eq_true rfl) (fun x77 => ?_)
              refine aw_lstore dX11_worst_80 (by decide) ?_
              refine aw_iload dX11_worst_82 rfl ?_
              refine aw_iconst (2 : Int32) dX11_worst_84 rfl ?_
              refine aw_icmp_ge 104 dX11_worst_85 (by decide) ?_ ?_
              · refine aw_iload dX11_worst_104 rfl ?_
                refine aw_iconst (2 : Int32) dX11_worst_106 rfl ?_
                refine aw_icmp_ne 118 dX11_worst_107 (by decide) ?_ ?_
                · refine aw_aload_n dX11_worst_118 rfl ?_
                  refine aw_gI dX11_worst_119 fl_X11_216 (fun x119 => ?_)
                  refine aw_i2l dX11_worst_122 ?_
                  exact aw_lret dX11_worst_123 rfl
                · refine aw_aload_n dX11_worst_110 rfl ?_
                  refine aw_gI dX11_worst_111 fl_X11_213 (fun x111 => ?_)
                  refine aw_i2l dX11_worst_114 ?_
                  refine aw_goto 123 dX11_worst_115 (by decide) ?_
                  exact aw_lret dX11_worst_123 rfl
              · refine aw_lload dX11_worst_88 rfl ?_
                refine aw_aload_n dX11_worst_90 rfl ?_
                refine aw_gA dX11_worst_91 fl_X11_35 (fun x91 => ?_)
                refine aw_iload_n dX11_worst_94 rfl ?_
                refine aw_lald dX11_worst_95 (fun x95 => ?_)
                refine aw_iload dX11_worst_96 rfl ?_
                refine aw_cS3 puL dX11_worst_98 (ctX11_part _ _ _) mcX11_part ml_X11_177 msX11_part rfl (by decide) (Nat.le_of_ble_eq_true rfl) (fun x98 => ?_)
                refine aw_goto 123 dX11_worst_101 (by decide) ?_
                exact aw_lret dX11_worst_123 rfl
            · refine aw_ldc2 dX11_worst_65 cj_X11_171 ?_
              exact aw_lret dX11_worst_68 rfl
      · refine aw_ldc2 dX11_worst_27 cj_X11_166 ?_
        exact aw_lret dX11_worst_30 rfl
