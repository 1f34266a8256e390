/-! The bytecode does as the programs say (by program). -/
def AWs (C : Cx) (cc : ByteArray) (mt : Mt) {R : Type} (q : R → Option Value) (res : R × Hp) (ls st : List TV) : List Nat → List (Mo R) → Prop
  | t :: ts, p :: ps => AW C cc mt q res t ls st p ∧ AWs C cc mt q res ls st ts ps
  | _, _ => True
theorem aws_at {C : Cx} {cc : ByteArray} {mt : Mt} {R : Type} {q : R → Option Value} {res : R × Hp} {ls st : List TV} : ∀ (ts : List Nat) (ps : List (Mo R)), AWs C cc mt q res ls st ts ps → ∀ (i : Nat) (t : Nat) (p : Mo R), ts[i]? = some t → ps[i]? = some p → AW C cc mt q res t ls st p
  | [], _, _, i, t, p, h1, _ => by simp at h1
  | _ :: _, [], _, i, t, p, _, h2 => by simp at h2
  | t0 :: ts, p0 :: ps, h, 0, t, p, h1, h2 => by
    simp at h1 h2
    subst h1 h2
    exact h.1
  | t0 :: ts, p0 :: ps, h, i + 1, t, p, h1, h2 => aws_at ts ps h.2 i t p (by simpa using h1) (by simpa using h2)
theorem aw_sws {C : Cx} {cc : ByteArray} {mt : Mt} {R : Type} {q : R → Option Value} {res : R × Hp} {pc : Nat} {ls st : List TV} {x : Int32} {dflt hi : Int} {offs : Array Int} {len : Nat} {ps : List (Mo R)} {d : Mo R} (td : Nat) (ts : List Nat) (hd : decode cc pc = .ok (.tableswitch dflt 0 hi offs, len)) (hhi : hi = (ps.length : Int) - 1) (hl : ps.length < 2 ^ 31) (htd : (pc : Int) + dflt = (td : Int)) (hts : offs.toList.map (fun o => (pc : Int) + o) = ts.map (fun (t : Nat) => (t : Int))) (hlen : ts.length = ps.length)
    (kd : AW C cc mt q res td ls st d) (kt : AWs C cc mt q res ls st ts ps) : AW C cc mt q res pc ls (vi x :: st) (swt x ps d) := aw_swt td ts hd hhi hl htd hts hlen kd (aws_at ts ps kt)
theorem ct_go {y : MethodName} {cc : ByteArray} {mt : Mt} {R : Type} {q : R → Option Value} {av : List TV} {P : Mo R} (hy : plainName y.cls = true) (ho : mt.1 = y.cls) (hin : mt.2.2.2.2.2 = true → y.name = "<init>") (hl : (entL av).length ≤ mt.2.1)
    (kk : ∀ (C : Cx) (res : R × Hp), AW C cc mt q res 0 (entL av ++ List.replicate (mt.2.1 - (entL av).length) vu) [] P) : Ct y cc mt q av P := ct_of hy ho hin (by rw [sl_len]; exact hl) kk
set_option maxRecDepth 20000 in
theorem ctX2_init (t : Nat) : Ct yX2_init cX2_init mX2_init qV [vr (some t)] (pX2_init t) := by
  refine ct_go rfl rfl (fun _ => rfl) (Nat.le_of_ble_eq_true rfl) (fun C res => ?_)
  refine aw_aload_n dX2_init_0 rfl ?_
  refine aw_obj dX2_init_1 mo_X2_3 (by decide) (by decide) (Nat.le_of_ble_eq_true rfl) (fun _ => ?_)
  refine aw_aload_n dX2_init_4 rfl ?_
  refine aw_iconst (2 : Int32) dX2_init_5 rfl ?_
  refine aw_newl dX2_init_6 (fun x6 => ?_)
  refine aw_pA dX2_init_8 pl_X2_9i (fun _ => ?_)
  refine aw_aload_n dX2_init_11 rfl ?_
  refine aw_iconst (2 : Int32) dX2_init_12 rfl ?_
  refine aw_newi dX2_init_13 (fun x13 => ?_)
  refine aw_pA dX2_init_15 pl_X2_15i (fun _ => ?_)
  refine aw_aload_n dX2_init_18 rfl ?_
  refine aw_iconst (2 : Int32) dX2_init_19 rfl ?_
  refine aw_newi dX2_init_20 (fun x20 => ?_)
  refine aw_pA dX2_init_22 pl_X2_19i (fun _ => ?_)
  exact aw_vret dX2_init_25 rfl
set_option maxRecDepth 20000 in
theorem ctX7_init (t : Nat) : Ct yX7_init cX7_init mX7_init qV [vr (some t)] (pX7_init t) := by
  refine ct_go rfl rfl (fun _ => rfl) (Nat.le_of_ble_eq_true rfl) (fun C res => ?_)
  refine aw_aload_n dX7_init_0 rfl ?_
  refine aw_obj dX7_init_1 mo_X7_3 (by decide) (by decide) (Nat.le_of_ble_eq_true rfl) (fun _ => ?_)
  refine aw_aload_n dX7_init_4 rfl ?_
  refine aw_sipush (341 : Int32) dX7_init_5 rfl ?_
  refine aw_newl dX7_init_8 (fun x8 => ?_)
  refine aw_pA dX7_init_10 pl_X7_9i (fun _ => ?_)
  refine aw_aload_n dX7_init_13 rfl ?_
  refine aw_iconst (0 : Int32) dX7_init_14 rfl ?_
  refine aw_pI dX7_init_15 pl_X7_15i (fun _ => ?_)
  exact aw_vret dX7_init_18 rfl
set_option maxRecDepth 20000 in
theorem ctX3_init (t : Nat) : Ct yX3_init cX3_init mX3_init qV [vr (some t)] (pX3_init t) := by
  refine ct_go rfl rfl (fun _ => rfl) (Nat.le_of_ble_eq_true rfl) (fun C res => ?_)
  refine aw_aload_n dX3_init_0 rfl ?_
  refine aw_obj dX3_init_1 mo_X3_3 (by decide) (by decide) (Nat.le_of_ble_eq_true rfl) (fun _ => ?_)
  refine aw_aload_n dX3_init_4 rfl ?_
  refine aw_new dX3_init_5 rfl rfl cl_X3_9 (by decide +kernel) (fun x5 => ?_)
  refine aw_dup dX3_init_8 rfl ?_
  refine aw_cI0 dX3_init_9 (fun o => ctX7_init o ) mcX7_init ml_X3_11 rfl rfl msX7_init rfl (by decide) (Nat.le_of_ble_eq_true rfl) (fun _ => ?_)
  refine aw_pO dX3_init_12 pl_X3_12i (fun _ => ?_)
  refine aw_aload_n dX3_init_15 rfl ?_
  refine aw_new dX3_init_16 rfl rfl cl_X3_18 (by decide +kernel) (fun x16 => ?_)
  refine aw_dup dX3_init_19 rfl ?_
  refine aw_cI0 dX3_init_20 (fun o => ctX2_init o ) mcX2_init ml_X3_20 rfl rfl msX2_init rfl (by decide) (Nat.le_of_ble_eq_true rfl) (fun _ => ?_)
  refine aw_pO dX3_init_23 pl_X3_21i (fun _ => ?_)
  refine aw_aload_n dX3_init_26 rfl ?_
  refine aw_iconst (2 : Int32) dX3_init_27 rfl ?_
  refine aw_iconst (5 : Int32) dX3_init_28 rfl ?_
  refine aw_newm cl_X3_25 dX3_init_29 (fun x29 => ?_)
  refine aw_pA dX3_init_33 pl_X3_27i (fun _ => ?_)
  refine aw_aload_n dX3_init_36 rfl ?_
  refine aw_bipush (100 : Int32) dX3_init_37 rfl ?_
  refine aw_pI dX3_init_39 pl_X3_30i (fun _ => ?_)
  refine aw_aload_n dX3_init_42 rfl ?_
  refine aw_iconst (-1 : Int32) dX3_init_43 rfl ?_
  refine aw_pI dX3_init_44 pl_X3_34i (fun _ => ?_)
  refine aw_aload_n dX3_init_47 rfl ?_
  refine aw_iconst (0 : Int32) dX3_init_48 rfl ?_
  refine aw_pI dX3_init_49 pl_X3_37i (fun _ => ?_)
  refine aw_aload_n dX3_init_52 rfl ?_
  refine aw_iconst (-1 : Int32) dX3_init_53 rfl ?_
  refine aw_pI dX3_init_54 pl_X3_40i (fun _ => ?_)
  refine aw_aload_n dX3_init_57 rfl ?_
  refine aw_iconst (-1 : Int32) dX3_init_58 rfl ?_
  refine aw_pI dX3_init_59 pl_X3_43i (fun _ => ?_)
  exact aw_vret dX3_init_62 rfl
set_option maxRecDepth 20000 in
theorem ctX4_init (t : Nat) : Ct yX4_init cX4_init mX4_init qV [vr (some t)] (pX4_init t) := by
  refine ct_go rfl rfl (fun _ => rfl) (Nat.le_of_ble_eq_true rfl) (fun C res => ?_)
  refine aw_aload_n dX4_init_0 rfl ?_
  refine aw_obj dX4_init_1 mo_X4_3 (by decide) (by decide) (Nat.le_of_ble_eq_true rfl) (fun _ => ?_)
  refine aw_aload_n dX4_init_4 rfl ?_
  refine aw_bipush (61 : Int32) dX4_init_5 rfl ?_
  refine aw_newl dX4_init_7 (fun x7 => ?_)
  refine aw_pA dX4_init_9 pl_X4_9i (fun _ => ?_)
  refine aw_aload_n dX4_init_12 rfl ?_
  refine aw_lconst (1 : Int64) dX4_init_13 rfl ?_
  refine aw_pL dX4_init_14 pl_X4_15i (fun _ => ?_)
  refine aw_aload_n dX4_init_17 rfl ?_
  refine aw_iconst (0 : Int32) dX4_init_18 rfl ?_
  refine aw_pI dX4_init_19 pl_X4_19i (fun _ => ?_)
  exact aw_vret dX4_init_22 rfl
set_option maxRecDepth 20000 in
theorem ctX5_init (t : Nat) : Ct yX5_init cX5_init mX5_init qV [vr (some t)] (pX5_init t) := by
  refine ct_go rfl rfl (fun _ => rfl) (Nat.le_of_ble_eq_true rfl) (fun C res => ?_)
  refine aw_aload_n dX5_init_0 rfl ?_
  refine aw_obj dX5_init_1 mo_X5_3 (by decide) (by decide) (Nat.le_of_ble_eq_true rfl) (fun _ => ?_)
  refine aw_aload_n dX5_init_4 rfl ?_
  refine aw_bipush (24 : Int32) dX5_init_5 rfl ?_
  refine aw_newi dX5_init_7 (fun x7 => ?_)
  refine aw_pA dX5_init_9 pl_X5_9i (fun _ => ?_)
  refine aw_aload_n dX5_init_12 rfl ?_
  refine aw_bipush (24 : Int32) dX5_init_13 rfl ?_
  refine aw_newi dX5_init_15 (fun x15 => ?_)
  refine aw_pA dX5_init_17 pl_X5_15i (fun _ => ?_)
  refine aw_aload_n dX5_init_20 rfl ?_
  refine aw_bipush (24 : Int32) dX5_init_21 rfl ?_
  refine aw_newi dX5_init_23 (fun x23 => ?_)
  refine aw_pA dX5_init_25 pl_X5_18i (fun _ => ?_)
  refine aw_aload_n dX5_init_28 rfl ?_
  refine aw_bipush (24 : Int32) dX5_init_29 rfl ?_
  refine aw_newi dX5_init_31 (fun x31 => ?_)
  refine aw_pA dX5_init_33 pl_X5_21i (fun _ => ?_)
  refine aw_aload_n dX5_init_36 rfl ?_
  refine aw_bipush (24 : Int32) dX5_init_37 rfl ?_
  refine aw_newz dX5_init_39 (fun x39 => ?_)
  refine aw_pA dX5_init_41 pl_X5_24i (fun _ => ?_)
  refine aw_aload_n dX5_init_44 rfl ?_
  refine aw_iconst (0 : Int32) dX5_init_45 rfl ?_
  refine aw_pI dX5_init_46 pl_X5_28i (fun _ => ?_)
  refine aw_aload_n dX5_init_49 rfl ?_
  refine aw_bipush (10 : Int32) dX5_init_50 rfl ?_
  refine aw_newi dX5_init_52 (fun x52 => ?_)
  refine aw_pA dX5_init_54 pl_X5_32i (fun _ => ?_)
  refine aw_aload_n dX5_init_57 rfl ?_
  refine aw_bipush (10 : Int32) dX5_init_58 rfl ?_
  refine aw_newi dX5_init_60 (fun x60 => ?_)
  refine aw_pA dX5_init_62 pl_X5_35i (fun _ => ?_)
  refine aw_aload_n dX5_init_65 rfl ?_
  refine aw_iconst (0 : Int32) dX5_init_66 rfl ?_
  refine aw_pI dX5_init_67 pl_X5_38i (fun _ => ?_)
  refine aw_aload_n dX5_init_70 rfl ?_
  refine aw_iconst (0 : Int32) dX5_init_71 rfl ?_
  refine aw_pI dX5_init_72 pl_X5_41i (fun _ => ?_)
  exact aw_vret dX5_init_75 rfl
set_option maxRecDepth 20000 in
theorem ctX6_init (t : Nat) : Ct yX6_init cX6_init mX6_init qV [vr (some t)] (pX6_init t) := by
  refine ct_go rfl rfl (fun _ => rfl) (Nat.le_of_ble_eq_true rfl) (fun C res => ?_)
  refine aw_aload_n dX6_init_0 rfl ?_
  refine aw_obj dX6_init_1 mo_X6_3 (by decide) (by decide) (Nat.le_of_ble_eq_true rfl) (fun _ => ?_)
  refine aw_aload_n dX6_init_4 rfl ?_
  refine aw_iconst (5 : Int32) dX6_init_5 rfl ?_
  refine aw_bipush (66 : Int32) dX6_init_6 rfl ?_
  refine aw_newm cl_X6_9 dX6_init_8 (fun x8 => ?_)
  refine aw_pA dX6_init_12 pl_X6_11i (fun _ => ?_)
  refine aw_aload_n dX6_init_15 rfl ?_
  refine aw_iconst (0 : Int32) dX6_init_16 rfl ?_
  refine aw_pI dX6_init_17 pl_X6_16i (fun _ => ?_)
  refine aw_aload_n dX6_init_20 rfl ?_
  refine aw_iconst (0 : Int32) dX6_init_21 rfl ?_
  refine aw_pI dX6_init_22 pl_X6_20i (fun _ => ?_)
  exact aw_vret dX6_init_25 rfl
set_option maxRecDepth 20000 in
theorem ctX8_init (t : Nat) : Ct yX8_init cX8_init mX8_init qV [vr (some t)] (pX8_init t) := by
  refine ct_go rfl rfl (fun _ => rfl) (Nat.le_of_ble_eq_true rfl) (fun C res => ?_)
  refine aw_aload_n dX8_init_0 rfl ?_
  refine aw_obj dX8_init_1 mo_X8_3 (by decide) (by decide) (Nat.le_of_ble_eq_true rfl) (fun _ => ?_)
  refine aw_aload_n dX8_init_4 rfl ?_
  refine aw_bipush (8 : Int32) dX8_init_5 rfl ?_
  refine aw_newi dX8_init_7 (fun x7 => ?_)
  refine aw_pA dX8_init_9 pl_X8_9i (fun _ => ?_)
  refine aw_aload_n dX8_init_12 rfl ?_
  refine aw_bipush (8 : Int32) dX8_init_13 rfl ?_
  refine aw_newi dX8_init_15 (fun x15 => ?_)
  refine aw_pA dX8_init_17 pl_X8_15i (fun _ => ?_)
  refine aw_aload_n dX8_init_20 rfl ?_
  refine aw_iconst (0 : Int32) dX8_init_21 rfl ?_
  refine aw_pI dX8_init_22 pl_X8_18i (fun _ => ?_)
  refine aw_aload_n dX8_init_25 rfl ?_
  refine aw_iconst (0 : Int32) dX8_init_26 rfl ?_
  refine aw_pI dX8_init_27 pl_X8_22i (fun _ => ?_)
  exact aw_vret dX8_init_30 rfl
set_option maxRecDepth 20000 in
theorem ctX9_init (t : Nat) : Ct yX9_init cX9_init mX9_init qV [vr (some t)] (pX9_init t) := by
  refine ct_go rfl rfl (fun _ => rfl) (Nat.le_of_ble_eq_true rfl) (fun C res => ?_)
  refine aw_aload_n dX9_init_0 rfl ?_
  refine aw_obj dX9_init_1 mo_X9_3 (by decide) (by decide) (Nat.le_of_ble_eq_true rfl) (fun _ => ?_)
  refine aw_aload_n dX9_init_4 rfl ?_
  refine aw_sipush (343 : Int32) dX9_init_5 rfl ?_
  refine aw_newl dX9_init_8 (fun x8 => ?_)
  refine aw_pA dX9_init_10 pl_X9_9i (fun _ => ?_)
  refine aw_aload_n dX9_init_13 rfl ?_
  refine aw_iconst (0 : Int32) dX9_init_14 rfl ?_
  refine aw_pI dX9_init_15 pl_X9_15i (fun _ => ?_)
  refine aw_aload_n dX9_init_18 rfl ?_
  refine aw_iconst (0 : Int32) dX9_init_19 rfl ?_
  refine aw_pI dX9_init_20 pl_X9_19i (fun _ => ?_)
  refine aw_aload_n dX9_init_23 rfl ?_
  refine aw_iconst (0 : Int32) dX9_init_24 rfl ?_
  refine aw_pI dX9_init_25 pl_X9_22i (fun _ => ?_)
  refine aw_aload_n dX9_init_28 rfl ?_
  refine aw_lconst (0 : Int64) dX9_init_29 rfl ?_
  refine aw_pL dX9_init_30 pl_X9_25i (fun _ => ?_)
  exact aw_vret dX9_init_33 rfl
set_option maxRecDepth 20000 in
theorem ctX10_init (t : Nat) : Ct yX10_init cX10_init mX10_init qV [vr (some t)] (pX10_init t) := by
  refine ct_go rfl rfl (fun _ => rfl) (Nat.le_of_ble_eq_true rfl) (fun C res => ?_)
  refine aw_aload_n dX10_init_0 rfl ?_
  refine aw_obj dX10_init_1 mo_X10_3 (by decide) (by decide) (Nat.le_of_ble_eq_true rfl) (fun _ => ?_)
  refine aw_aload_n dX10_init_4 rfl ?_
  refine aw_bipush (6 : Int32) dX10_init_5 rfl ?_
  refine aw_newq (fun _ => rfl) (fun _ _ _ _ h9 => h9.2.2.1) cl_X10_9 dX10_init_7 (fun x7 => ?_)
  refine aw_pA dX10_init_10 pl_X10_11i (fun _ => ?_)
  refine aw_aload_n dX10_init_13 rfl ?_
  refine aw_iconst (0 : Int32) dX10_init_14 rfl ?_
  refine aw_pI dX10_init_15 pl_X10_15i (fun _ => ?_)
  refine aw_aload_n dX10_init_18 rfl ?_
  refine aw_bipush (8 : Int32) dX10_init_19 rfl ?_
  refine aw_newq (fun _ => rfl) (fun _ _ _ _ h9 => h9.2.2.2.2.1) cl_X10_19 dX10_init_21 (fun x21 => ?_)
  refine aw_pA dX10_init_24 pl_X10_21i (fun _ => ?_)
  refine aw_aload_n dX10_init_27 rfl ?_
  refine aw_iconst (0 : Int32) dX10_init_28 rfl ?_
  refine aw_pI dX10_init_29 pl_X10_25i (fun _ => ?_)
  refine aw_aload_n dX10_init_32 rfl ?_
  refine aw_iconst (-1 : Int32) dX10_init_33 rfl ?_
  refine aw_pI dX10_init_34 pl_X10_28i (fun _ => ?_)
  refine aw_aload_n dX10_init_37 rfl ?_
  refine aw_new dX10_init_38 rfl rfl cl_X10_31 (by decide +kernel) (fun x38 => ?_)
  refine aw_dup dX10_init_41 rfl ?_
  refine aw_cI0 dX10_init_42 (fun o => ctX5_init o ) mcX5_init ml_X10_33 rfl rfl msX5_init rfl (by decide) (Nat.le_of_ble_eq_true rfl) (fun _ => ?_)
  refine aw_pO dX10_init_45 pl_X10_34i (fun _ => ?_)
  refine aw_aload_n dX10_init_48 rfl ?_
  refine aw_new dX10_init_49 rfl rfl cl_X10_38 (by decide +kernel) (fun x49 => ?_)
  refine aw_dup dX10_init_52 rfl ?_
  refine aw_cI0 dX10_init_53 (fun o => ctX6_init o ) mcX6_init ml_X10_40 rfl rfl msX6_init rfl (by decide) (Nat.le_of_ble_eq_true rfl) (fun _ => ?_)
  refine aw_pO dX10_init_56 pl_X10_41i (fun _ => ?_)
  refine aw_aload_n dX10_init_59 rfl ?_
  refine aw_new dX10_init_60 rfl rfl cl_X10_45 (by decide +kernel) (fun x60 => ?_)
  refine aw_dup dX10_init_63 rfl ?_
  refine aw_cI0 dX10_init_64 (fun o => ctX4_init o ) mcX4_init ml_X10_47 rfl rfl msX4_init rfl (by decide) (Nat.le_of_ble_eq_true rfl) (fun _ => ?_)
  refine aw_pO dX10_init_67 pl_X10_48i (fun _ => ?_)
  refine aw_aload_n dX10_init_70 rfl ?_
  refine aw_new dX10_init_71 rfl rfl cl_X10_52 (by decide +kernel) (fun x71 => ?_)
  refine aw_dup dX10_init_74 rfl ?_
  refine aw_cI0 dX10_init_75 (fun o => ctX7_init o ) mcX7_init ml_X10_54 rfl rfl msX7_init rfl (by decide) (Nat.le_of_ble_eq_true rfl) (fun _ => ?_)
  refine aw_pO dX10_init_78 pl_X10_55i (fun _ => ?_)
  refine aw_aload_n dX10_init_81 rfl ?_
  refine aw_new dX10_init_82 rfl rfl cl_X10_59 (by decide +kernel) (fun x82 => ?_)
  refine aw_dup dX10_init_85 rfl ?_
  refine aw_cI0 dX10_init_86 (fun o => ctX2_init o ) mcX2_init ml_X10_61 rfl rfl msX2_init rfl (by decide) (Nat.le_of_ble_eq_true rfl) (fun _ => ?_)
  refine aw_pO dX10_init_89 pl_X10_62i (fun _ => ?_)
  refine aw_aload_n dX10_init_92 rfl ?_
  refine aw_new dX10_init_93 rfl rfl cl_X10_66 (by decide +kernel) (fun x93 => ?_)
  refine aw_dup dX10_init_96 rfl ?_
  refine aw_cI0 dX10_init_97 (fun o => ctX3_init o ) mcX3_init ml_X10_68 rfl rfl msX3_init rfl (by decide) (Nat.le_of_ble_eq_true rfl) (fun _ => ?_)
  refine aw_pO dX10_init_100 pl_X10_69i (fun _ => ?_)
  refine aw_aload_n dX10_init_103 rfl ?_
  refine aw_new dX10_init_104 rfl rfl cl_X10_73 (by decide +kernel) (fun x104 => ?_)
  refine aw_dup dX10_init_107 rfl ?_
  refine aw_cI0 dX10_init_108 (fun o => ctX9_init o ) mcX9_init ml_X10_75 rfl rfl msX9_init rfl (by decide) (Nat.le_of_ble_eq_true rfl) (fun _ => ?_)
  refine aw_pO dX10_init_111 pl_X10_76i (fun _ => ?_)
  refine aw_aload_n dX10_init_114 rfl ?_
  refine aw_new dX10_init_115 rfl rfl cl_X10_19 (by decide +kernel) (fun x115 => ?_)
  refine aw_dup dX10_init_118 rfl ?_
  refine aw_cI0 dX10_init_119 (fun o => ctX8_init o ) mcX8_init ml_X10_80 rfl rfl msX8_init rfl (by decide) (Nat.le_of_ble_eq_true rfl) (fun _ => ?_)
  refine aw_pO dX10_init_122 pl_X10_81i (fun _ => ?_)
  refine aw_aload_n dX10_init_125 rfl ?_
  refine aw_bipush (6 : Int32) dX10_init_126 rfl ?_
  refine aw_newi dX10_init_128 (fun x128 => ?_)
  refine aw_pA dX10_init_130 pl_X10_85i (fun _ => ?_)
  exact aw_vret dX10_init_133 rfl
set_option maxRecDepth 20000 in
theorem ctX10_within (v0 : Int32) (v1 : Int32) (v2 : Int32) : Ct yX10_within cX10_within mX10_within qI [vi v0, vi v1, vi v2] (pX10_within v0 v1 v2) := by
  refine ct_go rfl rfl (fun h9 => by cases h9) (Nat.le_of_ble_eq_true rfl) (fun C res => ?_)
  refine aw_iload_n dX10_within_0 rfl ?_
  refine aw_iload_n dX10_within_1 rfl ?_
  refine aw_icmp_lt 14 dX10_within_2 (by decide) ?_ ?_
  · refine aw_iconst (0 : Int32) dX10_within_14 rfl ?_
    exact aw_zret dX10_within_15 rfl
  · refine aw_iload_n dX10_within_5 rfl ?_
    refine aw_iload_n dX10_within_6 rfl ?_
    refine aw_icmp_gt 14 dX10_within_7 (by decide) ?_ ?_
    · refine aw_iconst (0 : Int32) dX10_within_14 rfl ?_
      exact aw_zret dX10_within_15 rfl
    · refine aw_iconst (1 : Int32) dX10_within_10 rfl ?_
      refine aw_goto 15 dX10_within_11 (by decide) ?_
      exact aw_zret dX10_within_15 rfl
set_option maxRecDepth 20000 in
theorem ctX10_bridgeAt (t : Nat) (v1 : Int32) : Ct yX10_bridgeAt cX10_bridgeAt mX10_bridgeAt qA [vr (some t), vi v1] (pX10_bridgeAt t v1) := by
  refine ct_go rfl rfl (fun h9 => by cases h9) (Nat.le_of_ble_eq_true rfl) (fun C res => ?_)
  refine aw_iload_n dX10_bridgeAt_0 rfl ?_
  refine aw_iconst (0 : Int32) dX10_bridgeAt_1 rfl ?_
  refine aw_aload_n dX10_bridgeAt_2 rfl ?_
  refine aw_gI dX10_bridgeAt_3 fl_X10_15 (fun x3 => ?_)
  refine aw_iconst (1 : Int32) dX10_bridgeAt_6 rfl ?_
  refine aw_isub dX10_bridgeAt_7 ?_
  refine aw_cS3 puI dX10_bridgeAt_8 (ctX10_within _ _ _) mcX10_within ml_X10_132 msX10_within rfl (by decide) (Nat.le_of_ble_eq_true rfl) (fun x8 => ?_)
  refine aw_if_eq 23 dX10_bridgeAt_11 (by decide) ?_ ?_
  · refine aw_null dX10_bridgeAt_23 ?_
    exact aw_aret dX10_bridgeAt_24 rfl (Or.inl ⟨_, rfl⟩)
  · refine aw_aload_n dX10_bridgeAt_14 rfl ?_
    refine aw_gA dX10_bridgeAt_15 fl_X10_11 (fun x15 => ?_)
    refine aw_iload_n dX10_bridgeAt_18 rfl ?_
    refine aw_aald 3 (fun _ => rfl) rfl dX10_bridgeAt_19 (fun x19 => ?_)
    refine aw_goto 24 dX10_bridgeAt_20 (by decide) ?_
    exact aw_aret dX10_bridgeAt_24 rfl (Or.inl ⟨_, rfl⟩)
set_option maxRecDepth 20000 in
theorem abX10_allChecks_4 {C : Cx} {res : Int32 × Hp}  {k4 : Nat → Int32 → Int32 → Mo Int32} (h4 : ∀ (t : Nat) (v1 : Int32) (v2 : Int32), AW C cX10_allChecks mX10_allChecks qI res 4 [vr (some t), vi v1, vi v2, vu] [] (k4 t v1 v2)) : ∀ (t : Nat) (v1 : Int32) (v2 : Int32), AW C cX10_allChecks mX10_allChecks qI res 4 [vr (some t), vi v1, vi v2, vu] [] (bX10_allChecks_4  k4 t v1 v2) := by
  intro t v1 v2
  refine aw_iload_n dX10_allChecks_4 rfl ?_
  refine aw_aload_n dX10_allChecks_5 rfl ?_
  refine aw_gI dX10_allChecks_6 fl_X10_15 (fun x6 => ?_)
  refine aw_icmp_ge 39 dX10_allChecks_9 (by decide) ?_ ?_
  · refine aw_iload_n dX10_allChecks_39 rfl ?_
    exact aw_iret dX10_allChecks_40 rfl
  · refine aw_aload_n dX10_allChecks_12 rfl ?_
    refine aw_iload_n dX10_allChecks_13 rfl ?_
    refine aw_cV1 puA dX10_allChecks_14 (fun o => ctX10_bridgeAt o _) mcX10_bridgeAt ml_X10_104 rfl rfl msX10_bridgeAt rfl (by decide) (Nat.le_of_ble_eq_true rfl) (fun x14 => ?_)
    refine aw_astore_n dX10_allChecks_17 (by decide) ?_
    refine aw_iload_n dX10_allChecks_18 rfl ?_
    refine aw_aload_n dX10_allChecks_19 rfl ?_
    refine aw_ifnonnull 27 dX10_allChecks_20 (by decide) ?_ ?_
    · refine aw_aload_n dX10_allChecks_27 rfl ?_
      refine aw_gI dX10_allChecks_28 fl_X10_117 (fun x28 => ?_)
      refine aw_iadd dX10_allChecks_31 ?_
      refine aw_istore_n dX10_allChecks_32 (by decide) ?_
      refine aw_iinc (v2 + (1 : Int32)) dX10_allChecks_33 rfl rfl (by decide) ?_
      refine aw_goto 4 dX10_allChecks_36 (by decide) ?_
      refine aw_msk [true, true, true, false] ?_
      exact h4 t ((v1 + x28)) ((v2 + (1 : Int32)))
    · refine aw_iconst (0 : Int32) dX10_allChecks_23 rfl ?_
      refine aw_goto 31 dX10_allChecks_24 (by decide) ?_
      refine aw_iadd dX10_allChecks_31 ?_
      refine aw_istore_n dX10_allChecks_32 (by decide) ?_
      refine aw_iinc (v2 + (1 : Int32)) dX10_allChecks_33 rfl rfl (by decide) ?_
      refine aw_goto 4 dX10_allChecks_36 (by decide) ?_
      refine aw_msk [true, true, true, false] ?_
      exact h4 t ((v1 + (0 : Int32))) ((v2 + (1 : Int32)))
theorem afX10_allChecks_4 {C : Cx} {res : Int32 × Hp}   : ∀ (n : Nat) (t : Nat) (v1 : Int32) (v2 : Int32), AW C cX10_allChecks mX10_allChecks qI res 4 [vr (some t), vi v1, vi v2, vu] [] (fX10_allChecks_4   n t v1 v2)
  | 0, _, _, _ => aw_fl
  | n + 1, t, v1, v2 => abX10_allChecks_4  (fun t v1 v2 => afX10_allChecks_4   n t v1 v2) t v1 v2
set_option maxRecDepth 20000 in
theorem ctX10_allChecks (t : Nat) : Ct yX10_allChecks cX10_allChecks mX10_allChecks qI [vr (some t)] (pX10_allChecks t) := by
  refine ct_go rfl rfl (fun h9 => by cases h9) (Nat.le_of_ble_eq_true rfl) (fun C res => ?_)
  refine aw_iconst (0 : Int32) dX10_allChecks_0 rfl ?_
  refine aw_istore_n dX10_allChecks_1 (by decide) ?_
  refine aw_iconst (0 : Int32) dX10_allChecks_2 rfl ?_
  refine aw_istore_n dX10_allChecks_3 (by decide) ?_
  refine aw_msk [true, true, true, false] ?_
  exact afX10_allChecks_4   FU t ((0 : Int32)) ((0 : Int32))
set_option maxRecDepth 20000 in
theorem ctX10_trainAt (t : Nat) (v1 : Int32) : Ct yX10_trainAt cX10_trainAt mX10_trainAt qA [vr (some t), vi v1] (pX10_trainAt t v1) := by
  refine ct_go rfl rfl (fun h9 => by cases h9) (Nat.le_of_ble_eq_true rfl) (fun C res => ?_)
  refine aw_iload_n dX10_trainAt_0 rfl ?_
  refine aw_iconst (0 : Int32) dX10_trainAt_1 rfl ?_
  refine aw_aload_n dX10_trainAt_2 rfl ?_
  refine aw_gI dX10_trainAt_3 fl_X10_25 (fun x3 => ?_)
  refine aw_iconst (1 : Int32) dX10_trainAt_6 rfl ?_
  refine aw_isub dX10_trainAt_7 ?_
  refine aw_cS3 puI dX10_trainAt_8 (ctX10_within _ _ _) mcX10_within ml_X10_132 msX10_within rfl (by decide) (Nat.le_of_ble_eq_true rfl) (fun x8 => ?_)
  refine aw_if_eq 23 dX10_trainAt_11 (by decide) ?_ ?_
  · refine aw_null dX10_trainAt_23 ?_
    exact aw_aret dX10_trainAt_24 rfl (Or.inl ⟨_, rfl⟩)
  · refine aw_aload_n dX10_trainAt_14 rfl ?_
    refine aw_gA dX10_trainAt_15 fl_X10_21 (fun x15 => ?_)
    refine aw_iload_n dX10_trainAt_18 rfl ?_
    refine aw_aald 5 (fun _ => rfl) rfl dX10_trainAt_19 (fun x19 => ?_)
    refine aw_goto 24 dX10_trainAt_20 (by decide) ?_
    exact aw_aret dX10_trainAt_24 rfl (Or.inl ⟨_, rfl⟩)
set_option maxRecDepth 20000 in
theorem abX10_allTraffic_4 {C : Cx} {res : Int32 × Hp}  {k4 : Nat → Int32 → Int32 → Mo Int32} (h4 : ∀ (t : Nat) (v1 : Int32) (v2 : Int32), AW C cX10_allTraffic mX10_allTraffic qI res 4 [vr (some t), vi v1, vi v2, vu] [] (k4 t v1 v2)) : ∀ (t : Nat) (v1 : Int32) (v2 : Int32), AW C cX10_allTraffic mX10_allTraffic qI res 4 [vr (some t), vi v1, vi v2, vu] [] (bX10_allTraffic_4  k4 t v1 v2) := by
  intro t v1 v2
  refine aw_iload_n dX10_allTraffic_4 rfl ?_
  refine aw_aload_n dX10_allTraffic_5 rfl ?_
  refine aw_gI dX10_allTraffic_6 fl_X10_25 (fun x6 => ?_)
  refine aw_icmp_ge 39 dX10_allTraffic_9 (by decide) ?_ ?_
  · refine aw_iload_n dX10_allTraffic_39 rfl ?_
    exact aw_iret dX10_allTraffic_40 rfl
  · refine aw_aload_n dX10_allTraffic_12 rfl ?_
    refine aw_iload_n dX10_allTraffic_13 rfl ?_
    refine aw_cV1 puA dX10_allTraffic_14 (fun o => ctX10_trainAt o _) mcX10_trainAt ml_X10_163 rfl rfl msX10_trainAt rfl (by decide) (Nat.le_of_ble_eq_true rfl) (fun x14 => ?_)
    refine aw_astore_n dX10_allTraffic_17 (by decide) ?_
    refine aw_iload_n dX10_allTraffic_18 rfl ?_
    refine aw_aload_n dX10_allTraffic_19 rfl ?_
    refine aw_ifnonnull 27 dX10_allTraffic_20 (by decide) ?_ ?_
    · refine aw_aload_n dX10_allTraffic_27 rfl ?_
      refine aw_gI dX10_allTraffic_28 fl_X10_295 (fun x28 => ?_)
      refine aw_iadd dX10_allTraffic_31 ?_
      refine aw_istore_n dX10_allTraffic_32 (by decide) ?_
      refine aw_iinc (v2 + (1 : Int32)) dX10_allTraffic_33 rfl rfl (by decide) ?_
      refine aw_goto 4 dX10_allTraffic_36 (by decide) ?_
      refine aw_msk [true, true, true, false] ?_
      exact h4 t ((v1 + x28)) ((v2 + (1 : Int32)))
    · refine aw_iconst (0 : Int32) dX10_allTraffic_23 rfl ?_
      refine aw_goto 31 dX10_allTraffic_24 (by decide) ?_
      refine aw_iadd dX10_allTraffic_31 ?_
      refine aw_istore_n dX10_allTraffic_32 (by decide) ?_
      refine aw_iinc (v2 + (1 : Int32)) dX10_allTraffic_33 rfl rfl (by decide) ?_
      refine aw_goto 4 dX10_allTraffic_36 (by decide) ?_
      refine aw_msk [true, true, true, false] ?_
      exact h4 t ((v1 + (0 : Int32))) ((v2 + (1 : Int32)))
theorem afX10_allTraffic_4 {C : Cx} {res : Int32 × Hp}   : ∀ (n : Nat) (t : Nat) (v1 : Int32) (v2 : Int32), AW C cX10_allTraffic mX10_allTraffic qI res 4 [vr (some t), vi v1, vi v2, vu] [] (fX10_allTraffic_4   n t v1 v2)
  | 0, _, _, _ => aw_fl
  | n + 1, t, v1, v2 => abX10_allTraffic_4  (fun t v1 v2 => afX10_allTraffic_4   n t v1 v2) t v1 v2
set_option maxRecDepth 20000 in
theorem ctX10_allTraffic (t : Nat) : Ct yX10_allTraffic cX10_allTraffic mX10_allTraffic qI [vr (some t)] (pX10_allTraffic t) := by
  refine ct_go rfl rfl (fun h9 => by cases h9) (Nat.le_of_ble_eq_true rfl) (fun C res => ?_)
  refine aw_iconst (0 : Int32) dX10_allTraffic_0 rfl ?_
  refine aw_istore_n dX10_allTraffic_1 (by decide) ?_
  refine aw_iconst (0 : Int32) dX10_allTraffic_2 rfl ?_
  refine aw_istore_n dX10_allTraffic_3 (by decide) ?_
  refine aw_msk [true, true, true, false] ?_
  exact afX10_allTraffic_4   FU t ((0 : Int32)) ((0 : Int32))
set_option maxRecDepth 20000 in
theorem ctX8_couple (t : Nat) (v1 : Int32) (v2 : Int32) : Ct yX8_couple cX8_couple mX8_couple qI [vr (some t), vi v1, vi v2] (pX8_couple t v1 v2) := by
  refine ct_go rfl rfl (fun h9 => by cases h9) (Nat.le_of_ble_eq_true rfl) (fun C res => ?_)
  refine aw_aload_n dX8_couple_0 rfl ?_
  refine aw_gI dX8_couple_1 fl_X8_18 (fun x1 => ?_)
  refine aw_bipush (8 : Int32) dX8_couple_4 rfl ?_
  refine aw_icmp_lt 11 dX8_couple_6 (by decide) ?_ ?_
  · refine aw_aload_n dX8_couple_11 rfl ?_
    refine aw_gA dX8_couple_12 fl_X8_15 (fun x12 => ?_)
    refine aw_aload_n dX8_couple_15 rfl ?_
    refine aw_gI dX8_couple_16 fl_X8_18 (fun x16 => ?_)
    refine aw_iload_n dX8_couple_19 rfl ?_
    refine aw_iast dX8_couple_20 (fun _ => ?_)
    refine aw_aload_n dX8_couple_21 rfl ?_
    refine aw_gA dX8_couple_22 fl_X8_9 (fun x22 => ?_)
    refine aw_aload_n dX8_couple_25 rfl ?_
    refine aw_gI dX8_couple_26 fl_X8_18 (fun x26 => ?_)
    refine aw_iload_n dX8_couple_29 rfl ?_
    refine aw_iast dX8_couple_30 (fun _ => ?_)
    refine aw_aload_n dX8_couple_31 rfl ?_
    refine aw_dup dX8_couple_32 rfl ?_
    refine aw_gI dX8_couple_33 fl_X8_18 (fun x33 => ?_)
    refine aw_iconst (1 : Int32) dX8_couple_36 rfl ?_
    refine aw_iadd dX8_couple_37 ?_
    refine aw_pI dX8_couple_38 pl_X8_18 (fun _ => ?_)
    refine aw_iconst (1 : Int32) dX8_couple_41 rfl ?_
    exact aw_zret dX8_couple_42 rfl
  · refine aw_iconst (0 : Int32) dX8_couple_9 rfl ?_
    exact aw_zret dX8_couple_10 rfl
set_option maxRecDepth 20000 in
theorem ctX10_axle (t : Nat) (v1 : Int32) (v2 : Int32) (v3 : Int32) : Ct yX10_axle cX10_axle mX10_axle qI [vr (some t), vi v1, vi v2, vi v3] (pX10_axle t v1 v2 v3) := by
  refine ct_go rfl rfl (fun h9 => by cases h9) (Nat.le_of_ble_eq_true rfl) (fun C res => ?_)
  refine aw_aload_n dX10_axle_0 rfl ?_
  refine aw_iload_n dX10_axle_1 rfl ?_
  refine aw_cV1 puA dX10_axle_2 (fun o => ctX10_trainAt o _) mcX10_trainAt ml_X10_163 rfl rfl msX10_trainAt rfl (by decide) (Nat.le_of_ble_eq_true rfl) (fun x2 => ?_)
  refine aw_astore dX10_axle_5 (by decide) ?_
  refine aw_aload dX10_axle_7 rfl ?_
  refine aw_ifnonnull 16 dX10_axle_9 (by decide) ?_ ?_
  · refine aw_iload_n dX10_axle_16 rfl ?_
    refine aw_iconst (1 : Int32) dX10_axle_17 rfl ?_
    refine aw_bipush (20 : Int32) dX10_axle_18 rfl ?_
    refine aw_cS3 puI dX10_axle_20 (ctX10_within _ _ _) mcX10_within ml_X10_132 msX10_within rfl (by decide) (Nat.le_of_ble_eq_true rfl) (fun x20 => ?_)
    refine aw_if_eq 37 dX10_axle_23 (by decide) ?_ ?_
    · refine aw_sipush (-1002 : Int32) dX10_axle_37 rfl ?_
      exact aw_iret dX10_axle_40 rfl
    · refine aw_iload_n dX10_axle_26 rfl ?_
      refine aw_iconst (1 : Int32) dX10_axle_27 rfl ?_
      refine aw_sipush (200 : Int32) dX10_axle_28 rfl ?_
      refine aw_cS3 puI dX10_axle_31 (ctX10_within _ _ _) mcX10_within ml_X10_132 msX10_within rfl (by decide) (Nat.le_of_ble_eq_true rfl) (fun x31 => ?_)
      refine aw_if_ne 41 dX10_axle_34 (by decide) ?_ ?_
      · refine aw_aload dX10_axle_41 rfl ?_
        refine aw_iload_n dX10_axle_43 rfl ?_
        refine aw_iload_n dX10_axle_44 rfl ?_
        refine aw_cV2 puI dX10_axle_45 (fun o => ctX8_couple o _ _) mcX8_couple ml_X10_160 rfl rfl msX8_couple rfl (by decide) (Nat.le_of_ble_eq_true rfl) (fun x45 => ?_)
        refine aw_if_ne 55 dX10_axle_48 (by decide) ?_ ?_
        · refine aw_aload dX10_axle_55 rfl ?_
          refine aw_gI dX10_axle_57 fl_X10_167 (fun x57 => ?_)
          exact aw_iret dX10_axle_60 rfl
        · refine aw_sipush (-1004 : Int32) dX10_axle_51 rfl ?_
          exact aw_iret dX10_axle_54 rfl
      · refine aw_sipush (-1002 : Int32) dX10_axle_37 rfl ?_
        exact aw_iret dX10_axle_40 rfl
  · refine aw_sipush (-1001 : Int32) dX10_axle_12 rfl ?_
    exact aw_iret dX10_axle_15 rfl
set_option maxRecDepth 20000 in
theorem abX8_allGaps_4 {C : Cx} {res : Int32 × Hp}  {k4 : Nat → Int32 → Int32 → Mo Int32} (h4 : ∀ (t : Nat) (v1 : Int32) (v2 : Int32), AW C cX8_allGaps mX8_allGaps qI res 4 [vr (some t), vi v1, vi v2] [] (k4 t v1 v2)) : ∀ (t : Nat) (v1 : Int32) (v2 : Int32), AW C cX8_allGaps mX8_allGaps qI res 4 [vr (some t), vi v1, vi v2] [] (bX8_allGaps_4  k4 t v1 v2) := by
  intro t v1 v2
  refine aw_iload_n dX8_allGaps_4 rfl ?_
  refine aw_aload_n dX8_allGaps_5 rfl ?_
  refine aw_gI dX8_allGaps_6 fl_X8_18 (fun x6 => ?_)
  refine aw_icmp_ge 27 dX8_allGaps_9 (by decide) ?_ ?_
  · refine aw_iload_n dX8_allGaps_27 rfl ?_
    exact aw_iret dX8_allGaps_28 rfl
  · refine aw_iload_n dX8_allGaps_12 rfl ?_
    refine aw_aload_n dX8_allGaps_13 rfl ?_
    refine aw_gA dX8_allGaps_14 fl_X8_15 (fun x14 => ?_)
    refine aw_iload_n dX8_allGaps_17 rfl ?_
    refine aw_iald dX8_allGaps_18 (fun x18 => ?_)
    refine aw_iadd dX8_allGaps_19 ?_
    refine aw_istore_n dX8_allGaps_20 (by decide) ?_
    refine aw_iinc (v2 + (1 : Int32)) dX8_allGaps_21 rfl rfl (by decide) ?_
    refine aw_goto 4 dX8_allGaps_24 (by decide) ?_
    refine aw_msk [true, true, true] ?_
    exact h4 t ((v1 + x18)) ((v2 + (1 : Int32)))
theorem afX8_allGaps_4 {C : Cx} {res : Int32 × Hp}   : ∀ (n : Nat) (t : Nat) (v1 : Int32) (v2 : Int32), AW C cX8_allGaps mX8_allGaps qI res 4 [vr (some t), vi v1, vi v2] [] (fX8_allGaps_4   n t v1 v2)
  | 0, _, _, _ => aw_fl
  | n + 1, t, v1, v2 => abX8_allGaps_4  (fun t v1 v2 => afX8_allGaps_4   n t v1 v2) t v1 v2
set_option maxRecDepth 20000 in
theorem ctX8_allGaps (t : Nat) : Ct yX8_allGaps cX8_allGaps mX8_allGaps qI [vr (some t)] (pX8_allGaps t) := by
  refine ct_go rfl rfl (fun h9 => by cases h9) (Nat.le_of_ble_eq_true rfl) (fun C res => ?_)
  refine aw_iconst (0 : Int32) dX8_allGaps_0 rfl ?_
  refine aw_istore_n dX8_allGaps_1 (by decide) ?_
  refine aw_iconst (0 : Int32) dX8_allGaps_2 rfl ?_
  refine aw_istore_n dX8_allGaps_3 (by decide) ?_
  refine aw_msk [true, true, true] ?_
  exact afX8_allGaps_4   FU t ((0 : Int32)) ((0 : Int32))
set_option maxRecDepth 20000 in
theorem ctX10_axles (t : Nat) (v1 : Int32) (v2 : Int32) (v3 : Int32) : Ct yX10_axles cX10_axles mX10_axles qI [vr (some t), vi v1, vi v2, vi v3] (pX10_axles t v1 v2 v3) := by
  refine ct_go rfl rfl (fun h9 => by cases h9) (Nat.le_of_ble_eq_true rfl) (fun C res => ?_)
  refine aw_aload_n dX10_axles_0 rfl ?_
  refine aw_iload_n dX10_axles_1 rfl ?_
  refine aw_cV1 puA dX10_axles_2 (fun o => ctX10_trainAt o _) mcX10_trainAt ml_X10_163 rfl rfl msX10_trainAt rfl (by decide) (Nat.le_of_ble_eq_true rfl) (fun x2 => ?_)
  refine aw_astore dX10_axles_5 (by decide) ?_
  refine aw_aload dX10_axles_7 rfl ?_
  refine aw_ifnonnull 16 dX10_axles_9 (by decide) ?_ ?_
  · refine aw_iload_n dX10_axles_16 rfl ?_
    refine aw_iconst (0 : Int32) dX10_axles_17 rfl ?_
    refine aw_iconst (1 : Int32) dX10_axles_18 rfl ?_
    refine aw_cS3 puI dX10_axles_19 (ctX10_within _ _ _) mcX10_within ml_X10_132 msX10_within rfl (by decide) (Nat.le_of_ble_eq_true rfl) (fun x19 => ?_)
    refine aw_if_ne 29 dX10_axles_22 (by decide) ?_ ?_
    · refine aw_iload_n dX10_axles_29 rfl ?_
      refine aw_iconst (-1 : Int32) dX10_axles_30 rfl ?_
      refine aw_icmp_ne 52 dX10_axles_31 (by decide) ?_ ?_
      · refine aw_iload_n dX10_axles_52 rfl ?_
        refine aw_iconst (0 : Int32) dX10_axles_53 rfl ?_
        refine aw_aload dX10_axles_54 rfl ?_
        refine aw_gI dX10_axles_56 fl_X10_167 (fun x56 => ?_)
        refine aw_iconst (1 : Int32) dX10_axles_59 rfl ?_
        refine aw_isub dX10_axles_60 ?_
        refine aw_cS3 puI dX10_axles_61 (ctX10_within _ _ _) mcX10_within ml_X10_132 msX10_within rfl (by decide) (Nat.le_of_ble_eq_true rfl) (fun x61 => ?_)
        refine aw_if_ne 69 dX10_axles_64 (by decide) ?_ ?_
        · refine aw_iload_n dX10_axles_69 rfl ?_
          refine aw_if_ne 83 dX10_axles_70 (by decide) ?_ ?_
          · refine aw_aload dX10_axles_83 rfl ?_
            refine aw_gA dX10_axles_85 fl_X10_177 (fun x85 => ?_)
            refine aw_iload_n dX10_axles_88 rfl ?_
            refine aw_iald dX10_axles_89 (fun x89 => ?_)
            exact aw_iret dX10_axles_90 rfl
          · refine aw_aload dX10_axles_73 rfl ?_
            refine aw_gA dX10_axles_75 fl_X10_174 (fun x75 => ?_)
            refine aw_iload_n dX10_axles_78 rfl ?_
            refine aw_iald dX10_axles_79 (fun x79 => ?_)
            refine aw_goto 90 dX10_axles_80 (by decide) ?_
            exact aw_iret dX10_axles_90 rfl
        · refine aw_iconst (-1 : Int32) dX10_axles_67 rfl ?_
          exact aw_iret dX10_axles_68 rfl
      · refine aw_iload_n dX10_axles_34 rfl ?_
        refine aw_if_ne 46 dX10_axles_35 (by decide) ?_ ?_
        · refine aw_aload dX10_axles_46 rfl ?_
          refine aw_cV0 puI dX10_axles_48 (fun o => ctX8_allGaps o ) mcX8_allGaps ml_X10_170 rfl rfl msX8_allGaps rfl (by decide) (Nat.le_of_ble_eq_true rfl) (fun x48 => ?_)
          exact aw_iret dX10_axles_51 rfl
        · refine aw_aload dX10_axles_38 rfl ?_
          refine aw_gI dX10_axles_40 fl_X10_167 (fun x40 => ?_)
          refine aw_goto 51 dX10_axles_43 (by decide) ?_
          exact aw_iret dX10_axles_51 rfl
    · refine aw_sipush (-1002 : Int32) dX10_axles_25 rfl ?_
      exact aw_iret dX10_axles_28 rfl
  · refine aw_sipush (-1001 : Int32) dX10_axles_12 rfl ?_
    exact aw_iret dX10_axles_15 rfl
set_option maxRecDepth 20000 in
theorem ctJ13_bitCount_95d88 (v0 : Int64) : Ct yJ13_bitCount_95d88 cJ13_bitCount_95d88 mJ13_bitCount_95d88 qI [vl v0] (pJ13_bitCount_95d88 v0) := by
  refine ct_go rfl rfl (fun h9 => by cases h9) (Nat.le_of_ble_eq_true rfl) (fun C res => ?_)
  refine aw_lload_n dJ13_bitCount_95d88_0 rfl ?_
  refine aw_lload_n dJ13_bitCount_95d88_1 rfl ?_
  refine aw_iconst (1 : Int32) dJ13_bitCount_95d88_2 rfl ?_
  refine aw_lushr dJ13_bitCount_95d88_3 ?_
  refine aw_ldc2 dJ13_bitCount_95d88_4 cj_J13_314 ?_
  refine aw_land dJ13_bitCount_95d88_7 ?_
  refine aw_lsub dJ13_bitCount_95d88_8 ?_
  refine aw_lstore_n dJ13_bitCount_95d88_9 (by decide) ?_
  refine aw_lload_n dJ13_bitCount_95d88_10 rfl ?_
  refine aw_ldc2 dJ13_bitCount_95d88_11 cj_J13_316 ?_
  refine aw_land dJ13_bitCount_95d88_14 ?_
  refine aw_lload_n dJ13_bitCount_95d88_15 rfl ?_
  refine aw_iconst (2 : Int32) dJ13_bitCount_95d88_16 rfl ?_
  refine aw_lushr dJ13_bitCount_95d88_17 ?_
  refine aw_ldc2 dJ13_bitCount_95d88_18 cj_J13_316 ?_
  refine aw_land dJ13_bitCount_95d88_21 ?_
  refine aw_ladd dJ13_bitCount_95d88_22 ?_
  refine aw_lstore_n dJ13_bitCount_95d88_23 (by decide) ?_
  refine aw_lload_n dJ13_bitCount_95d88_24 rfl ?_
  refine aw_lload_n dJ13_bitCount_95d88_25 rfl ?_
  refine aw_iconst (4 : Int32) dJ13_bitCount_95d88_26 rfl ?_
  refine aw_lushr dJ13_bitCount_95d88_27 ?_
  refine aw_ladd dJ13_bitCount_95d88_28 ?_
  refine aw_ldc2 dJ13_bitCount_95d88_29 cj_J13_318 ?_
  refine aw_land dJ13_bitCount_95d88_32 ?_
  refine aw_lstore_n dJ13_bitCount_95d88_33 (by decide) ?_
  refine aw_lload_n dJ13_bitCount_95d88_34 rfl ?_
  refine aw_lload_n dJ13_bitCount_95d88_35 rfl ?_
  refine aw_bipush (8 : Int32) dJ13_bitCount_95d88_36 rfl ?_
  refine aw_lushr dJ13_bitCount_95d88_38 ?_
  refine aw_ladd dJ13_bitCount_95d88_39 ?_
  refine aw_lstore_n dJ13_bitCount_95d88_40 (by decide) ?_
  refine aw_lload_n dJ13_bitCount_95d88_41 rfl ?_
  refine aw_lload_n dJ13_bitCount_95d88_42 rfl ?_
  refine aw_bipush (16 : Int32) dJ13_bitCount_95d88_43 rfl ?_
  refine aw_lushr dJ13_bitCount_95d88_45 ?_
  refine aw_ladd dJ13_bitCount_95d88_46 ?_
  refine aw_lstore_n dJ13_bitCount_95d88_47 (by decide) ?_
  refine aw_lload_n dJ13_bitCount_95d88_48 rfl ?_
  refine aw_lload_n dJ13_bitCount_95d88_49 rfl ?_
  refine aw_bipush (32 : Int32) dJ13_bitCount_95d88_50 rfl ?_
  refine aw_lushr dJ13_bitCount_95d88_52 ?_
  refine aw_ladd dJ13_bitCount_95d88_53 ?_
  refine aw_lstore_n dJ13_bitCount_95d88_54 (by decide) ?_
  refine aw_lload_n dJ13_bitCount_95d88_55 rfl ?_
  refine aw_l2i dJ13_bitCount_95d88_56 ?_
  refine aw_bipush (127 : Int32) dJ13_bitCount_95d88_57 rfl ?_
  refine aw_iand dJ13_bitCount_95d88_59 ?_
  exact aw_iret dJ13_bitCount_95d88_60 rfl
set_option maxRecDepth 20000 in
theorem abX10_placesOf_12 {C : Cx} {res : (Option Nat) × Hp}  {k12 : Int64 → Option Nat → Int32 → Int32 → Mo (Option Nat)} (h12 : ∀ (v0 : Int64) (v2 : Option Nat) (v3 : Int32) (v4 : Int32), AW C cX10_placesOf mX10_placesOf qA res 12 [vl v0, vu, vr v2, vi v3, vi v4] [] (k12 v0 v2 v3 v4)) : ∀ (v0 : Int64) (v2 : Option Nat) (v3 : Int32) (v4 : Int32), AW C cX10_placesOf mX10_placesOf qA res 12 [vl v0, vu, vr v2, vi v3, vi v4] [] (bX10_placesOf_12  k12 v0 v2 v3 v4) := by
  intro v0 v2 v3 v4
  refine aw_iload dX10_placesOf_12 rfl ?_
  refine aw_bipush (60 : Int32) dX10_placesOf_14 rfl ?_
  refine aw_icmp_gt 50 dX10_placesOf_16 (by decide) ?_ ?_
  · refine aw_aload_n dX10_placesOf_50 rfl ?_
    exact aw_aret dX10_placesOf_51 rfl (Or.inr ⟨_, rfl⟩)
  · refine aw_iload_n dX10_placesOf_19 rfl ?_
    refine aw_aload_n dX10_placesOf_20 rfl ?_
    refine aw_aln dX10_placesOf_21 (fun x21 => ?_)
    refine aw_icmp_ge 50 dX10_placesOf_22 (by decide) ?_ ?_
    · refine aw_aload_n dX10_placesOf_50 rfl ?_
      exact aw_aret dX10_placesOf_51 rfl (Or.inr ⟨_, rfl⟩)
    · refine aw_lload_n dX10_placesOf_25 rfl ?_
      refine aw_iload dX10_placesOf_26 rfl ?_
      refine aw_lushr dX10_placesOf_28 ?_
      refine aw_lconst (1 : Int64) dX10_placesOf_29 rfl ?_
      refine aw_land dX10_placesOf_30 ?_
      refine aw_lconst (0 : Int64) dX10_placesOf_31 rfl ?_
      refine aw_leq 44 dX10_placesOf_32 dX10_placesOf_33 (by decide) ?_ ?_
      · refine aw_iinc (v4 + (1 : Int32)) dX10_placesOf_44 rfl rfl (by decide) ?_
        refine aw_goto 12 dX10_placesOf_47 (by decide) ?_
        refine aw_msk [true, false, true, true, true] ?_
        exact h12 v0 v2 v3 ((v4 + (1 : Int32)))
      · refine aw_aload_n dX10_placesOf_36 rfl ?_
        refine aw_iload_n dX10_placesOf_37 rfl ?_
        refine aw_iload dX10_placesOf_38 rfl ?_
        refine aw_iast dX10_placesOf_40 (fun _ => ?_)
        refine aw_iinc (v3 + (1 : Int32)) dX10_placesOf_41 rfl rfl (by decide) ?_
        refine aw_iinc (v4 + (1 : Int32)) dX10_placesOf_44 rfl rfl (by decide) ?_
        refine aw_goto 12 dX10_placesOf_47 (by decide) ?_
        refine aw_msk [true, false, true, true, true] ?_
        exact h12 v0 v2 ((v3 + (1 : Int32))) ((v4 + (1 : Int32)))
theorem afX10_placesOf_12 {C : Cx} {res : (Option Nat) × Hp}   : ∀ (n : Nat) (v0 : Int64) (v2 : Option Nat) (v3 : Int32) (v4 : Int32), AW C cX10_placesOf mX10_placesOf qA res 12 [vl v0, vu, vr v2, vi v3, vi v4] [] (fX10_placesOf_12   n v0 v2 v3 v4)
  | 0, _, _, _, _ => aw_fl
  | n + 1, v0, v2, v3, v4 => abX10_placesOf_12  (fun v0 v2 v3 v4 => afX10_placesOf_12   n v0 v2 v3 v4) v0 v2 v3 v4
set_option maxRecDepth 20000 in
theorem ctX10_placesOf (v0 : Int64) : Ct yX10_placesOf cX10_placesOf mX10_placesOf qA [vl v0] (pX10_placesOf v0) := by
  refine ct_go rfl rfl (fun h9 => by cases h9) (Nat.le_of_ble_eq_true rfl) (fun C res => ?_)
  refine aw_lload_n dX10_placesOf_0 rfl ?_
  refine aw_cS1 puI dX10_placesOf_1 (ctJ13_bitCount_95d88 _) mcJ13_bitCount_95d88 ml_X10_308 msJ13_bitCount_95d88 rfl (by decide) (Nat.le_of_ble_eq_true rfl) (fun x1 => ?_)
  refine aw_newi dX10_placesOf_4 (fun x4 => ?_)
  refine aw_astore_n dX10_placesOf_6 (by decide) ?_
  refine aw_iconst (0 : Int32) dX10_placesOf_7 rfl ?_
  refine aw_istore_n dX10_placesOf_8 (by decide) ?_
  refine aw_iconst (0 : Int32) dX10_placesOf_9 rfl ?_
  refine aw_istore dX10_placesOf_10 (by decide) ?_
  refine aw_msk [true, false, true, true, true] ?_
  exact afX10_placesOf_12   FU v0 x4 ((0 : Int32)) ((0 : Int32))
set_option maxRecDepth 20000 in
theorem ctX10_wellFormed (v0 : Int32) (v1 : Int64) (v3 : Int64) : Ct yX10_wellFormed cX10_wellFormed mX10_wellFormed qI [vi v0, vl v1, vl v3] (pX10_wellFormed v0 v1 v3) := by
  refine ct_go rfl rfl (fun h9 => by cases h9) (Nat.le_of_ble_eq_true rfl) (fun C res => ?_)
  refine aw_iload_n dX10_wellFormed_0 rfl ?_
  refine aw_iconst (2 : Int32) dX10_wellFormed_1 rfl ?_
  refine aw_bipush (60 : Int32) dX10_wellFormed_2 rfl ?_
  refine aw_cS3 puI dX10_wellFormed_4 (ctX10_within _ _ _) mcX10_within ml_X10_132 msX10_within rfl (by decide) (Nat.le_of_ble_eq_true rfl) (fun x4 => ?_)
  refine aw_if_ne 12 dX10_wellFormed_7 (by decide) ?_ ?_
  · refine aw_ldc2 dX10_wellFormed_12 cj_X10_306 ?_
    refine aw_iload_n dX10_wellFormed_15 rfl ?_
    refine aw_lshl dX10_wellFormed_16 ?_
    refine aw_lconst (1 : Int64) dX10_wellFormed_17 rfl ?_
    refine aw_lsub dX10_wellFormed_18 ?_
    refine aw_lstore dX10_wellFormed_19 (by decide) ?_
    refine aw_lconst (1 : Int64) dX10_wellFormed_21 rfl ?_
    refine aw_iload_n dX10_wellFormed_22 rfl ?_
    refine aw_lshl dX10_wellFormed_23 ?_
    refine aw_ldc2 dX10_wellFormed_24 cj_X10_306 ?_
    refine aw_lsub dX10_wellFormed_27 ?_
    refine aw_lstore dX10_wellFormed_28 (by decide) ?_
    refine aw_lload_n dX10_wellFormed_30 rfl ?_
    refine aw_cS1 puI dX10_wellFormed_31 (ctJ13_bitCount_95d88 _) mcJ13_bitCount_95d88 ml_X10_308 msJ13_bitCount_95d88 rfl (by decide) (Nat.le_of_ble_eq_true rfl) (fun x31 => ?_)
    refine aw_istore dX10_wellFormed_34 (by decide) ?_
    refine aw_lload_n dX10_wellFormed_36 rfl ?_
    refine aw_lload dX10_wellFormed_37 rfl ?_
    refine aw_ldc2 dX10_wellFormed_39 cj_X10_314 ?_
    refine aw_lxor dX10_wellFormed_42 ?_
    refine aw_land dX10_wellFormed_43 ?_
    refine aw_lconst (0 : Int64) dX10_wellFormed_44 rfl ?_
    refine aw_lne 95 dX10_wellFormed_45 dX10_wellFormed_46 (by decide) ?_ ?_
    · refine aw_iconst (0 : Int32) dX10_wellFormed_95 rfl ?_
      exact aw_zret dX10_wellFormed_96 rfl
    · refine aw_iload dX10_wellFormed_49 rfl ?_
      refine aw_iconst (2 : Int32) dX10_wellFormed_51 rfl ?_
      refine aw_iconst (5 : Int32) dX10_wellFormed_52 rfl ?_
      refine aw_cS3 puI dX10_wellFormed_53 (ctX10_within _ _ _) mcX10_within ml_X10_132 msX10_within rfl (by decide) (Nat.le_of_ble_eq_true rfl) (fun x53 => ?_)
      refine aw_if_eq 95 dX10_wellFormed_56 (by decide) ?_ ?_
      · refine aw_iconst (0 : Int32) dX10_wellFormed_95 rfl ?_
        exact aw_zret dX10_wellFormed_96 rfl
      · refine aw_lload_n dX10_wellFormed_59 rfl ?_
        refine aw_lload dX10_wellFormed_60 rfl ?_
        refine aw_ldc2 dX10_wellFormed_62 cj_X10_314 ?_
        refine aw_lxor dX10_wellFormed_65 ?_
        refine aw_land dX10_wellFormed_66 ?_
        refine aw_lconst (0 : Int64) dX10_wellFormed_67 rfl ?_
        refine aw_lne 95 dX10_wellFormed_68 dX10_wellFormed_69 (by decide) ?_ ?_
        · refine aw_iconst (0 : Int32) dX10_wellFormed_95 rfl ?_
          exact aw_zret dX10_wellFormed_96 rfl
        · refine aw_lload_n dX10_wellFormed_72 rfl ?_
          refine aw_lload_n dX10_wellFormed_73 rfl ?_
          refine aw_land dX10_wellFormed_74 ?_
          refine aw_lconst (0 : Int64) dX10_wellFormed_75 rfl ?_
          refine aw_lne 95 dX10_wellFormed_76 dX10_wellFormed_77 (by decide) ?_ ?_
          · refine aw_iconst (0 : Int32) dX10_wellFormed_95 rfl ?_
            exact aw_zret dX10_wellFormed_96 rfl
          · refine aw_lload_n dX10_wellFormed_80 rfl ?_
            refine aw_cS1 puI dX10_wellFormed_81 (ctJ13_bitCount_95d88 _) mcJ13_bitCount_95d88 ml_X10_308 msJ13_bitCount_95d88 rfl (by decide) (Nat.le_of_ble_eq_true rfl) (fun x81 => ?_)
            refine aw_iload dX10_wellFormed_84 rfl ?_
            refine aw_iconst (2 : Int32) dX10_wellFormed_86 rfl ?_
            refine aw_isub dX10_wellFormed_87 ?_
            refine aw_icmp_ne 95 dX10_wellFormed_88 (by decide) ?_ ?_
            · refine aw_iconst (0 : Int32) dX10_wellFormed_95 rfl ?_
              exact aw_zret dX10_wellFormed_96 rfl
            · refine aw_iconst (1 : Int32) dX10_wellFormed_91 rfl ?_
              refine aw_goto 96 dX10_wellFormed_92 (by decide) ?_
              exact aw_zret dX10_wellFormed_96 rfl
  · refine aw_iconst (0 : Int32) dX10_wellFormed_10 rfl ?_
    exact aw_zret dX10_wellFormed_11 rfl
set_option maxRecDepth 20000 in
theorem ctX6_lower (t : Nat) : Ct yX6_lower cX6_lower mX6_lower qL [vr (some t)] (pX6_lower t) := by
  refine ct_go rfl rfl (fun h9 => by cases h9) (Nat.le_of_ble_eq_true rfl) (fun C res => ?_)
  refine aw_aload_n dX6_lower_0 rfl ?_
  refine aw_gA dX6_lower_1 fl_X6_11 (fun x1 => ?_)
  refine aw_iconst (0 : Int32) dX6_lower_4 rfl ?_
  refine aw_aald 6 (fun _ => rfl) rfl dX6_lower_5 (fun x5 => ?_)
  refine aw_iconst (0 : Int32) dX6_lower_6 rfl ?_
  refine aw_lald dX6_lower_7 (fun x7 => ?_)
  refine aw_mabsL dX6_lower_8 mk_X6_54 (by decide) (by decide) (Nat.le_of_ble_eq_true rfl) ?_
  exact aw_lret dX6_lower_11 rfl
set_option maxRecDepth 20000 in
theorem ctX6_upper (t : Nat) (v1 : Int32) (v2 : Int32) : Ct yX6_upper cX6_upper mX6_upper qL [vr (some t), vi v1, vi v2] (pX6_upper t v1 v2) := by
  refine ct_go rfl rfl (fun h9 => by cases h9) (Nat.le_of_ble_eq_true rfl) (fun C res => ?_)
  refine aw_aload_n dX6_upper_0 rfl ?_
  refine aw_gA dX6_upper_1 fl_X6_11 (fun x1 => ?_)
  refine aw_iconst (0 : Int32) dX6_upper_4 rfl ?_
  refine aw_aald 6 (fun _ => rfl) rfl dX6_upper_5 (fun x5 => ?_)
  refine aw_iconst (0 : Int32) dX6_upper_6 rfl ?_
  refine aw_lald dX6_upper_7 (fun x7 => ?_)
  refine aw_lconst (0 : Int64) dX6_upper_8 rfl ?_
  refine aw_lge 30 dX6_upper_9 dX6_upper_10 (by decide) ?_ ?_
  · refine aw_aload_n dX6_upper_30 rfl ?_
    refine aw_gA dX6_upper_31 fl_X6_11 (fun x31 => ?_)
    refine aw_iload_n dX6_upper_34 rfl ?_
    refine aw_aald 6 (fun _ => rfl) rfl dX6_upper_35 (fun x35 => ?_)
    refine aw_aload_n dX6_upper_36 rfl ?_
    refine aw_gI dX6_upper_37 fl_X6_16 (fun x37 => ?_)
    refine aw_iload_n dX6_upper_40 rfl ?_
    refine aw_iadd dX6_upper_41 ?_
    refine aw_lald dX6_upper_42 (fun x42 => ?_)
    exact aw_lret dX6_upper_43 rfl
  · refine aw_aload_n dX6_upper_13 rfl ?_
    refine aw_gA dX6_upper_14 fl_X6_11 (fun x14 => ?_)
    refine aw_iload_n dX6_upper_17 rfl ?_
    refine aw_aald 6 (fun _ => rfl) rfl dX6_upper_18 (fun x18 => ?_)
    refine aw_aload_n dX6_upper_19 rfl ?_
    refine aw_gI dX6_upper_20 fl_X6_16 (fun x20 => ?_)
    refine aw_iload_n dX6_upper_23 rfl ?_
    refine aw_iadd dX6_upper_24 ?_
    refine aw_lald dX6_upper_25 (fun x25 => ?_)
    refine aw_lneg dX6_upper_26 ?_
    refine aw_goto 43 dX6_upper_27 (by decide) ?_
    exact aw_lret dX6_upper_43 rfl
set_option maxRecDepth 20000 in
theorem abX0_init_88 {C : Cx} {res : Unit × Hp}  {k78 : Nat → Int32 → Option Nat → Option Nat → Int32 → Mo Unit} (h78 : ∀ (t : Nat) (v1 : Int32) (v2 : Option Nat) (v4 : Option Nat) (v5 : Int32), AW C cX0_init mX0_init qV res 78 [vr (some t), vi v1, vr v2, vu, vr v4, vi v5, vu] [] (k78 t v1 v2 v4 v5)) {k88 : Nat → Int32 → Option Nat → Option Nat → Int32 → Int32 → Mo Unit} (h88 : ∀ (t : Nat) (v1 : Int32) (v2 : Option Nat) (v4 : Option Nat) (v5 : Int32) (v6 : Int32), AW C cX0_init mX0_init qV res 88 [vr (some t), vi v1, vr v2, vu, vr v4, vi v5, vi v6] [] (k88 t v1 v2 v4 v5 v6)) : ∀ (t : Nat) (v1 : Int32) (v2 : Option Nat) (v4 : Option Nat) (v5 : Int32) (v6 : Int32), AW C cX0_init mX0_init qV res 88 [vr (some t), vi v1, vr v2, vu, vr v4, vi v5, vi v6] [] (bX0_init_88  k78 k88 t v1 v2 v4 v5 v6) := by
  intro t v1 v2 v4 v5 v6
  refine aw_iload dX0_init_88 rfl ?_
  refine aw_iload_n dX0_init_90 rfl ?_
  refine aw_icmp_gt 119 dX0_init_91 (by decide) ?_ ?_
  · refine aw_iinc (v5 + (1 : Int32)) dX0_init_119 rfl rfl (by decide) ?_
    refine aw_goto 78 dX0_init_122 (by decide) ?_
    refine aw_msk [true, true, true, false, true, true, false] ?_
    exact h78 t v1 v2 v4 ((v5 + (1 : Int32)))
  · refine aw_aload_n dX0_init_94 rfl ?_
    refine aw_gA dX0_init_95 fl_X0_45 (fun x95 => ?_)
    refine aw_iload dX0_init_98 rfl ?_
    refine aw_aald 6 (fun _ => rfl) rfl dX0_init_100 (fun x100 => ?_)
    refine aw_iload dX0_init_101 rfl ?_
    refine aw_aload dX0_init_103 rfl ?_
    refine aw_iload dX0_init_105 rfl ?_
    refine aw_iload dX0_init_107 rfl ?_
    refine aw_cV2 puL dX0_init_109 (fun o => ctX6_upper o _ _) mcX6_upper ml_X0_48 rfl rfl msX6_upper rfl (by decide) (Nat.le_of_ble_eq_true rfl) (fun x109 => ?_)
    refine aw_last dX0_init_112 (fun _ => ?_)
    refine aw_iinc (v6 + (1 : Int32)) dX0_init_113 rfl rfl (by decide) ?_
    refine aw_goto 88 dX0_init_116 (by decide) ?_
    refine aw_msk [true, true, true, false, true, true, true] ?_
    exact h88 t v1 v2 v4 v5 ((v6 + (1 : Int32)))
theorem afX0_init_88 {C : Cx} {res : Unit × Hp}  {k78 : Nat → Int32 → Option Nat → Option Nat → Int32 → Mo Unit} (h78 : ∀ (t : Nat) (v1 : Int32) (v2 : Option Nat) (v4 : Option Nat) (v5 : Int32), AW C cX0_init mX0_init qV res 78 [vr (some t), vi v1, vr v2, vu, vr v4, vi v5, vu] [] (k78 t v1 v2 v4 v5)) : ∀ (n : Nat) (t : Nat) (v1 : Int32) (v2 : Option Nat) (v4 : Option Nat) (v5 : Int32) (v6 : Int32), AW C cX0_init mX0_init qV res 88 [vr (some t), vi v1, vr v2, vu, vr v4, vi v5, vi v6] [] (fX0_init_88  k78 n t v1 v2 v4 v5 v6)
  | 0, _, _, _, _, _, _ => aw_fl
  | n + 1, t, v1, v2, v4, v5, v6 => abX0_init_88  h78 (fun t v1 v2 v4 v5 v6 => afX0_init_88  h78 n t v1 v2 v4 v5 v6) t v1 v2 v4 v5 v6
set_option maxRecDepth 20000 in
theorem abX0_init_78 {C : Cx} {res : Unit × Hp}  {k78 : Nat → Int32 → Option Nat → Option Nat → Int32 → Mo Unit} (h78 : ∀ (t : Nat) (v1 : Int32) (v2 : Option Nat) (v4 : Option Nat) (v5 : Int32), AW C cX0_init mX0_init qV res 78 [vr (some t), vi v1, vr v2, vu, vr v4, vi v5, vu] [] (k78 t v1 v2 v4 v5)) : ∀ (t : Nat) (v1 : Int32) (v2 : Option Nat) (v4 : Option Nat) (v5 : Int32), AW C cX0_init mX0_init qV res 78 [vr (some t), vi v1, vr v2, vu, vr v4, vi v5, vu] [] (bX0_init_78  k78 t v1 v2 v4 v5) := by
  intro t v1 v2 v4 v5
  refine aw_iload dX0_init_78 rfl ?_
  refine aw_aload_n dX0_init_80 rfl ?_
  refine aw_aln dX0_init_81 (fun x81 => ?_)
  refine aw_icmp_ge 125 dX0_init_82 (by decide) ?_ ?_
  · exact aw_vret dX0_init_125 rfl
  · refine aw_iconst (0 : Int32) dX0_init_85 rfl ?_
    refine aw_istore dX0_init_86 (by decide) ?_
    refine aw_msk [true, true, true, false, true, true, true] ?_
    exact afX0_init_88  h78 FU t v1 v2 v4 v5 ((0 : Int32))
theorem afX0_init_78 {C : Cx} {res : Unit × Hp}   : ∀ (n : Nat) (t : Nat) (v1 : Int32) (v2 : Option Nat) (v4 : Option Nat) (v5 : Int32), AW C cX0_init mX0_init qV res 78 [vr (some t), vi v1, vr v2, vu, vr v4, vi v5, vu] [] (fX0_init_78   n t v1 v2 v4 v5)
  | 0, _, _, _, _, _ => aw_fl
  | n + 1, t, v1, v2, v4, v5 => abX0_init_78  (fun t v1 v2 v4 v5 => afX0_init_78   n t v1 v2 v4 v5) t v1 v2 v4 v5
set_option maxRecDepth 20000 in
theorem ctX0_init (t : Nat) (v1 : Int32) (v2 : Option Nat) (v3 : Int32) (v4 : Option Nat) : Ct yX0_init cX0_init mX0_init qV [vr (some t), vi v1, vr v2, vi v3, vr v4] (pX0_init t v1 v2 v3 v4) := by
  refine ct_go rfl rfl (fun _ => rfl) (Nat.le_of_ble_eq_true rfl) (fun C res => ?_)
  refine aw_aload_n dX0_init_0 rfl ?_
  refine aw_obj dX0_init_1 mo_X0_3 (by decide) (by decide) (Nat.le_of_ble_eq_true rfl) (fun _ => ?_)
  refine aw_aload_n dX0_init_4 rfl ?_
  refine aw_iconst (3 : Int32) dX0_init_5 rfl ?_
  refine aw_newi dX0_init_6 (fun x6 => ?_)
  refine aw_dup dX0_init_8 rfl ?_
  refine aw_iconst (0 : Int32) dX0_init_9 rfl ?_
  refine aw_bipush (30 : Int32) dX0_init_10 rfl ?_
  refine aw_iast dX0_init_12 (fun _ => ?_)
  refine aw_dup dX0_init_13 rfl ?_
  refine aw_iconst (1 : Int32) dX0_init_14 rfl ?_
  refine aw_iconst (1 : Int32) dX0_init_15 rfl ?_
  refine aw_iast dX0_init_16 (fun _ => ?_)
  refine aw_dup dX0_init_17 rfl ?_
  refine aw_iconst (2 : Int32) dX0_init_18 rfl ?_
  refine aw_bipush (50 : Int32) dX0_init_19 rfl ?_
  refine aw_iast dX0_init_21 (fun _ => ?_)
  refine aw_pA dX0_init_22 pl_X0_9i (fun _ => ?_)
  refine aw_aload_n dX0_init_25 rfl ?_
  refine aw_iconst (5 : Int32) dX0_init_26 rfl ?_
  refine aw_newq (fun _ => rfl) (fun _ _ _ _ h9 => h9.2.2.2.1) cl_X0_15 dX0_init_27 (fun x27 => ?_)
  refine aw_pA dX0_init_30 pl_X0_17i (fun _ => ?_)
  refine aw_aload_n dX0_init_33 rfl ?_
  refine aw_iconst (0 : Int32) dX0_init_34 rfl ?_
  refine aw_pI dX0_init_35 pl_X0_21i (fun _ => ?_)
  refine aw_aload_n dX0_init_38 rfl ?_
  refine aw_iload_n dX0_init_39 rfl ?_
  refine aw_pI dX0_init_40 pl_X0_25i (fun _ => ?_)
  refine aw_aload_n dX0_init_43 rfl ?_
  refine aw_aload_n dX0_init_44 rfl ?_
  refine aw_pA dX0_init_45 pl_X0_28i (fun _ => ?_)
  refine aw_aload_n dX0_init_48 rfl ?_
  refine aw_iload_n dX0_init_49 rfl ?_
  refine aw_pI dX0_init_50 pl_X0_31i (fun _ => ?_)
  refine aw_aload_n dX0_init_53 rfl ?_
  refine aw_aload dX0_init_54 rfl ?_
  refine aw_cV0 puL dX0_init_56 (fun o => ctX6_lower o ) mcX6_lower ml_X0_34 rfl rfl msX6_lower rfl (by decide) (Nat.le_of_ble_eq_true rfl) (fun x56 => ?_)
  refine aw_pL dX0_init_59 pl_X0_40i (fun _ => ?_)
  refine aw_aload_n dX0_init_62 rfl ?_
  refine aw_aload_n dX0_init_63 rfl ?_
  refine aw_aln dX0_init_64 (fun x64 => ?_)
  refine aw_iload_n dX0_init_65 rfl ?_
  refine aw_iconst (1 : Int32) dX0_init_66 rfl ?_
  refine aw_iadd dX0_init_67 ?_
  refine aw_newm cl_X0_43 dX0_init_68 (fun x68 => ?_)
  refine aw_pA dX0_init_72 pl_X0_45i (fun _ => ?_)
  refine aw_iconst (0 : Int32) dX0_init_75 rfl ?_
  refine aw_istore dX0_init_76 (by decide) ?_
  refine aw_msk [true, true, true, false, true, true, false] ?_
  exact afX0_init_78   FU t v1 v2 v4 ((0 : Int32))
set_option maxRecDepth 20000 in
theorem abX6_bringPivot_2 {C : Cx} {res : Int32 × Hp}  {k2 : Nat → Int32 → Int32 → Mo Int32} (h2 : ∀ (t : Nat) (v1 : Int32) (v2 : Int32), AW C cX6_bringPivot mX6_bringPivot qI res 2 [vr (some t), vi v1, vi v2, vu] [] (k2 t v1 v2)) : ∀ (t : Nat) (v1 : Int32) (v2 : Int32), AW C cX6_bringPivot mX6_bringPivot qI res 2 [vr (some t), vi v1, vi v2, vu] [] (bX6_bringPivot_2  k2 t v1 v2) := by
  intro t v1 v2
  refine aw_iload_n dX6_bringPivot_2 rfl ?_
  refine aw_aload_n dX6_bringPivot_3 rfl ?_
  refine aw_gI dX6_bringPivot_4 fl_X6_16 (fun x4 => ?_)
  refine aw_icmp_ge 57 dX6_bringPivot_7 (by decide) ?_ ?_
  · refine aw_iconst (0 : Int32) dX6_bringPivot_57 rfl ?_
    exact aw_zret dX6_bringPivot_58 rfl
  · refine aw_aload_n dX6_bringPivot_10 rfl ?_
    refine aw_gA dX6_bringPivot_11 fl_X6_11 (fun x11 => ?_)
    refine aw_iload_n dX6_bringPivot_14 rfl ?_
    refine aw_aald 6 (fun _ => rfl) rfl dX6_bringPivot_15 (fun x15 => ?_)
    refine aw_iload_n dX6_bringPivot_16 rfl ?_
    refine aw_lald dX6_bringPivot_17 (fun x17 => ?_)
    refine aw_lconst (0 : Int64) dX6_bringPivot_18 rfl ?_
    refine aw_leq 51 dX6_bringPivot_19 dX6_bringPivot_20 (by decide) ?_ ?_
    · refine aw_iinc (v2 + (1 : Int32)) dX6_bringPivot_51 rfl rfl (by decide) ?_
      refine aw_goto 2 dX6_bringPivot_54 (by decide) ?_
      refine aw_msk [true, true, true, false] ?_
      exact h2 t v1 ((v2 + (1 : Int32)))
    · refine aw_aload_n dX6_bringPivot_23 rfl ?_
      refine aw_gA dX6_bringPivot_24 fl_X6_11 (fun x24 => ?_)
      refine aw_iload_n dX6_bringPivot_27 rfl ?_
      refine aw_aald 6 (fun _ => rfl) rfl dX6_bringPivot_28 (fun x28 => ?_)
      refine aw_astore_n dX6_bringPivot_29 (by decide) ?_
      refine aw_aload_n dX6_bringPivot_30 rfl ?_
      refine aw_gA dX6_bringPivot_31 fl_X6_11 (fun x31 => ?_)
      refine aw_iload_n dX6_bringPivot_34 rfl ?_
      refine aw_aload_n dX6_bringPivot_35 rfl ?_
      refine aw_gA dX6_bringPivot_36 fl_X6_11 (fun x36 => ?_)
      refine aw_iload_n dX6_bringPivot_39 rfl ?_
      refine aw_aald 6 (fun _ => rfl) rfl dX6_bringPivot_40 (fun x40 => ?_)
      refine aw_rast dX6_bringPivot_41 (fun _ => ?_)
      refine aw_aload_n dX6_bringPivot_42 rfl ?_
      refine aw_gA dX6_bringPivot_43 fl_X6_11 (fun x43 => ?_)
      refine aw_iload_n dX6_bringPivot_46 rfl ?_
      refine aw_aload_n dX6_bringPivot_47 rfl ?_
      refine aw_rast dX6_bringPivot_48 (fun _ => ?_)
      refine aw_iconst (1 : Int32) dX6_bringPivot_49 rfl ?_
      exact aw_zret dX6_bringPivot_50 rfl
theorem afX6_bringPivot_2 {C : Cx} {res : Int32 × Hp}   : ∀ (n : Nat) (t : Nat) (v1 : Int32) (v2 : Int32), AW C cX6_bringPivot mX6_bringPivot qI res 2 [vr (some t), vi v1, vi v2, vu] [] (fX6_bringPivot_2   n t v1 v2)
  | 0, _, _, _ => aw_fl
  | n + 1, t, v1, v2 => abX6_bringPivot_2  (fun t v1 v2 => afX6_bringPivot_2   n t v1 v2) t v1 v2
set_option maxRecDepth 20000 in
theorem ctX6_bringPivot (t : Nat) (v1 : Int32) : Ct yX6_bringPivot cX6_bringPivot mX6_bringPivot qI [vr (some t), vi v1] (pX6_bringPivot t v1) := by
  refine ct_go rfl rfl (fun h9 => by cases h9) (Nat.le_of_ble_eq_true rfl) (fun C res => ?_)
  refine aw_iload_n dX6_bringPivot_0 rfl ?_
  refine aw_istore_n dX6_bringPivot_1 (by decide) ?_
  refine aw_msk [true, true, true, false] ?_
  exact afX6_bringPivot_2   FU t v1 v1
set_option maxRecDepth 20000 in
theorem abX6_clear_30 {C : Cx} {res : Unit × Hp}  {k30 : Nat → Int32 → Int32 → Int64 → Int64 → Int64 → Int32 → Mo Unit} (h30 : ∀ (t : Nat) (v1 : Int32) (v2 : Int32) (v3 : Int64) (v5 : Int64) (v7 : Int64) (v9 : Int32), AW C cX6_clear mX6_clear qV res 30 [vr (some t), vi v1, vi v2, vl v3, vu, vl v5, vu, vl v7, vu, vi v9] [] (k30 t v1 v2 v3 v5 v7 v9)) : ∀ (t : Nat) (v1 : Int32) (v2 : Int32) (v3 : Int64) (v5 : Int64) (v7 : Int64) (v9 : Int32), AW C cX6_clear mX6_clear qV res 30 [vr (some t), vi v1, vi v2, vl v3, vu, vl v5, vu, vl v7, vu, vi v9] [] (bX6_clear_30  k30 t v1 v2 v3 v5 v7 v9) := by
  intro t v1 v2 v3 v5 v7 v9
  refine aw_iload dX6_clear_30 rfl ?_
  refine aw_aload_n dX6_clear_32 rfl ?_
  refine aw_gI dX6_clear_33 fl_X6_20 (fun x33 => ?_)
  refine aw_icmp_ge 81 dX6_clear_36 (by decide) ?_ ?_
  · exact aw_vret dX6_clear_81 rfl
  · refine aw_aload_n dX6_clear_39 rfl ?_
    refine aw_gA dX6_clear_40 fl_X6_11 (fun x40 => ?_)
    refine aw_iload_n dX6_clear_43 rfl ?_
    refine aw_aald 6 (fun _ => rfl) rfl dX6_clear_44 (fun x44 => ?_)
    refine aw_iload dX6_clear_45 rfl ?_
    refine aw_lload dX6_clear_47 rfl ?_
    refine aw_aload_n dX6_clear_49 rfl ?_
    refine aw_gA dX6_clear_50 fl_X6_11 (fun x50 => ?_)
    refine aw_iload_n dX6_clear_53 rfl ?_
    refine aw_aald 6 (fun _ => rfl) rfl dX6_clear_54 (fun x54 => ?_)
    refine aw_iload dX6_clear_55 rfl ?_
    refine aw_lald dX6_clear_57 (fun x57 => ?_)
    refine aw_lmul dX6_clear_58 ?_
    refine aw_lload dX6_clear_59 rfl ?_
    refine aw_aload_n dX6_clear_61 rfl ?_
    refine aw_gA dX6_clear_62 fl_X6_11 (fun x62 => ?_)
    refine aw_iload_n dX6_clear_65 rfl ?_
    refine aw_aald 6 (fun _ => rfl) rfl dX6_clear_66 (fun x66 => ?_)
    refine aw_iload dX6_clear_67 rfl ?_
    refine aw_lald dX6_clear_69 (fun x69 => ?_)
    refine aw_lmul dX6_clear_70 ?_
    refine aw_lsub dX6_clear_71 ?_
    refine aw_lload_n dX6_clear_72 rfl ?_
    refine aw_ldiv dX6_clear_73 (fun x73 => ?_)
    refine aw_last dX6_clear_74 (fun _ => ?_)
    refine aw_iinc (v9 + (1 : Int32)) dX6_clear_75 rfl rfl (by decide) ?_
    refine aw_goto 30 dX6_clear_78 (by decide) ?_
    refine aw_msk [true, true, true, true, false, true, false, true, false, true] ?_
    exact h30 t v1 v2 v3 v5 v7 ((v9 + (1 : Int32)))
theorem afX6_clear_30 {C : Cx} {res : Unit × Hp}   : ∀ (n : Nat) (t : Nat) (v1 : Int32) (v2 : Int32) (v3 : Int64) (v5 : Int64) (v7 : Int64) (v9 : Int32), AW C cX6_clear mX6_clear qV res 30 [vr (some t), vi v1, vi v2, vl v3, vu, vl v5, vu, vl v7, vu, vi v9] [] (fX6_clear_30   n t v1 v2 v3 v5 v7 v9)
  | 0, _, _, _, _, _, _, _ => aw_fl
  | n + 1, t, v1, v2, v3, v5, v7, v9 => abX6_clear_30  (fun t v1 v2 v3 v5 v7 v9 => afX6_clear_30   n t v1 v2 v3 v5 v7 v9) t v1 v2 v3 v5 v7 v9
set_option maxRecDepth 20000 in
theorem ctX6_clear (t : Nat) (v1 : Int32) (v2 : Int32) (v3 : Int64) : Ct yX6_clear cX6_clear mX6_clear qV [vr (some t), vi v1, vi v2, vl v3] (pX6_clear t v1 v2 v3) := by
  refine ct_go rfl rfl (fun h9 => by cases h9) (Nat.le_of_ble_eq_true rfl) (fun C res => ?_)
  refine aw_lload_n dX6_clear_0 rfl ?_
  refine aw_lconst (0 : Int64) dX6_clear_1 rfl ?_
  refine aw_lne 7 dX6_clear_2 dX6_clear_3 (by decide) ?_ ?_
  · refine aw_aload_n dX6_clear_7 rfl ?_
    refine aw_gA dX6_clear_8 fl_X6_11 (fun x8 => ?_)
    refine aw_iload_n dX6_clear_11 rfl ?_
    refine aw_aald 6 (fun _ => rfl) rfl dX6_clear_12 (fun x12 => ?_)
    refine aw_iload_n dX6_clear_13 rfl ?_
    refine aw_lald dX6_clear_14 (fun x14 => ?_)
    refine aw_lstore dX6_clear_15 (by decide) ?_
    refine aw_aload_n dX6_clear_17 rfl ?_
    refine aw_gA dX6_clear_18 fl_X6_11 (fun x18 => ?_)
    refine aw_iload_n dX6_clear_21 rfl ?_
    refine aw_aald 6 (fun _ => rfl) rfl dX6_clear_22 (fun x22 => ?_)
    refine aw_iload_n dX6_clear_23 rfl ?_
    refine aw_lald dX6_clear_24 (fun x24 => ?_)
    refine aw_lstore dX6_clear_25 (by decide) ?_
    refine aw_iconst (0 : Int32) dX6_clear_27 rfl ?_
    refine aw_istore dX6_clear_28 (by decide) ?_
    refine aw_msk [true, true, true, true, false, true, false, true, false, true] ?_
    exact afX6_clear_30   FU t v1 v2 v3 x14 x24 ((0 : Int32))
  · exact aw_vret dX6_clear_6 rfl
set_option maxRecDepth 20000 in
theorem abX6_eliminate_25 {C : Cx} {res : Int32 × Hp}  {k4 : Nat → Int64 → Int32 → Mo Int32} (h4 : ∀ (t : Nat) (v1 : Int64) (v3 : Int32), AW C cX6_eliminate mX6_eliminate qI res 4 [vr (some t), vl v1, vu, vi v3, vu] [] (k4 t v1 v3)) {k25 : Nat → Int64 → Int32 → Int32 → Mo Int32} (h25 : ∀ (t : Nat) (v1 : Int64) (v3 : Int32) (v4 : Int32), AW C cX6_eliminate mX6_eliminate qI res 25 [vr (some t), vl v1, vu, vi v3, vi v4] [] (k25 t v1 v3 v4)) : ∀ (t : Nat) (v1 : Int64) (v3 : Int32) (v4 : Int32), AW C cX6_eliminate mX6_eliminate qI res 25 [vr (some t), vl v1, vu, vi v3, vi v4] [] (bX6_eliminate_25  k4 k25 t v1 v3 v4) := by
  intro t v1 v3 v4
  refine aw_iload dX6_eliminate_25 rfl ?_
  refine aw_aload_n dX6_eliminate_27 rfl ?_
  refine aw_gI dX6_eliminate_28 fl_X6_16 (fun x28 => ?_)
  refine aw_icmp_ge 54 dX6_eliminate_31 (by decide) ?_ ?_
  · refine aw_aload_n dX6_eliminate_54 rfl ?_
    refine aw_gA dX6_eliminate_55 fl_X6_11 (fun x55 => ?_)
    refine aw_iload_n dX6_eliminate_58 rfl ?_
    refine aw_aald 6 (fun _ => rfl) rfl dX6_eliminate_59 (fun x59 => ?_)
    refine aw_iload_n dX6_eliminate_60 rfl ?_
    refine aw_lald dX6_eliminate_61 (fun x61 => ?_)
    refine aw_lstore_n dX6_eliminate_62 (by decide) ?_
    refine aw_iinc (v3 + (1 : Int32)) dX6_eliminate_63 rfl rfl (by decide) ?_
    refine aw_goto 4 dX6_eliminate_66 (by decide) ?_
    refine aw_msk [true, true, false, true, false] ?_
    exact h4 t x61 ((v3 + (1 : Int32)))
  · refine aw_iload dX6_eliminate_34 rfl ?_
    refine aw_iload_n dX6_eliminate_36 rfl ?_
    refine aw_icmp_eq 48 dX6_eliminate_37 (by decide) ?_ ?_
    · refine aw_iinc (v4 + (1 : Int32)) dX6_eliminate_48 rfl rfl (by decide) ?_
      refine aw_goto 25 dX6_eliminate_51 (by decide) ?_
      refine aw_msk [true, true, false, true, true] ?_
      exact h25 t v1 v3 ((v4 + (1 : Int32)))
    · refine aw_aload_n dX6_eliminate_40 rfl ?_
      refine aw_iload dX6_eliminate_41 rfl ?_
      refine aw_iload_n dX6_eliminate_43 rfl ?_
      refine aw_lload_n dX6_eliminate_44 rfl ?_
      refine aw_cV3 puV dX6_eliminate_45 (fun o => ctX6_clear o _ _ _) mcX6_clear ml_X6_50 rfl rfl msX6_clear rfl (by decide) (Nat.le_of_ble_eq_true rfl) (fun _ => ?_)
      refine aw_iinc (v4 + (1 : Int32)) dX6_eliminate_48 rfl rfl (by decide) ?_
      refine aw_goto 25 dX6_eliminate_51 (by decide) ?_
      refine aw_msk [true, true, false, true, true] ?_
      exact h25 t v1 v3 ((v4 + (1 : Int32)))
theorem afX6_eliminate_25 {C : Cx} {res : Int32 × Hp}  {k4 : Nat → Int64 → Int32 → Mo Int32} (h4 : ∀ (t : Nat) (v1 : Int64) (v3 : Int32), AW C cX6_eliminate mX6_eliminate qI res 4 [vr (some t), vl v1, vu, vi v3, vu] [] (k4 t v1 v3)) : ∀ (n : Nat) (t : Nat) (v1 : Int64) (v3 : Int32) (v4 : Int32), AW C cX6_eliminate mX6_eliminate qI res 25 [vr (some t), vl v1, vu, vi v3, vi v4] [] (fX6_eliminate_25  k4 n t v1 v3 v4)
  | 0, _, _, _, _ => aw_fl
  | n + 1, t, v1, v3, v4 => abX6_eliminate_25  h4 (fun t v1 v3 v4 => afX6_eliminate_25  h4 n t v1 v3 v4) t v1 v3 v4
set_option maxRecDepth 20000 in
theorem abX6_eliminate_4 {C : Cx} {res : Int32 × Hp}  {k4 : Nat → Int64 → Int32 → Mo Int32} (h4 : ∀ (t : Nat) (v1 : Int64) (v3 : Int32), AW C cX6_eliminate mX6_eliminate qI res 4 [vr (some t), vl v1, vu, vi v3, vu] [] (k4 t v1 v3)) : ∀ (t : Nat) (v1 : Int64) (v3 : Int32), AW C cX6_eliminate mX6_eliminate qI res 4 [vr (some t), vl v1, vu, vi v3, vu] [] (bX6_eliminate_4  k4 t v1 v3) := by
  intro t v1 v3
  refine aw_iload_n dX6_eliminate_4 rfl ?_
  refine aw_aload_n dX6_eliminate_5 rfl ?_
  refine aw_gI dX6_eliminate_6 fl_X6_16 (fun x6 => ?_)
  refine aw_icmp_ge 69 dX6_eliminate_9 (by decide) ?_ ?_
  · refine aw_iconst (1 : Int32) dX6_eliminate_69 rfl ?_
    exact aw_zret dX6_eliminate_70 rfl
  · refine aw_aload_n dX6_eliminate_12 rfl ?_
    refine aw_iload_n dX6_eliminate_13 rfl ?_
    refine aw_cV1 puI dX6_eliminate_14 (fun o => ctX6_bringPivot o _) mcX6_bringPivot ml_X6_46 rfl rfl msX6_bringPivot rfl (by decide) (Nat.le_of_ble_eq_true rfl) (fun x14 => ?_)
    refine aw_if_ne 22 dX6_eliminate_17 (by decide) ?_ ?_
    · refine aw_iconst (0 : Int32) dX6_eliminate_22 rfl ?_
      refine aw_istore dX6_eliminate_23 (by decide) ?_
      refine aw_msk [true, true, false, true, true] ?_
      exact afX6_eliminate_25  h4 FU t v1 v3 ((0 : Int32))
    · refine aw_iconst (0 : Int32) dX6_eliminate_20 rfl ?_
      exact aw_zret dX6_eliminate_21 rfl
theorem afX6_eliminate_4 {C : Cx} {res : Int32 × Hp}   : ∀ (n : Nat) (t : Nat) (v1 : Int64) (v3 : Int32), AW C cX6_eliminate mX6_eliminate qI res 4 [vr (some t), vl v1, vu, vi v3, vu] [] (fX6_eliminate_4   n t v1 v3)
  | 0, _, _, _ => aw_fl
  | n + 1, t, v1, v3 => abX6_eliminate_4  (fun t v1 v3 => afX6_eliminate_4   n t v1 v3) t v1 v3
set_option maxRecDepth 20000 in
theorem ctX6_eliminate (t : Nat) : Ct yX6_eliminate cX6_eliminate mX6_eliminate qI [vr (some t)] (pX6_eliminate t) := by
  refine ct_go rfl rfl (fun h9 => by cases h9) (Nat.le_of_ble_eq_true rfl) (fun C res => ?_)
  refine aw_lconst (1 : Int64) dX6_eliminate_0 rfl ?_
  refine aw_lstore_n dX6_eliminate_1 (by decide) ?_
  refine aw_iconst (0 : Int32) dX6_eliminate_2 rfl ?_
  refine aw_istore_n dX6_eliminate_3 (by decide) ?_
  refine aw_msk [true, true, false, true, false] ?_
  exact afX6_eliminate_4   FU t ((1 : Int64)) ((0 : Int32))
set_option maxRecDepth 20000 in
theorem abX6_writeCondition_44 {C : Cx} {res : Unit × Hp}  {k44 : Nat → Int32 → Int32 → Int32 → Mo Unit} (h44 : ∀ (t : Nat) (v1 : Int32) (v2 : Int32) (v4 : Int32), AW C cX6_writeCondition mX6_writeCondition qV res 44 [vr (some t), vi v1, vi v2, vu, vi v4] [] (k44 t v1 v2 v4)) : ∀ (t : Nat) (v1 : Int32) (v2 : Int32) (v4 : Int32), AW C cX6_writeCondition mX6_writeCondition qV res 44 [vr (some t), vi v1, vi v2, vu, vi v4] [] (bX6_writeCondition_44  k44 t v1 v2 v4) := by
  intro t v1 v2 v4
  refine aw_iload dX6_writeCondition_44 rfl ?_
  refine aw_aload_n dX6_writeCondition_46 rfl ?_
  refine aw_gI dX6_writeCondition_47 fl_X6_20 (fun x47 => ?_)
  refine aw_icmp_ge 82 dX6_writeCondition_50 (by decide) ?_ ?_
  · exact aw_vret dX6_writeCondition_82 rfl
  · refine aw_aload_n dX6_writeCondition_53 rfl ?_
    refine aw_gA dX6_writeCondition_54 fl_X6_11 (fun x54 => ?_)
    refine aw_iload_n dX6_writeCondition_57 rfl ?_
    refine aw_aald 6 (fun _ => rfl) rfl dX6_writeCondition_58 (fun x58 => ?_)
    refine aw_iload dX6_writeCondition_59 rfl ?_
    refine aw_iconst (0 : Int32) dX6_writeCondition_61 rfl ?_
    refine aw_iload_n dX6_writeCondition_62 rfl ?_
    refine aw_iload dX6_writeCondition_63 rfl ?_
    refine aw_aload_n dX6_writeCondition_65 rfl ?_
    refine aw_gI dX6_writeCondition_66 fl_X6_16 (fun x66 => ?_)
    refine aw_isub dX6_writeCondition_69 ?_
    refine aw_isub dX6_writeCondition_70 ?_
    refine aw_mmaxI dX6_writeCondition_71 mk_X6_43 (by decide) (by decide) (Nat.le_of_ble_eq_true rfl) ?_
    refine aw_i2l dX6_writeCondition_74 ?_
    refine aw_last dX6_writeCondition_75 (fun _ => ?_)
    refine aw_iinc (v4 + (1 : Int32)) dX6_writeCondition_76 rfl rfl (by decide) ?_
    refine aw_goto 44 dX6_writeCondition_79 (by decide) ?_
    refine aw_msk [true, true, true, false, true] ?_
    exact h44 t v1 v2 ((v4 + (1 : Int32)))
theorem afX6_writeCondition_44 {C : Cx} {res : Unit × Hp}   : ∀ (n : Nat) (t : Nat) (v1 : Int32) (v2 : Int32) (v4 : Int32), AW C cX6_writeCondition mX6_writeCondition qV res 44 [vr (some t), vi v1, vi v2, vu, vi v4] [] (fX6_writeCondition_44   n t v1 v2 v4)
  | 0, _, _, _, _ => aw_fl
  | n + 1, t, v1, v2, v4 => abX6_writeCondition_44  (fun t v1 v2 v4 => afX6_writeCondition_44   n t v1 v2 v4) t v1 v2 v4
set_option maxRecDepth 20000 in
theorem abX6_writeCondition_3 {C : Cx} {res : Unit × Hp}  {k3 : Nat → Int32 → Int32 → Option Nat → Int32 → Mo Unit} (h3 : ∀ (t : Nat) (v1 : Int32) (v2 : Int32) (v3 : Option Nat) (v4 : Int32), AW C cX6_writeCondition mX6_writeCondition qV res 3 [vr (some t), vi v1, vi v2, vr v3, vi v4] [] (k3 t v1 v2 v3 v4)) : ∀ (t : Nat) (v1 : Int32) (v2 : Int32) (v3 : Option Nat) (v4 : Int32), AW C cX6_writeCondition mX6_writeCondition qV res 3 [vr (some t), vi v1, vi v2, vr v3, vi v4] [] (bX6_writeCondition_3  k3 t v1 v2 v3 v4) := by
  intro t v1 v2 v3 v4
  refine aw_iload dX6_writeCondition_3 rfl ?_
  refine aw_aload_n dX6_writeCondition_5 rfl ?_
  refine aw_gI dX6_writeCondition_6 fl_X6_16 (fun x6 => ?_)
  refine aw_icmp_ge 38 dX6_writeCondition_9 (by decide) ?_ ?_
  · refine aw_aload_n dX6_writeCondition_38 rfl ?_
    refine aw_gI dX6_writeCondition_39 fl_X6_16 (fun x39 => ?_)
    refine aw_istore dX6_writeCondition_42 (by decide) ?_
    refine aw_msk [true, true, true, false, true] ?_
    exact afX6_writeCondition_44   FU t v1 v2 x39
  · refine aw_aload_n dX6_writeCondition_12 rfl ?_
    refine aw_gA dX6_writeCondition_13 fl_X6_11 (fun x13 => ?_)
    refine aw_iload_n dX6_writeCondition_16 rfl ?_
    refine aw_aald 6 (fun _ => rfl) rfl dX6_writeCondition_17 (fun x17 => ?_)
    refine aw_iload dX6_writeCondition_18 rfl ?_
    refine aw_iconst (0 : Int32) dX6_writeCondition_20 rfl ?_
    refine aw_iload_n dX6_writeCondition_21 rfl ?_
    refine aw_aload_n dX6_writeCondition_22 rfl ?_
    refine aw_iload dX6_writeCondition_23 rfl ?_
    refine aw_iald dX6_writeCondition_25 (fun x25 => ?_)
    refine aw_isub dX6_writeCondition_26 ?_
    refine aw_mmaxI dX6_writeCondition_27 mk_X6_43 (by decide) (by decide) (Nat.le_of_ble_eq_true rfl) ?_
    refine aw_i2l dX6_writeCondition_30 ?_
    refine aw_last dX6_writeCondition_31 (fun _ => ?_)
    refine aw_iinc (v4 + (1 : Int32)) dX6_writeCondition_32 rfl rfl (by decide) ?_
    refine aw_goto 3 dX6_writeCondition_35 (by decide) ?_
    refine aw_msk [true, true, true, true, true] ?_
    exact h3 t v1 v2 v3 ((v4 + (1 : Int32)))
theorem afX6_writeCondition_3 {C : Cx} {res : Unit × Hp}   : ∀ (n : Nat) (t : Nat) (v1 : Int32) (v2 : Int32) (v3 : Option Nat) (v4 : Int32), AW C cX6_writeCondition mX6_writeCondition qV res 3 [vr (some t), vi v1, vi v2, vr v3, vi v4] [] (fX6_writeCondition_3   n t v1 v2 v3 v4)
  | 0, _, _, _, _, _ => aw_fl
  | n + 1, t, v1, v2, v3, v4 => abX6_writeCondition_3  (fun t v1 v2 v3 v4 => afX6_writeCondition_3   n t v1 v2 v3 v4) t v1 v2 v3 v4
set_option maxRecDepth 20000 in
theorem ctX6_writeCondition (t : Nat) (v1 : Int32) (v2 : Int32) (v3 : Option Nat) : Ct yX6_writeCondition cX6_writeCondition mX6_writeCondition qV [vr (some t), vi v1, vi v2, vr v3] (pX6_writeCondition t v1 v2 v3) := by
  refine ct_go rfl rfl (fun h9 => by cases h9) (Nat.le_of_ble_eq_true rfl) (fun C res => ?_)
  refine aw_iconst (0 : Int32) dX6_writeCondition_0 rfl ?_
  refine aw_istore dX6_writeCondition_1 (by decide) ?_
  refine aw_msk [true, true, true, true, true] ?_
  exact afX6_writeCondition_3   FU t v1 v2 v3 ((0 : Int32))
set_option maxRecDepth 20000 in
theorem ctJ7_rangeCheck_23922 (v0 : Int32) (v1 : Int32) (v2 : Int32) : Ct yJ7_rangeCheck_23922 cJ7_rangeCheck_23922 mJ7_rangeCheck_23922 qV [vi v0, vi v1, vi v2] (pJ7_rangeCheck_23922 v0 v1 v2) := by
  refine ct_go rfl rfl (fun h9 => by cases h9) (Nat.le_of_ble_eq_true rfl) (fun C res => ?_)
  refine aw_iload_n dJ7_rangeCheck_23922_0 rfl ?_
  refine aw_iload_n dJ7_rangeCheck_23922_1 rfl ?_
  refine aw_icmp_le 46 dJ7_rangeCheck_23922_2 (by decide) ?_ ?_
  · refine aw_iload_n dJ7_rangeCheck_23922_46 rfl ?_
    refine aw_if_ge 59 dJ7_rangeCheck_23922_47 (by decide) ?_ ?_
    · refine aw_iload_n dJ7_rangeCheck_23922_59 rfl ?_
      refine aw_iload_n dJ7_rangeCheck_23922_60 rfl ?_
      refine aw_icmp_le 73 dJ7_rangeCheck_23922_61 (by decide) ?_ ?_
      · exact aw_vret dJ7_rangeCheck_23922_73 rfl
      · exact aw_fl
    · exact aw_fl
  · exact aw_fl
set_option maxRecDepth 20000 in
theorem abJ7_fill_bad5a_10 {C : Cx} {res : Unit × Hp}  {k10 : Option Nat → Int32 → Int64 → Int32 → Mo Unit} (h10 : ∀ (v0 : Option Nat) (v2 : Int32) (v3 : Int64) (v5 : Int32), AW C cJ7_fill_bad5a mJ7_fill_bad5a qV res 10 [vr v0, vu, vi v2, vl v3, vu, vi v5] [] (k10 v0 v2 v3 v5)) : ∀ (v0 : Option Nat) (v2 : Int32) (v3 : Int64) (v5 : Int32), AW C cJ7_fill_bad5a mJ7_fill_bad5a qV res 10 [vr v0, vu, vi v2, vl v3, vu, vi v5] [] (bJ7_fill_bad5a_10  k10 v0 v2 v3 v5) := by
  intro v0 v2 v3 v5
  refine aw_iload dJ7_fill_bad5a_10 rfl ?_
  refine aw_iload_n dJ7_fill_bad5a_12 rfl ?_
  refine aw_icmp_ge 27 dJ7_fill_bad5a_13 (by decide) ?_ ?_
  · exact aw_vret dJ7_fill_bad5a_27 rfl
  · refine aw_aload_n dJ7_fill_bad5a_16 rfl ?_
    refine aw_iload dJ7_fill_bad5a_17 rfl ?_
    refine aw_lload_n dJ7_fill_bad5a_19 rfl ?_
    refine aw_last dJ7_fill_bad5a_20 (fun _ => ?_)
    refine aw_iinc (v5 + (1 : Int32)) dJ7_fill_bad5a_21 rfl rfl (by decide) ?_
    refine aw_goto 10 dJ7_fill_bad5a_24 (by decide) ?_
    refine aw_msk [true, false, true, true, false, true] ?_
    exact h10 v0 v2 v3 ((v5 + (1 : Int32)))
theorem afJ7_fill_bad5a_10 {C : Cx} {res : Unit × Hp}   : ∀ (n : Nat) (v0 : Option Nat) (v2 : Int32) (v3 : Int64) (v5 : Int32), AW C cJ7_fill_bad5a mJ7_fill_bad5a qV res 10 [vr v0, vu, vi v2, vl v3, vu, vi v5] [] (fJ7_fill_bad5a_10   n v0 v2 v3 v5)
  | 0, _, _, _, _ => aw_fl
  | n + 1, v0, v2, v3, v5 => abJ7_fill_bad5a_10  (fun v0 v2 v3 v5 => afJ7_fill_bad5a_10   n v0 v2 v3 v5) v0 v2 v3 v5
set_option maxRecDepth 20000 in
theorem ctJ7_fill_bad5a (v0 : Option Nat) (v1 : Int32) (v2 : Int32) (v3 : Int64) : Ct yJ7_fill_bad5a cJ7_fill_bad5a mJ7_fill_bad5a qV [vr v0, vi v1, vi v2, vl v3] (pJ7_fill_bad5a v0 v1 v2 v3) := by
  refine ct_go rfl rfl (fun h9 => by cases h9) (Nat.le_of_ble_eq_true rfl) (fun C res => ?_)
  refine aw_aload_n dJ7_fill_bad5a_0 rfl ?_
  refine aw_aln dJ7_fill_bad5a_1 (fun x1 => ?_)
  refine aw_iload_n dJ7_fill_bad5a_2 rfl ?_
  refine aw_iload_n dJ7_fill_bad5a_3 rfl ?_
  refine aw_cS3 puV dJ7_fill_bad5a_4 (ctJ7_rangeCheck_23922 _ _ _) mcJ7_rangeCheck_23922 ml_J7_13 msJ7_rangeCheck_23922 rfl (by decide) (Nat.le_of_ble_eq_true rfl) (fun _ => ?_)
  refine aw_iload_n dJ7_fill_bad5a_7 rfl ?_
  refine aw_istore dJ7_fill_bad5a_8 (by decide) ?_
  refine aw_msk [true, false, true, true, false, true] ?_
  exact afJ7_fill_bad5a_10   FU v0 v2 v3 v1
set_option maxRecDepth 20000 in
theorem abX6_solve_89 {C : Cx} {res : Int32 × Hp}   : ∀ (t : Nat), AW C cX6_solve mX6_solve qI res 89 [vr (some t), vu, vu, vu, vu] [] (bX6_solve_89   t) := by
  intro t
  refine aw_aload_n dX6_solve_89 rfl ?_
  refine aw_cV0 puI dX6_solve_90 (fun o => ctX6_eliminate o ) mcX6_eliminate ml_X6_39 rfl rfl msX6_eliminate rfl (by decide) (Nat.le_of_ble_eq_true rfl) (fun x90 => ?_)
  exact aw_zret dX6_solve_93 rfl
set_option maxRecDepth 20000 in
theorem abX6_solve_52 {C : Cx} {res : Int32 × Hp}  {k52 : Nat → Option Nat → Option Nat → Int32 → Mo Int32} (h52 : ∀ (t : Nat) (v2 : Option Nat) (v3 : Option Nat) (v4 : Int32), AW C cX6_solve mX6_solve qI res 52 [vr (some t), vu, vr v2, vr v3, vi v4] [] (k52 t v2 v3 v4)) : ∀ (t : Nat) (v2 : Option Nat) (v3 : Option Nat) (v4 : Int32), AW C cX6_solve mX6_solve qI res 52 [vr (some t), vu, vr v2, vr v3, vi v4] [] (bX6_solve_52  k52 t v2 v3 v4) := by
  intro t v2 v3 v4
  refine aw_iload dX6_solve_52 rfl ?_
  refine aw_aload_n dX6_solve_54 rfl ?_
  refine aw_aln dX6_solve_55 (fun x55 => ?_)
  refine aw_icmp_ge 89 dX6_solve_56 (by decide) ?_ ?_
  · refine aw_msk [true, false, false, false, false] ?_
    exact abX6_solve_89   t
  · refine aw_iload dX6_solve_59 rfl ?_
    refine aw_iconst (2 : Int32) dX6_solve_61 rfl ?_
    refine aw_iadd dX6_solve_62 ?_
    refine aw_aload_n dX6_solve_63 rfl ?_
    refine aw_gI dX6_solve_64 fl_X6_16 (fun x64 => ?_)
    refine aw_icmp_ge 89 dX6_solve_67 (by decide) ?_ ?_
    · refine aw_msk [true, false, false, false, false] ?_
      exact abX6_solve_89   t
    · refine aw_aload_n dX6_solve_70 rfl ?_
      refine aw_iload dX6_solve_71 rfl ?_
      refine aw_iconst (2 : Int32) dX6_solve_73 rfl ?_
      refine aw_iadd dX6_solve_74 ?_
      refine aw_aload_n dX6_solve_75 rfl ?_
      refine aw_iload dX6_solve_76 rfl ?_
      refine aw_iald dX6_solve_78 (fun x78 => ?_)
      refine aw_aload_n dX6_solve_79 rfl ?_
      refine aw_cV3 puV dX6_solve_80 (fun o => ctX6_writeCondition o _ _ _) mcX6_writeCondition ml_X6_35 rfl rfl msX6_writeCondition rfl (by decide) (Nat.le_of_ble_eq_true rfl) (fun _ => ?_)
      refine aw_iinc (v4 + (1 : Int32)) dX6_solve_83 rfl rfl (by decide) ?_
      refine aw_goto 52 dX6_solve_86 (by decide) ?_
      refine aw_msk [true, false, true, true, true] ?_
      exact h52 t v2 v3 ((v4 + (1 : Int32)))
theorem afX6_solve_52 {C : Cx} {res : Int32 × Hp}   : ∀ (n : Nat) (t : Nat) (v2 : Option Nat) (v3 : Option Nat) (v4 : Int32), AW C cX6_solve mX6_solve qI res 52 [vr (some t), vu, vr v2, vr v3, vi v4] [] (fX6_solve_52   n t v2 v3 v4)
  | 0, _, _, _, _ => aw_fl
  | n + 1, t, v2, v3, v4 => abX6_solve_52  (fun t v2 v3 v4 => afX6_solve_52   n t v2 v3 v4) t v2 v3 v4
set_option maxRecDepth 20000 in
theorem ctX6_solve (t : Nat) (v1 : Int32) (v2 : Option Nat) (v3 : Option Nat) : Ct yX6_solve cX6_solve mX6_solve qI [vr (some t), vi v1, vr v2, vr v3] (pX6_solve t v1 v2 v3) := by
  refine ct_go rfl rfl (fun h9 => by cases h9) (Nat.le_of_ble_eq_true rfl) (fun C res => ?_)
  refine aw_aload_n dX6_solve_0 rfl ?_
  refine aw_aload_n dX6_solve_1 rfl ?_
  refine aw_aln dX6_solve_2 (fun x2 => ?_)
  refine aw_iconst (5 : Int32) dX6_solve_3 rfl ?_
  refine aw_mminI dX6_solve_4 mk_X6_23 (by decide) (by decide) (Nat.le_of_ble_eq_true rfl) ?_
  refine aw_pI dX6_solve_7 pl_X6_16 (fun _ => ?_)
  refine aw_aload_n dX6_solve_10 rfl ?_
  refine aw_aload_n dX6_solve_11 rfl ?_
  refine aw_gI dX6_solve_12 fl_X6_16 (fun x12 => ?_)
  refine aw_iload_n dX6_solve_15 rfl ?_
  refine aw_bipush (60 : Int32) dX6_solve_16 rfl ?_
  refine aw_mminI dX6_solve_18 mk_X6_23 (by decide) (by decide) (Nat.le_of_ble_eq_true rfl) ?_
  refine aw_iadd dX6_solve_21 ?_
  refine aw_iconst (1 : Int32) dX6_solve_22 rfl ?_
  refine aw_iadd dX6_solve_23 ?_
  refine aw_pI dX6_solve_24 pl_X6_20 (fun _ => ?_)
  refine aw_aload_n dX6_solve_27 rfl ?_
  refine aw_gA dX6_solve_28 fl_X6_11 (fun x28 => ?_)
  refine aw_iconst (0 : Int32) dX6_solve_31 rfl ?_
  refine aw_aald 6 (fun _ => rfl) rfl dX6_solve_32 (fun x32 => ?_)
  refine aw_iconst (0 : Int32) dX6_solve_33 rfl ?_
  refine aw_aload_n dX6_solve_34 rfl ?_
  refine aw_gI dX6_solve_35 fl_X6_20 (fun x35 => ?_)
  refine aw_lconst (1 : Int64) dX6_solve_38 rfl ?_
  refine aw_cS4 puV dX6_solve_39 (ctJ7_fill_bad5a _ _ _ _) mcJ7_fill_bad5a ml_X6_29 msJ7_fill_bad5a rfl (by decide) (Nat.le_of_ble_eq_true rfl) (fun _ => ?_)
  refine aw_aload_n dX6_solve_42 rfl ?_
  refine aw_iconst (1 : Int32) dX6_solve_43 rfl ?_
  refine aw_iload_n dX6_solve_44 rfl ?_
  refine aw_aload_n dX6_solve_45 rfl ?_
  refine aw_cV3 puV dX6_solve_46 (fun o => ctX6_writeCondition o _ _ _) mcX6_writeCondition ml_X6_35 rfl rfl msX6_writeCondition rfl (by decide) (Nat.le_of_ble_eq_true rfl) (fun _ => ?_)
  refine aw_iconst (0 : Int32) dX6_solve_49 rfl ?_
  refine aw_istore dX6_solve_50 (by decide) ?_
  refine aw_msk [true, false, true, true, true] ?_
  exact afX6_solve_52   FU t v2 v3 ((0 : Int32))
set_option maxRecDepth 20000 in
theorem ctX10_bridge (t : Nat) (v1 : Int32) (v2 : Int64) (v4 : Int64) : Ct yX10_bridge cX10_bridge mX10_bridge qI [vr (some t), vi v1, vl v2, vl v4] (pX10_bridge t v1 v2 v4) := by
  refine ct_go rfl rfl (fun h9 => by cases h9) (Nat.le_of_ble_eq_true rfl) (fun C res => ?_)
  refine aw_iload_n dX10_bridge_0 rfl ?_
  refine aw_lload_n dX10_bridge_1 rfl ?_
  refine aw_lload dX10_bridge_2 rfl ?_
  refine aw_cS3 puI dX10_bridge_4 (ctX10_wellFormed _ _ _) mcX10_wellFormed ml_X10_89 msX10_wellFormed rfl (by decide) (Nat.le_of_ble_eq_true rfl) (fun x4 => ?_)
  refine aw_if_ne 14 dX10_bridge_7 (by decide) ?_ ?_
  · refine aw_lload_n dX10_bridge_14 rfl ?_
    refine aw_cS1 puA dX10_bridge_15 (ctX10_placesOf _) mcX10_placesOf ml_X10_93 msX10_placesOf rfl (by decide) (Nat.le_of_ble_eq_true rfl) (fun x15 => ?_)
    refine aw_astore dX10_bridge_18 (by decide) ?_
    refine aw_lload dX10_bridge_20 rfl ?_
    refine aw_cS1 puA dX10_bridge_22 (ctX10_placesOf _) mcX10_placesOf ml_X10_93 msX10_placesOf rfl (by decide) (Nat.le_of_ble_eq_true rfl) (fun x22 => ?_)
    refine aw_astore dX10_bridge_25 (by decide) ?_
    refine aw_aload_n dX10_bridge_27 rfl ?_
    refine aw_gA dX10_bridge_28 fl_X10_41 (fun x28 => ?_)
    refine aw_iload_n dX10_bridge_31 rfl ?_
    refine aw_aload dX10_bridge_32 rfl ?_
    refine aw_aload dX10_bridge_34 rfl ?_
    refine aw_cV3 puI dX10_bridge_36 (fun o => ctX6_solve o _ _ _) mcX6_solve ml_X10_97 rfl rfl msX6_solve rfl (by decide) (Nat.le_of_ble_eq_true rfl) (fun x36 => ?_)
    refine aw_if_ne 46 dX10_bridge_39 (by decide) ?_ ?_
    · refine aw_aload_n dX10_bridge_46 rfl ?_
      refine aw_gI dX10_bridge_47 fl_X10_15 (fun x47 => ?_)
      refine aw_bipush (6 : Int32) dX10_bridge_50 rfl ?_
      refine aw_icmp_lt 59 dX10_bridge_52 (by decide) ?_ ?_
      · refine aw_aload_n dX10_bridge_59 rfl ?_
        refine aw_gA dX10_bridge_60 fl_X10_11 (fun x60 => ?_)
        refine aw_aload_n dX10_bridge_63 rfl ?_
        refine aw_gI dX10_bridge_64 fl_X10_15 (fun x64 => ?_)
        refine aw_new dX10_bridge_67 rfl rfl cl_X10_9 (by decide +kernel) (fun x67 => ?_)
        refine aw_dup dX10_bridge_70 rfl ?_
        refine aw_iload_n dX10_bridge_71 rfl ?_
        refine aw_aload dX10_bridge_72 rfl ?_
        refine aw_aload dX10_bridge_74 rfl ?_
        refine aw_aln dX10_bridge_76 (fun x76 => ?_)
        refine aw_aload_n dX10_bridge_77 rfl ?_
        refine aw_gA dX10_bridge_78 fl_X10_41 (fun x78 => ?_)
        refine aw_cI4 dX10_bridge_81 (fun o => ctX0_init o _ _ _ _) mcX0_init ml_X10_101 rfl rfl msX0_init rfl (by decide) (Nat.le_of_ble_eq_true rfl) (fun _ => ?_)
        refine aw_aast 3 0 (fun _ => rfl) rfl dX10_bridge_84 (fun _ => ?_)
        refine aw_aload_n dX10_bridge_85 rfl ?_
        refine aw_dup dX10_bridge_86 rfl ?_
        refine aw_gI dX10_bridge_87 fl_X10_15 (fun x87 => ?_)
        refine aw_iconst (1 : Int32) dX10_bridge_90 rfl ?_
        refine aw_iadd dX10_bridge_91 ?_
        refine aw_pI dX10_bridge_92 pl_X10_15 (fun _ => ?_)
        refine aw_aload_n dX10_bridge_95 rfl ?_
        refine aw_gI dX10_bridge_96 fl_X10_15 (fun x96 => ?_)
        refine aw_iconst (1 : Int32) dX10_bridge_99 rfl ?_
        refine aw_isub dX10_bridge_100 ?_
        exact aw_iret dX10_bridge_101 rfl
      · refine aw_sipush (-1004 : Int32) dX10_bridge_55 rfl ?_
        exact aw_iret dX10_bridge_58 rfl
    · refine aw_sipush (-1003 : Int32) dX10_bridge_42 rfl ?_
      exact aw_iret dX10_bridge_45 rfl
  · refine aw_sipush (-1002 : Int32) dX10_bridge_10 rfl ?_
    exact aw_iret dX10_bridge_13 rfl
set_option maxRecDepth 20000 in
theorem ctX10_limitsHold (v0 : Int32) (v1 : Int32) : Ct yX10_limitsHold cX10_limitsHold mX10_limitsHold qI [vi v0, vi v1] (pX10_limitsHold v0 v1) := by
  refine ct_go rfl rfl (fun h9 => by cases h9) (Nat.le_of_ble_eq_true rfl) (fun C res => ?_)
  refine aw_iload_n dX10_limitsHold_0 rfl ?_
  refine aw_iconst (0 : Int32) dX10_limitsHold_1 rfl ?_
  refine aw_ldcw dX10_limitsHold_2 cn_X10_304 ?_
  refine aw_cS3 puI dX10_limitsHold_5 (ctX10_within _ _ _) mcX10_within ml_X10_132 msX10_within rfl (by decide) (Nat.le_of_ble_eq_true rfl) (fun x5 => ?_)
  refine aw_if_eq 26 dX10_limitsHold_8 (by decide) ?_ ?_
  · refine aw_iconst (0 : Int32) dX10_limitsHold_26 rfl ?_
    exact aw_zret dX10_limitsHold_27 rfl
  · refine aw_iload_n dX10_limitsHold_11 rfl ?_
    refine aw_ldcw dX10_limitsHold_12 cn_X10_305 ?_
    refine aw_iconst (0 : Int32) dX10_limitsHold_15 rfl ?_
    refine aw_cS3 puI dX10_limitsHold_16 (ctX10_within _ _ _) mcX10_within ml_X10_132 msX10_within rfl (by decide) (Nat.le_of_ble_eq_true rfl) (fun x16 => ?_)
    refine aw_if_eq 26 dX10_limitsHold_19 (by decide) ?_ ?_
    · refine aw_iconst (0 : Int32) dX10_limitsHold_26 rfl ?_
      exact aw_zret dX10_limitsHold_27 rfl
    · refine aw_iconst (1 : Int32) dX10_limitsHold_22 rfl ?_
      refine aw_goto 27 dX10_limitsHold_23 (by decide) ?_
      exact aw_zret dX10_limitsHold_27 rfl
set_option maxRecDepth 20000 in
theorem ctX0_lacksSupport (t : Nat) (v1 : Int32) (v2 : Int32) : Ct yX0_lacksSupport cX0_lacksSupport mX0_lacksSupport qI [vr (some t), vi v1, vi v2] (pX0_lacksSupport t v1 v2) := by
  refine ct_go rfl rfl (fun h9 => by cases h9) (Nat.le_of_ble_eq_true rfl) (fun C res => ?_)
  refine aw_iload_n dX0_lacksSupport_0 rfl ?_
  refine aw_if_ne 23 dX0_lacksSupport_1 (by decide) ?_ ?_
  · refine aw_iconst (0 : Int32) dX0_lacksSupport_23 rfl ?_
    exact aw_zret dX0_lacksSupport_24 rfl
  · refine aw_iload_n dX0_lacksSupport_4 rfl ?_
    refine aw_iconst (0 : Int32) dX0_lacksSupport_5 rfl ?_
    refine aw_aload_n dX0_lacksSupport_6 rfl ?_
    refine aw_gA dX0_lacksSupport_7 fl_X0_28 (fun x7 => ?_)
    refine aw_aln dX0_lacksSupport_10 (fun x10 => ?_)
    refine aw_iconst (1 : Int32) dX0_lacksSupport_11 rfl ?_
    refine aw_isub dX0_lacksSupport_12 ?_
    refine aw_cS3 puI dX0_lacksSupport_13 (ctX10_within _ _ _) mcX10_within ml_X0_52 msX10_within rfl (by decide) (Nat.le_of_ble_eq_true rfl) (fun x13 => ?_)
    refine aw_if_ne 23 dX0_lacksSupport_16 (by decide) ?_ ?_
    · refine aw_iconst (0 : Int32) dX0_lacksSupport_23 rfl ?_
      exact aw_zret dX0_lacksSupport_24 rfl
    · refine aw_iconst (1 : Int32) dX0_lacksSupport_19 rfl ?_
      refine aw_goto 24 dX0_lacksSupport_20 (by decide) ?_
      exact aw_zret dX0_lacksSupport_24 rfl
set_option maxRecDepth 20000 in
theorem ctX0_hasResponse (t : Nat) (v1 : Int32) (v2 : Int32) : Ct yX0_hasResponse cX0_hasResponse mX0_hasResponse qI [vr (some t), vi v1, vi v2] (pX0_hasResponse t v1 v2) := by
  refine ct_go rfl rfl (fun h9 => by cases h9) (Nat.le_of_ble_eq_true rfl) (fun C res => ?_)
  refine aw_iload_n dX0_hasResponse_0 rfl ?_
  refine aw_if_ne 21 dX0_hasResponse_1 (by decide) ?_ ?_
  · refine aw_iload_n dX0_hasResponse_21 rfl ?_
    refine aw_iconst (1 : Int32) dX0_hasResponse_22 rfl ?_
    refine aw_icmp_ne 42 dX0_hasResponse_23 (by decide) ?_ ?_
    · refine aw_iconst (0 : Int32) dX0_hasResponse_42 rfl ?_
      exact aw_zret dX0_hasResponse_43 rfl
    · refine aw_iload_n dX0_hasResponse_26 rfl ?_
      refine aw_iconst (0 : Int32) dX0_hasResponse_27 rfl ?_
      refine aw_aload_n dX0_hasResponse_28 rfl ?_
      refine aw_gI dX0_hasResponse_29 fl_X0_25 (fun x29 => ?_)
      refine aw_cS3 puI dX0_hasResponse_32 (ctX10_within _ _ _) mcX10_within ml_X0_52 msX10_within rfl (by decide) (Nat.le_of_ble_eq_true rfl) (fun x32 => ?_)
      refine aw_if_eq 42 dX0_hasResponse_35 (by decide) ?_ ?_
      · refine aw_iconst (0 : Int32) dX0_hasResponse_42 rfl ?_
        exact aw_zret dX0_hasResponse_43 rfl
      · refine aw_iconst (1 : Int32) dX0_hasResponse_38 rfl ?_
        refine aw_goto 43 dX0_hasResponse_39 (by decide) ?_
        exact aw_zret dX0_hasResponse_43 rfl
  · refine aw_aload_n dX0_hasResponse_4 rfl ?_
    refine aw_iload_n dX0_hasResponse_5 rfl ?_
    refine aw_iload_n dX0_hasResponse_6 rfl ?_
    refine aw_cV2 puI dX0_hasResponse_7 (fun o => ctX0_lacksSupport o _ _) mcX0_lacksSupport ml_X0_56 rfl rfl msX0_lacksSupport rfl (by decide) (Nat.le_of_ble_eq_true rfl) (fun x7 => ?_)
    refine aw_if_ne 17 dX0_hasResponse_10 (by decide) ?_ ?_
    · refine aw_iconst (0 : Int32) dX0_hasResponse_17 rfl ?_
      refine aw_goto 43 dX0_hasResponse_18 (by decide) ?_
      exact aw_zret dX0_hasResponse_43 rfl
    · refine aw_iconst (1 : Int32) dX0_hasResponse_13 rfl ?_
      refine aw_goto 43 dX0_hasResponse_14 (by decide) ?_
      exact aw_zret dX0_hasResponse_43 rfl
set_option maxRecDepth 20000 in
theorem ctX1_init (t : Nat) (v1 : Int32) (v2 : Int32) : Ct yX1_init cX1_init mX1_init qV [vr (some t), vi v1, vi v2] (pX1_init t v1 v2) := by
  refine ct_go rfl rfl (fun _ => rfl) (Nat.le_of_ble_eq_true rfl) (fun C res => ?_)
  refine aw_aload_n dX1_init_0 rfl ?_
  refine aw_obj dX1_init_1 mo_X1_3 (by decide) (by decide) (Nat.le_of_ble_eq_true rfl) (fun _ => ?_)
  refine aw_aload_n dX1_init_4 rfl ?_
  refine aw_new dX1_init_5 rfl rfl cl_X1_9 (by decide +kernel) (fun x5 => ?_)
  refine aw_dup dX1_init_8 rfl ?_
  refine aw_cI0 dX1_init_9 (fun o => ctX4_init o ) mcX4_init ml_X1_11 rfl rfl msX4_init rfl (by decide) (Nat.le_of_ble_eq_true rfl) (fun _ => ?_)
  refine aw_pO dX1_init_12 pl_X1_12i (fun _ => ?_)
  refine aw_aload_n dX1_init_15 rfl ?_
  refine aw_iload_n dX1_init_16 rfl ?_
  refine aw_pI dX1_init_17 pl_X1_18i (fun _ => ?_)
  refine aw_aload_n dX1_init_20 rfl ?_
  refine aw_iload_n dX1_init_21 rfl ?_
  refine aw_pI dX1_init_22 pl_X1_22i (fun _ => ?_)
  exact aw_vret dX1_init_25 rfl
set_option maxRecDepth 20000 in
theorem abX0_momentUpper_18 {C : Cx} {res : Int64 × Hp}  {k18 : Nat → Int32 → Int32 → Int64 → Int32 → Mo Int64} (h18 : ∀ (t : Nat) (v1 : Int32) (v2 : Int32) (v3 : Int64) (v5 : Int32), AW C cX0_momentUpper mX0_momentUpper qL res 18 [vr (some t), vi v1, vi v2, vl v3, vu, vi v5] [] (k18 t v1 v2 v3 v5)) : ∀ (t : Nat) (v1 : Int32) (v2 : Int32) (v3 : Int64) (v5 : Int32), AW C cX0_momentUpper mX0_momentUpper qL res 18 [vr (some t), vi v1, vi v2, vl v3, vu, vi v5] [] (bX0_momentUpper_18  k18 t v1 v2 v3 v5) := by
  intro t v1 v2 v3 v5
  refine aw_iload dX0_momentUpper_18 rfl ?_
  refine aw_aload_n dX0_momentUpper_20 rfl ?_
  refine aw_gA dX0_momentUpper_21 fl_X0_28 (fun x21 => ?_)
  refine aw_aln dX0_momentUpper_24 (fun x24 => ?_)
  refine aw_icmp_ge 61 dX0_momentUpper_25 (by decide) ?_ ?_
  · refine aw_lload_n dX0_momentUpper_61 rfl ?_
    exact aw_lret dX0_momentUpper_62 rfl
  · refine aw_lload_n dX0_momentUpper_28 rfl ?_
    refine aw_aload_n dX0_momentUpper_29 rfl ?_
    refine aw_gA dX0_momentUpper_30 fl_X0_45 (fun x30 => ?_)
    refine aw_iload dX0_momentUpper_33 rfl ?_
    refine aw_aald 6 (fun _ => rfl) rfl dX0_momentUpper_35 (fun x35 => ?_)
    refine aw_iload_n dX0_momentUpper_36 rfl ?_
    refine aw_lald dX0_momentUpper_37 (fun x37 => ?_)
    refine aw_iconst (0 : Int32) dX0_momentUpper_38 rfl ?_
    refine aw_iload_n dX0_momentUpper_39 rfl ?_
    refine aw_aload_n dX0_momentUpper_40 rfl ?_
    refine aw_gA dX0_momentUpper_41 fl_X0_28 (fun x41 => ?_)
    refine aw_iload dX0_momentUpper_44 rfl ?_
    refine aw_iald dX0_momentUpper_46 (fun x46 => ?_)
    refine aw_isub dX0_momentUpper_47 ?_
    refine aw_mmaxI dX0_momentUpper_48 mk_X0_60 (by decide) (by decide) (Nat.le_of_ble_eq_true rfl) ?_
    refine aw_i2l dX0_momentUpper_51 ?_
    refine aw_lmul dX0_momentUpper_52 ?_
    refine aw_ladd dX0_momentUpper_53 ?_
    refine aw_lstore_n dX0_momentUpper_54 (by decide) ?_
    refine aw_iinc (v5 + (1 : Int32)) dX0_momentUpper_55 rfl rfl (by decide) ?_
    refine aw_goto 18 dX0_momentUpper_58 (by decide) ?_
    refine aw_msk [true, true, true, true, false, true] ?_
    exact h18 t v1 v2 ((v3 + (x37 * (Int32.toInt64 (mxI (0 : Int32) (v1 - x46)))))) ((v5 + (1 : Int32)))
theorem afX0_momentUpper_18 {C : Cx} {res : Int64 × Hp}   : ∀ (n : Nat) (t : Nat) (v1 : Int32) (v2 : Int32) (v3 : Int64) (v5 : Int32), AW C cX0_momentUpper mX0_momentUpper qL res 18 [vr (some t), vi v1, vi v2, vl v3, vu, vi v5] [] (fX0_momentUpper_18   n t v1 v2 v3 v5)
  | 0, _, _, _, _, _ => aw_fl
  | n + 1, t, v1, v2, v3, v5 => abX0_momentUpper_18  (fun t v1 v2 v3 v5 => afX0_momentUpper_18   n t v1 v2 v3 v5) t v1 v2 v3 v5
set_option maxRecDepth 20000 in
theorem ctX0_momentUpper (t : Nat) (v1 : Int32) (v2 : Int32) : Ct yX0_momentUpper cX0_momentUpper mX0_momentUpper qL [vr (some t), vi v1, vi v2] (pX0_momentUpper t v1 v2) := by
  refine ct_go rfl rfl (fun h9 => by cases h9) (Nat.le_of_ble_eq_true rfl) (fun C res => ?_)
  refine aw_aload_n dX0_momentUpper_0 rfl ?_
  refine aw_gL dX0_momentUpper_1 fl_X0_40 (fun x1 => ?_)
  refine aw_lneg dX0_momentUpper_4 ?_
  refine aw_iconst (0 : Int32) dX0_momentUpper_5 rfl ?_
  refine aw_iload_n dX0_momentUpper_6 rfl ?_
  refine aw_iload_n dX0_momentUpper_7 rfl ?_
  refine aw_isub dX0_momentUpper_8 ?_
  refine aw_mmaxI dX0_momentUpper_9 mk_X0_60 (by decide) (by decide) (Nat.le_of_ble_eq_true rfl) ?_
  refine aw_i2l dX0_momentUpper_12 ?_
  refine aw_lmul dX0_momentUpper_13 ?_
  refine aw_lstore_n dX0_momentUpper_14 (by decide) ?_
  refine aw_iconst (0 : Int32) dX0_momentUpper_15 rfl ?_
  refine aw_istore dX0_momentUpper_16 (by decide) ?_
  refine aw_msk [true, true, true, true, false, true] ?_
  exact afX0_momentUpper_18   FU t v1 v2 (((-x1) * (Int32.toInt64 (mxI (0 : Int32) (v1 - v2))))) ((0 : Int32))
set_option maxRecDepth 20000 in
theorem abX4_draw_67 {C : Cx} {res : Unit × Hp}  {k29 : Nat → Option Nat → Int32 → Int32 → Int32 → Mo Unit} (h29 : ∀ (t : Nat) (v1 : Option Nat) (v2 : Int32) (v3 : Int32) (v4 : Int32), AW C cX4_draw mX4_draw qV res 29 [vr (some t), vr v1, vi v2, vi v3, vi v4] [] (k29 t v1 v2 v3 v4)) : ∀ (t : Nat) (v1 : Option Nat) (v2 : Int32) (v3 : Int32) (v4 : Int32) (s0 : Option Nat) (s1 : Int32) (s2 : Int64), AW C cX4_draw mX4_draw qV res 67 [vr (some t), vr v1, vi v2, vi v3, vi v4] [vl s2, vi s1, vr s0] (bX4_draw_67  k29 t v1 v2 v3 v4 s0 s1 s2) := by
  intro t v1 v2 v3 v4 s0 s1 s2
  refine aw_last dX4_draw_67 (fun _ => ?_)
  refine aw_iinc (v4 + (1 : Int32)) dX4_draw_68 rfl rfl (by decide) ?_
  refine aw_goto 29 dX4_draw_71 (by decide) ?_
  refine aw_msk [true, true, true, true, true] ?_
  exact h29 t v1 v2 v3 ((v4 + (1 : Int32)))
set_option maxRecDepth 20000 in
theorem abX4_draw_29 {C : Cx} {res : Unit × Hp}  {k29 : Nat → Option Nat → Int32 → Int32 → Int32 → Mo Unit} (h29 : ∀ (t : Nat) (v1 : Option Nat) (v2 : Int32) (v3 : Int32) (v4 : Int32), AW C cX4_draw mX4_draw qV res 29 [vr (some t), vr v1, vi v2, vi v3, vi v4] [] (k29 t v1 v2 v3 v4)) : ∀ (t : Nat) (v1 : Option Nat) (v2 : Int32) (v3 : Int32) (v4 : Int32), AW C cX4_draw mX4_draw qV res 29 [vr (some t), vr v1, vi v2, vi v3, vi v4] [] (bX4_draw_29  k29 t v1 v2 v3 v4) := by
  intro t v1 v2 v3 v4
  refine aw_iload dX4_draw_29 rfl ?_
  refine aw_aload_n dX4_draw_31 rfl ?_
  refine aw_gI dX4_draw_32 fl_X4_19 (fun x32 => ?_)
  refine aw_icmp_gt 74 dX4_draw_35 (by decide) ?_ ?_
  · exact aw_vret dX4_draw_74 rfl
  · refine aw_aload_n dX4_draw_38 rfl ?_
    refine aw_gA dX4_draw_39 fl_X4_9 (fun x39 => ?_)
    refine aw_iload dX4_draw_42 rfl ?_
    refine aw_iload_n dX4_draw_44 rfl ?_
    refine aw_if_ne 60 dX4_draw_45 (by decide) ?_ ?_
    · refine aw_aload_n dX4_draw_60 rfl ?_
      refine aw_iload_n dX4_draw_61 rfl ?_
      refine aw_iload dX4_draw_62 rfl ?_
      refine aw_cV2 puL dX4_draw_64 (fun o => ctX0_momentUpper o _ _) mcX0_momentUpper ml_X4_35 rfl rfl msX0_momentUpper rfl (by decide) (Nat.le_of_ble_eq_true rfl) (fun x64 => ?_)
      refine aw_msk [true, true, true, true, true] ?_
      exact abX4_draw_67  h29 t v1 v2 v3 v4 x39 v4 x64
    · refine aw_aload_n dX4_draw_48 rfl ?_
      refine aw_gA dX4_draw_49 fl_X4_31 (fun x49 => ?_)
      refine aw_iload_n dX4_draw_52 rfl ?_
      refine aw_aald 6 (fun _ => rfl) rfl dX4_draw_53 (fun x53 => ?_)
      refine aw_iload dX4_draw_54 rfl ?_
      refine aw_lald dX4_draw_56 (fun x56 => ?_)
      refine aw_goto 67 dX4_draw_57 (by decide) ?_
      refine aw_msk [true, true, true, true, true] ?_
      exact abX4_draw_67  h29 t v1 v2 v3 v4 x39 v4 x56
theorem afX4_draw_29 {C : Cx} {res : Unit × Hp}   : ∀ (n : Nat) (t : Nat) (v1 : Option Nat) (v2 : Int32) (v3 : Int32) (v4 : Int32), AW C cX4_draw mX4_draw qV res 29 [vr (some t), vr v1, vi v2, vi v3, vi v4] [] (fX4_draw_29   n t v1 v2 v3 v4)
  | 0, _, _, _, _, _ => aw_fl
  | n + 1, t, v1, v2, v3, v4 => abX4_draw_29  (fun t v1 v2 v3 v4 => afX4_draw_29   n t v1 v2 v3 v4) t v1 v2 v3 v4
set_option maxRecDepth 20000 in
theorem ctX4_draw (t : Nat) (v1 : Option Nat) (v2 : Int32) (v3 : Int32) : Ct yX4_draw cX4_draw mX4_draw qV [vr (some t), vr v1, vi v2, vi v3] (pX4_draw t v1 v2 v3) := by
  refine ct_go rfl rfl (fun h9 => by cases h9) (Nat.le_of_ble_eq_true rfl) (fun C res => ?_)
  refine aw_aload_n dX4_draw_0 rfl ?_
  refine aw_iload_n dX4_draw_1 rfl ?_
  refine aw_iload_n dX4_draw_2 rfl ?_
  refine aw_cV2 puI dX4_draw_3 (fun o => ctX0_hasResponse o _ _) mcX0_hasResponse ml_X4_23 rfl rfl msX0_hasResponse rfl (by decide) (Nat.le_of_ble_eq_true rfl) (fun x3 => ?_)
  refine aw_if_ne 10 dX4_draw_6 (by decide) ?_ ?_
  · refine aw_aload_n dX4_draw_10 rfl ?_
    refine aw_aload_n dX4_draw_11 rfl ?_
    refine aw_gI dX4_draw_12 fl_X4_29 (fun x12 => ?_)
    refine aw_pI dX4_draw_15 pl_X4_19 (fun _ => ?_)
    refine aw_aload_n dX4_draw_18 rfl ?_
    refine aw_aload_n dX4_draw_19 rfl ?_
    refine aw_gL dX4_draw_20 fl_X4_30 (fun x20 => ?_)
    refine aw_pL dX4_draw_23 pl_X4_15 (fun _ => ?_)
    refine aw_iconst (0 : Int32) dX4_draw_26 rfl ?_
    refine aw_istore dX4_draw_27 (by decide) ?_
    refine aw_msk [true, true, true, true, true] ?_
    exact afX4_draw_29   FU t v1 v2 v3 ((0 : Int32))
  · exact aw_vret dX4_draw_9 rfl
set_option maxRecDepth 20000 in
theorem ctX10_check (t : Nat) (v1 : Int32) (v2 : Int32) (v3 : Int32) (v4 : Int32) (v5 : Int32) : Ct yX10_check cX10_check mX10_check qI [vr (some t), vi v1, vi v2, vi v3, vi v4, vi v5] (pX10_check t v1 v2 v3 v4 v5) := by
  refine ct_go rfl rfl (fun h9 => by cases h9) (Nat.le_of_ble_eq_true rfl) (fun C res => ?_)
  refine aw_aload_n dX10_check_0 rfl ?_
  refine aw_iload_n dX10_check_1 rfl ?_
  refine aw_cV1 puA dX10_check_2 (fun o => ctX10_bridgeAt o _) mcX10_bridgeAt ml_X10_104 rfl rfl msX10_bridgeAt rfl (by decide) (Nat.le_of_ble_eq_true rfl) (fun x2 => ?_)
  refine aw_astore dX10_check_5 (by decide) ?_
  refine aw_aload dX10_check_7 rfl ?_
  refine aw_ifnull 22 dX10_check_9 (by decide) ?_ ?_
  · refine aw_sipush (-1001 : Int32) dX10_check_22 rfl ?_
    exact aw_iret dX10_check_25 rfl
  · refine aw_aload dX10_check_12 rfl ?_
    refine aw_iload_n dX10_check_14 rfl ?_
    refine aw_iload_n dX10_check_15 rfl ?_
    refine aw_cV2 puI dX10_check_16 (fun o => ctX0_lacksSupport o _ _) mcX0_lacksSupport ml_X10_123 rfl rfl msX0_lacksSupport rfl (by decide) (Nat.le_of_ble_eq_true rfl) (fun x16 => ?_)
    refine aw_if_eq 26 dX10_check_19 (by decide) ?_ ?_
    · refine aw_aload dX10_check_26 rfl ?_
      refine aw_iload_n dX10_check_28 rfl ?_
      refine aw_iload_n dX10_check_29 rfl ?_
      refine aw_cV2 puI dX10_check_30 (fun o => ctX0_hasResponse o _ _) mcX0_hasResponse ml_X10_129 rfl rfl msX0_hasResponse rfl (by decide) (Nat.le_of_ble_eq_true rfl) (fun x30 => ?_)
      refine aw_if_eq 46 dX10_check_33 (by decide) ?_ ?_
      · refine aw_sipush (-1002 : Int32) dX10_check_46 rfl ?_
        exact aw_iret dX10_check_49 rfl
      · refine aw_iload dX10_check_36 rfl ?_
        refine aw_iload dX10_check_38 rfl ?_
        refine aw_cS2 puI dX10_check_40 (ctX10_limitsHold _ _) mcX10_limitsHold ml_X10_195 msX10_limitsHold rfl (by decide) (Nat.le_of_ble_eq_true rfl) (fun x40 => ?_)
        refine aw_if_ne 50 dX10_check_43 (by decide) ?_ ?_
        · refine aw_aload dX10_check_50 rfl ?_
          refine aw_gI dX10_check_52 fl_X10_117 (fun x52 => ?_)
          refine aw_iconst (5 : Int32) dX10_check_55 rfl ?_
          refine aw_icmp_lt 63 dX10_check_56 (by decide) ?_ ?_
          · refine aw_new dX10_check_63 rfl rfl cl_X10_198 (by decide +kernel) (fun x63 => ?_)
            refine aw_dup dX10_check_66 rfl ?_
            refine aw_iload dX10_check_67 rfl ?_
            refine aw_iload dX10_check_69 rfl ?_
            refine aw_cI2 dX10_check_71 (fun o => ctX1_init o _ _) mcX1_init ml_X10_200 rfl rfl msX1_init rfl (by decide) (Nat.le_of_ble_eq_true rfl) (fun _ => ?_)
            refine aw_astore dX10_check_74 (by decide) ?_
            refine aw_aload dX10_check_76 rfl ?_
            refine aw_gA dX10_check_78 fl_X10_203 (fun x78 => ?_)
            refine aw_aload dX10_check_81 rfl ?_
            refine aw_iload_n dX10_check_83 rfl ?_
            refine aw_iload_n dX10_check_84 rfl ?_
            refine aw_cV3 puV dX10_check_85 (fun o => ctX4_draw o _ _ _) mcX4_draw ml_X10_138 rfl rfl msX4_draw rfl (by decide) (Nat.le_of_ble_eq_true rfl) (fun _ => ?_)
            refine aw_aload dX10_check_88 rfl ?_
            refine aw_gA dX10_check_90 fl_X10_204 (fun x90 => ?_)
            refine aw_aload dX10_check_93 rfl ?_
            refine aw_gI dX10_check_95 fl_X10_117 (fun x95 => ?_)
            refine aw_aload dX10_check_98 rfl ?_
            refine aw_aast 4 1 (fun _ => rfl) rfl dX10_check_100 (fun _ => ?_)
            refine aw_aload dX10_check_101 rfl ?_
            refine aw_dup dX10_check_103 rfl ?_
            refine aw_gI dX10_check_104 fl_X10_117 (fun x104 => ?_)
            refine aw_iconst (1 : Int32) dX10_check_107 rfl ?_
            refine aw_iadd dX10_check_108 ?_
            refine aw_pI dX10_check_109 pl_X10_117 (fun _ => ?_)
            refine aw_aload dX10_check_112 rfl ?_
            refine aw_gI dX10_check_114 fl_X10_117 (fun x114 => ?_)
            refine aw_iconst (1 : Int32) dX10_check_117 rfl ?_
            refine aw_isub dX10_check_118 ?_
            exact aw_iret dX10_check_119 rfl
          · refine aw_sipush (-1004 : Int32) dX10_check_59 rfl ?_
            exact aw_iret dX10_check_62 rfl
        · refine aw_sipush (-1002 : Int32) dX10_check_46 rfl ?_
          exact aw_iret dX10_check_49 rfl
    · refine aw_sipush (-1001 : Int32) dX10_check_22 rfl ?_
      exact aw_iret dX10_check_25 rfl
set_option maxRecDepth 20000 in
theorem ctX0_checkAt (t : Nat) (v1 : Int32) : Ct yX0_checkAt cX0_checkAt mX0_checkAt qA [vr (some t), vi v1] (pX0_checkAt t v1) := by
  refine ct_go rfl rfl (fun h9 => by cases h9) (Nat.le_of_ble_eq_true rfl) (fun C res => ?_)
  refine aw_iload_n dX0_checkAt_0 rfl ?_
  refine aw_iconst (0 : Int32) dX0_checkAt_1 rfl ?_
  refine aw_aload_n dX0_checkAt_2 rfl ?_
  refine aw_gI dX0_checkAt_3 fl_X0_21 (fun x3 => ?_)
  refine aw_iconst (1 : Int32) dX0_checkAt_6 rfl ?_
  refine aw_isub dX0_checkAt_7 ?_
  refine aw_cS3 puI dX0_checkAt_8 (ctX10_within _ _ _) mcX10_within ml_X0_52 msX10_within rfl (by decide) (Nat.le_of_ble_eq_true rfl) (fun x8 => ?_)
  refine aw_if_eq 23 dX0_checkAt_11 (by decide) ?_ ?_
  · refine aw_null dX0_checkAt_23 ?_
    exact aw_aret dX0_checkAt_24 rfl (Or.inl ⟨_, rfl⟩)
  · refine aw_aload_n dX0_checkAt_14 rfl ?_
    refine aw_gA dX0_checkAt_15 fl_X0_17 (fun x15 => ?_)
    refine aw_iload_n dX0_checkAt_18 rfl ?_
    refine aw_aald 4 (fun _ => rfl) rfl dX0_checkAt_19 (fun x19 => ?_)
    refine aw_goto 24 dX0_checkAt_20 (by decide) ?_
    exact aw_aret dX0_checkAt_24 rfl (Or.inl ⟨_, rfl⟩)
set_option maxRecDepth 20000 in
theorem ctX1_totalLower (t : Nat) : Ct yX1_totalLower cX1_totalLower mX1_totalLower qL [vr (some t)] (pX1_totalLower t) := by
  refine ct_go rfl rfl (fun h9 => by cases h9) (Nat.le_of_ble_eq_true rfl) (fun C res => ?_)
  refine aw_aload_n dX1_totalLower_0 rfl ?_
  refine aw_gA dX1_totalLower_1 fl_X1_12 (fun x1 => ?_)
  refine aw_gL dX1_totalLower_4 fl_X1_25 (fun x4 => ?_)
  refine aw_ldc2 dX1_totalLower_7 cj_X1_29 ?_
  refine aw_lmul dX1_totalLower_10 ?_
  refine aw_ldc2 dX1_totalLower_11 cj_X1_29 ?_
  refine aw_lmul dX1_totalLower_14 ?_
  exact aw_lret dX1_totalLower_15 rfl
set_option maxRecDepth 20000 in
theorem ctX1_allows (t : Nat) (v1 : Int32) (v2 : Int64) : Ct yX1_allows cX1_allows mX1_allows qI [vr (some t), vi v1, vl v2] (pX1_allows t v1 v2) := by
  refine ct_go rfl rfl (fun h9 => by cases h9) (Nat.le_of_ble_eq_true rfl) (fun C res => ?_)
  refine aw_iload_n dX1_allows_0 rfl ?_
  refine aw_if_ne 27 dX1_allows_1 (by decide) ?_ ?_
  · refine aw_lload_n dX1_allows_27 rfl ?_
    refine aw_aload_n dX1_allows_28 rfl ?_
    refine aw_gI dX1_allows_29 fl_X1_22 (fun x29 => ?_)
    refine aw_i2l dX1_allows_32 ?_
    refine aw_aload_n dX1_allows_33 rfl ?_
    refine aw_cV0 puL dX1_allows_34 (fun o => ctX1_totalLower o ) mcX1_totalLower ml_X1_31 rfl rfl msX1_totalLower rfl (by decide) (Nat.le_of_ble_eq_true rfl) (fun x34 => ?_)
    refine aw_lmul dX1_allows_37 ?_
    refine aw_llt 46 dX1_allows_38 dX1_allows_39 (by decide) ?_ ?_
    · refine aw_iconst (0 : Int32) dX1_allows_46 rfl ?_
      exact aw_zret dX1_allows_47 rfl
    · refine aw_iconst (1 : Int32) dX1_allows_42 rfl ?_
      refine aw_goto 47 dX1_allows_43 (by decide) ?_
      exact aw_zret dX1_allows_47 rfl
  · refine aw_lload_n dX1_allows_4 rfl ?_
    refine aw_aload_n dX1_allows_5 rfl ?_
    refine aw_gI dX1_allows_6 fl_X1_18 (fun x6 => ?_)
    refine aw_i2l dX1_allows_9 ?_
    refine aw_aload_n dX1_allows_10 rfl ?_
    refine aw_cV0 puL dX1_allows_11 (fun o => ctX1_totalLower o ) mcX1_totalLower ml_X1_31 rfl rfl msX1_totalLower rfl (by decide) (Nat.le_of_ble_eq_true rfl) (fun x11 => ?_)
    refine aw_lmul dX1_allows_14 ?_
    refine aw_lgt 23 dX1_allows_15 dX1_allows_16 (by decide) ?_ ?_
    · refine aw_iconst (0 : Int32) dX1_allows_23 rfl ?_
      refine aw_goto 47 dX1_allows_24 (by decide) ?_
      exact aw_zret dX1_allows_47 rfl
    · refine aw_iconst (1 : Int32) dX1_allows_19 rfl ?_
      refine aw_goto 47 dX1_allows_20 (by decide) ?_
      exact aw_zret dX1_allows_47 rfl
set_option maxRecDepth 20000 in
theorem ctX2_set (t : Nat) (v1 : Int32) (v2 : Int64) (v4 : Int32) (v5 : Int32) : Ct yX2_set cX2_set mX2_set qV [vr (some t), vi v1, vl v2, vi v4, vi v5] (pX2_set t v1 v2 v4 v5) := by
  refine ct_go rfl rfl (fun h9 => by cases h9) (Nat.le_of_ble_eq_true rfl) (fun C res => ?_)
  refine aw_aload_n dX2_set_0 rfl ?_
  refine aw_gA dX2_set_1 fl_X2_9 (fun x1 => ?_)
  refine aw_iload_n dX2_set_4 rfl ?_
  refine aw_lload_n dX2_set_5 rfl ?_
  refine aw_last dX2_set_6 (fun _ => ?_)
  refine aw_aload_n dX2_set_7 rfl ?_
  refine aw_gA dX2_set_8 fl_X2_15 (fun x8 => ?_)
  refine aw_iload_n dX2_set_11 rfl ?_
  refine aw_iload dX2_set_12 rfl ?_
  refine aw_iast dX2_set_14 (fun _ => ?_)
  refine aw_aload_n dX2_set_15 rfl ?_
  refine aw_gA dX2_set_16 fl_X2_19 (fun x16 => ?_)
  refine aw_iload_n dX2_set_19 rfl ?_
  refine aw_iload dX2_set_20 rfl ?_
  refine aw_iast dX2_set_22 (fun _ => ?_)
  exact aw_vret dX2_set_23 rfl
set_option maxRecDepth 20000 in
theorem abX7_addAxle_3 {C : Cx} {res : Unit × Hp}  {k3 : Nat → Option Nat → Int64 → Int32 → Int32 → Mo Unit} (h3 : ∀ (t : Nat) (v1 : Option Nat) (v2 : Int64) (v4 : Int32) (v5 : Int32), AW C cX7_addAxle mX7_addAxle qV res 3 [vr (some t), vr v1, vl v2, vu, vi v4, vi v5] [] (k3 t v1 v2 v4 v5)) : ∀ (t : Nat) (v1 : Option Nat) (v2 : Int64) (v4 : Int32) (v5 : Int32), AW C cX7_addAxle mX7_addAxle qV res 3 [vr (some t), vr v1, vl v2, vu, vi v4, vi v5] [] (bX7_addAxle_3  k3 t v1 v2 v4 v5) := by
  intro t v1 v2 v4 v5
  refine aw_iload dX7_addAxle_3 rfl ?_
  refine aw_aload_n dX7_addAxle_5 rfl ?_
  refine aw_gI dX7_addAxle_6 fl_X7_25 (fun x6 => ?_)
  refine aw_icmp_gt 52 dX7_addAxle_9 (by decide) ?_ ?_
  · exact aw_vret dX7_addAxle_52 rfl
  · refine aw_iload dX7_addAxle_12 rfl ?_
    refine aw_iload dX7_addAxle_14 rfl ?_
    refine aw_iadd dX7_addAxle_16 ?_
    refine aw_aload_n dX7_addAxle_17 rfl ?_
    refine aw_gI dX7_addAxle_18 fl_X7_15 (fun x18 => ?_)
    refine aw_icmp_ge 52 dX7_addAxle_21 (by decide) ?_ ?_
    · exact aw_vret dX7_addAxle_52 rfl
    · refine aw_aload_n dX7_addAxle_24 rfl ?_
      refine aw_gA dX7_addAxle_25 fl_X7_9 (fun x25 => ?_)
      refine aw_iload dX7_addAxle_28 rfl ?_
      refine aw_iload dX7_addAxle_30 rfl ?_
      refine aw_iadd dX7_addAxle_32 ?_
      refine aw_dup2 dX7_addAxle_33 rfl rfl ?_
      refine aw_lald dX7_addAxle_34 (fun x34 => ?_)
      refine aw_lload_n dX7_addAxle_35 rfl ?_
      refine aw_aload_n dX7_addAxle_36 rfl ?_
      refine aw_gA dX7_addAxle_37 fl_X7_56 (fun x37 => ?_)
      refine aw_iload dX7_addAxle_40 rfl ?_
      refine aw_lald dX7_addAxle_42 (fun x42 => ?_)
      refine aw_lmul dX7_addAxle_43 ?_
      refine aw_ladd dX7_addAxle_44 ?_
      refine aw_last dX7_addAxle_45 (fun _ => ?_)
      refine aw_iinc (v5 + (1 : Int32)) dX7_addAxle_46 rfl rfl (by decide) ?_
      refine aw_goto 3 dX7_addAxle_49 (by decide) ?_
      refine aw_msk [true, true, true, false, true, true] ?_
      exact h3 t v1 v2 v4 ((v5 + (1 : Int32)))
theorem afX7_addAxle_3 {C : Cx} {res : Unit × Hp}   : ∀ (n : Nat) (t : Nat) (v1 : Option Nat) (v2 : Int64) (v4 : Int32) (v5 : Int32), AW C cX7_addAxle mX7_addAxle qV res 3 [vr (some t), vr v1, vl v2, vu, vi v4, vi v5] [] (fX7_addAxle_3   n t v1 v2 v4 v5)
  | 0, _, _, _, _, _ => aw_fl
  | n + 1, t, v1, v2, v4, v5 => abX7_addAxle_3  (fun t v1 v2 v4 v5 => afX7_addAxle_3   n t v1 v2 v4 v5) t v1 v2 v4 v5
set_option maxRecDepth 20000 in
theorem ctX7_addAxle (t : Nat) (v1 : Option Nat) (v2 : Int64) (v4 : Int32) : Ct yX7_addAxle cX7_addAxle mX7_addAxle qV [vr (some t), vr v1, vl v2, vi v4] (pX7_addAxle t v1 v2 v4) := by
  refine ct_go rfl rfl (fun h9 => by cases h9) (Nat.le_of_ble_eq_true rfl) (fun C res => ?_)
  refine aw_iconst (0 : Int32) dX7_addAxle_0 rfl ?_
  refine aw_istore dX7_addAxle_1 (by decide) ?_
  refine aw_msk [true, true, true, false, true, true] ?_
  exact afX7_addAxle_3   FU t v1 v2 v4 ((0 : Int32))
set_option maxRecDepth 20000 in
theorem abX7_roll_89 {C : Cx} {res : Unit × Hp}  {k44 : Nat → Option Nat → Option Nat → Int32 → Int32 → Int32 → Int32 → Mo Unit} (h44 : ∀ (t : Nat) (v1 : Option Nat) (v2 : Option Nat) (v3 : Int32) (v4 : Int32) (v5 : Int32) (v6 : Int32), AW C cX7_roll mX7_roll qV res 44 [vr (some t), vr v1, vr v2, vi v3, vi v4, vi v5, vi v6] [] (k44 t v1 v2 v3 v4 v5 v6)) : ∀ (t : Nat) (v1 : Option Nat) (v2 : Option Nat) (v3 : Int32) (v4 : Int32) (v5 : Int32) (v6 : Int32) (s0 : Option Nat) (s1 : Option Nat) (s2 : Int64) (s3 : Int32), AW C cX7_roll mX7_roll qV res 89 [vr (some t), vr v1, vr v2, vi v3, vi v4, vi v5, vi v6] [vi s3, vl s2, vr s1, vr s0] (bX7_roll_89  k44 t v1 v2 v3 v4 v5 v6 s0 s1 s2 s3) := by
  intro t v1 v2 v3 v4 v5 v6 s0 s1 s2 s3
  refine aw_cV3 puV dX7_roll_89 (fun o => ctX7_addAxle o _ _ _) mcX7_addAxle ml_X7_52 rfl rfl msX7_addAxle rfl (by decide) (Nat.le_of_ble_eq_true rfl) (fun _ => ?_)
  refine aw_iinc (v6 + (1 : Int32)) dX7_roll_92 rfl rfl (by decide) ?_
  refine aw_goto 44 dX7_roll_95 (by decide) ?_
  refine aw_msk [true, true, true, true, true, true, true] ?_
  exact h44 t v1 v2 v3 v4 v5 ((v6 + (1 : Int32)))
set_option maxRecDepth 20000 in
theorem abX7_roll_44 {C : Cx} {res : Unit × Hp}  {k44 : Nat → Option Nat → Option Nat → Int32 → Int32 → Int32 → Int32 → Mo Unit} (h44 : ∀ (t : Nat) (v1 : Option Nat) (v2 : Option Nat) (v3 : Int32) (v4 : Int32) (v5 : Int32) (v6 : Int32), AW C cX7_roll mX7_roll qV res 44 [vr (some t), vr v1, vr v2, vi v3, vi v4, vi v5, vi v6] [] (k44 t v1 v2 v3 v4 v5 v6)) : ∀ (t : Nat) (v1 : Option Nat) (v2 : Option Nat) (v3 : Int32) (v4 : Int32) (v5 : Int32) (v6 : Int32), AW C cX7_roll mX7_roll qV res 44 [vr (some t), vr v1, vr v2, vi v3, vi v4, vi v5, vi v6] [] (bX7_roll_44  k44 t v1 v2 v3 v4 v5 v6) := by
  intro t v1 v2 v3 v4 v5 v6
  refine aw_iload dX7_roll_44 rfl ?_
  refine aw_aload_n dX7_roll_46 rfl ?_
  refine aw_gI dX7_roll_47 fl_X7_42 (fun x47 => ?_)
  refine aw_icmp_ge 98 dX7_roll_50 (by decide) ?_ ?_
  · exact aw_vret dX7_roll_98 rfl
  · refine aw_iload dX7_roll_53 rfl ?_
    refine aw_aload_n dX7_roll_55 rfl ?_
    refine aw_gA dX7_roll_56 fl_X7_45 (fun x56 => ?_)
    refine aw_iload dX7_roll_59 rfl ?_
    refine aw_iald dX7_roll_61 (fun x61 => ?_)
    refine aw_iadd dX7_roll_62 ?_
    refine aw_istore dX7_roll_63 (by decide) ?_
    refine aw_aload_n dX7_roll_65 rfl ?_
    refine aw_aload_n dX7_roll_66 rfl ?_
    refine aw_aload_n dX7_roll_67 rfl ?_
    refine aw_gA dX7_roll_68 fl_X7_49 (fun x68 => ?_)
    refine aw_iload dX7_roll_71 rfl ?_
    refine aw_iald dX7_roll_73 (fun x73 => ?_)
    refine aw_i2l dX7_roll_74 ?_
    refine aw_iload_n dX7_roll_75 rfl ?_
    refine aw_if_ne 84 dX7_roll_76 (by decide) ?_ ?_
    · refine aw_iload dX7_roll_84 rfl ?_
      refine aw_iload dX7_roll_86 rfl ?_
      refine aw_isub dX7_roll_88 ?_
      refine aw_msk [true, true, true, true, true, true, true] ?_
      exact abX7_roll_89  h44 t v1 v2 v3 v4 ((v5 + x61)) v6 ((some t)) v1 ((Int32.toInt64 x73)) ((v4 - (v5 + x61)))
    · refine aw_iload dX7_roll_79 rfl ?_
      refine aw_goto 89 dX7_roll_81 (by decide) ?_
      refine aw_msk [true, true, true, true, true, true, true] ?_
      exact abX7_roll_89  h44 t v1 v2 v3 v4 ((v5 + x61)) v6 ((some t)) v1 ((Int32.toInt64 x73)) ((v5 + x61))
theorem afX7_roll_44 {C : Cx} {res : Unit × Hp}   : ∀ (n : Nat) (t : Nat) (v1 : Option Nat) (v2 : Option Nat) (v3 : Int32) (v4 : Int32) (v5 : Int32) (v6 : Int32), AW C cX7_roll mX7_roll qV res 44 [vr (some t), vr v1, vr v2, vi v3, vi v4, vi v5, vi v6] [] (fX7_roll_44   n t v1 v2 v3 v4 v5 v6)
  | 0, _, _, _, _, _, _, _ => aw_fl
  | n + 1, t, v1, v2, v3, v4, v5, v6 => abX7_roll_44  (fun t v1 v2 v3 v4 v5 v6 => afX7_roll_44   n t v1 v2 v3 v4 v5 v6) t v1 v2 v3 v4 v5 v6
set_option maxRecDepth 20000 in
theorem ctX7_roll (t : Nat) (v1 : Option Nat) (v2 : Option Nat) (v3 : Int32) : Ct yX7_roll cX7_roll mX7_roll qV [vr (some t), vr v1, vr v2, vi v3] (pX7_roll t v1 v2 v3) := by
  refine ct_go rfl rfl (fun h9 => by cases h9) (Nat.le_of_ble_eq_true rfl) (fun C res => ?_)
  refine aw_aload_n dX7_roll_0 rfl ?_
  refine aw_cV0 puI dX7_roll_1 (fun o => ctX8_allGaps o ) mcX8_allGaps ml_X7_19 rfl rfl msX8_allGaps rfl (by decide) (Nat.le_of_ble_eq_true rfl) (fun x1 => ?_)
  refine aw_istore dX7_roll_4 (by decide) ?_
  refine aw_aload_n dX7_roll_6 rfl ?_
  refine aw_aload_n dX7_roll_7 rfl ?_
  refine aw_gI dX7_roll_8 fl_X7_25 (fun x8 => ?_)
  refine aw_iload dX7_roll_11 rfl ?_
  refine aw_iadd dX7_roll_13 ?_
  refine aw_iconst (1 : Int32) dX7_roll_14 rfl ?_
  refine aw_iadd dX7_roll_15 ?_
  refine aw_sipush (341 : Int32) dX7_roll_16 rfl ?_
  refine aw_mminI dX7_roll_19 mk_X7_30 (by decide) (by decide) (Nat.le_of_ble_eq_true rfl) ?_
  refine aw_pI dX7_roll_22 pl_X7_15 (fun _ => ?_)
  refine aw_aload_n dX7_roll_25 rfl ?_
  refine aw_gA dX7_roll_26 fl_X7_9 (fun x26 => ?_)
  refine aw_iconst (0 : Int32) dX7_roll_29 rfl ?_
  refine aw_aload_n dX7_roll_30 rfl ?_
  refine aw_gI dX7_roll_31 fl_X7_15 (fun x31 => ?_)
  refine aw_lconst (0 : Int64) dX7_roll_34 rfl ?_
  refine aw_cS4 puV dX7_roll_35 (ctJ7_fill_bad5a _ _ _ _) mcJ7_fill_bad5a ml_X7_36 msJ7_fill_bad5a rfl (by decide) (Nat.le_of_ble_eq_true rfl) (fun _ => ?_)
  refine aw_iconst (0 : Int32) dX7_roll_38 rfl ?_
  refine aw_istore dX7_roll_39 (by decide) ?_
  refine aw_iconst (0 : Int32) dX7_roll_41 rfl ?_
  refine aw_istore dX7_roll_42 (by decide) ?_
  refine aw_msk [true, true, true, true, true, true, true] ?_
  exact afX7_roll_44   FU t v1 v2 v3 x1 ((0 : Int32)) ((0 : Int32))
set_option maxRecDepth 20000 in
theorem abX2_find_142 {C : Cx} {res : Unit × Hp}   : ∀ (t : Nat), AW C cX2_find mX2_find qV res 142 [vr (some t), vu, vu, vu, vu, vu, vu, vu, vu] [] (bX2_find_142   t) := by
  intro t
  refine aw_aload_n dX2_find_142 rfl ?_
  refine aw_gA dX2_find_143 fl_X2_9 (fun x143 => ?_)
  refine aw_iconst (1 : Int32) dX2_find_146 rfl ?_
  refine aw_lald dX2_find_147 (fun x147 => ?_)
  refine aw_lconst (0 : Int64) dX2_find_148 rfl ?_
  refine aw_lle 161 dX2_find_149 dX2_find_150 (by decide) ?_ ?_
  · exact aw_vret dX2_find_161 rfl
  · refine aw_aload_n dX2_find_153 rfl ?_
    refine aw_iconst (1 : Int32) dX2_find_154 rfl ?_
    refine aw_lconst (0 : Int64) dX2_find_155 rfl ?_
    refine aw_iconst (-1 : Int32) dX2_find_156 rfl ?_
    refine aw_iconst (-1 : Int32) dX2_find_157 rfl ?_
    refine aw_cV4 puV dX2_find_158 (fun o => ctX2_set o _ _ _ _) mcX2_set ml_X2_34 rfl rfl msX2_set rfl (by decide) (Nat.le_of_ble_eq_true rfl) (fun _ => ?_)
    exact aw_vret dX2_find_161 rfl
set_option maxRecDepth 20000 in
theorem abX2_find_100 {C : Cx} {res : Unit × Hp}  {k3 : Nat → Option Nat → Option Nat → Option Nat → Int32 → Mo Unit} (h3 : ∀ (t : Nat) (v1 : Option Nat) (v2 : Option Nat) (v3 : Option Nat) (v4 : Int32), AW C cX2_find mX2_find qV res 3 [vr (some t), vr v1, vr v2, vr v3, vi v4, vu, vu, vu, vu] [] (k3 t v1 v2 v3 v4)) {k20 : Nat → Option Nat → Option Nat → Option Nat → Int32 → Int32 → Mo Unit} (h20 : ∀ (t : Nat) (v1 : Option Nat) (v2 : Option Nat) (v3 : Option Nat) (v4 : Int32) (v5 : Int32), AW C cX2_find mX2_find qV res 20 [vr (some t), vr v1, vr v2, vr v3, vi v4, vi v5, vu, vu, vu] [] (k20 t v1 v2 v3 v4 v5)) : ∀ (t : Nat) (v1 : Option Nat) (v2 : Option Nat) (v3 : Option Nat) (v4 : Int32) (v5 : Int32) (v6 : Int64), AW C cX2_find mX2_find qV res 100 [vr (some t), vr v1, vr v2, vr v3, vi v4, vi v5, vl v6, vu, vu] [] (bX2_find_100  k3 k20 t v1 v2 v3 v4 v5 v6) := by
  intro t v1 v2 v3 v4 v5 v6
  refine aw_aload_n dX2_find_100 rfl ?_
  refine aw_iconst (1 : Int32) dX2_find_101 rfl ?_
  refine aw_lload dX2_find_102 rfl ?_
  refine aw_iload dX2_find_104 rfl ?_
  refine aw_iload dX2_find_106 rfl ?_
  refine aw_cV4 puV dX2_find_108 (fun o => ctX2_set o _ _ _ _) mcX2_set ml_X2_34 rfl rfl msX2_set rfl (by decide) (Nat.le_of_ble_eq_true rfl) (fun _ => ?_)
  refine aw_iinc (v5 + (1 : Int32)) dX2_find_111 rfl rfl (by decide) ?_
  refine aw_goto 20 dX2_find_114 (by decide) ?_
  refine aw_msk [true, true, true, true, true, true, false, false, false] ?_
  exact h20 t v1 v2 v3 v4 ((v5 + (1 : Int32)))
set_option maxRecDepth 20000 in
theorem abX2_find_83 {C : Cx} {res : Unit × Hp}  {k3 : Nat → Option Nat → Option Nat → Option Nat → Int32 → Mo Unit} (h3 : ∀ (t : Nat) (v1 : Option Nat) (v2 : Option Nat) (v3 : Option Nat) (v4 : Int32), AW C cX2_find mX2_find qV res 3 [vr (some t), vr v1, vr v2, vr v3, vi v4, vu, vu, vu, vu] [] (k3 t v1 v2 v3 v4)) {k20 : Nat → Option Nat → Option Nat → Option Nat → Int32 → Int32 → Mo Unit} (h20 : ∀ (t : Nat) (v1 : Option Nat) (v2 : Option Nat) (v3 : Option Nat) (v4 : Int32) (v5 : Int32), AW C cX2_find mX2_find qV res 20 [vr (some t), vr v1, vr v2, vr v3, vi v4, vi v5, vu, vu, vu] [] (k20 t v1 v2 v3 v4 v5)) : ∀ (t : Nat) (v1 : Option Nat) (v2 : Option Nat) (v3 : Option Nat) (v4 : Int32) (v5 : Int32) (v6 : Int64) (v8 : Int32), AW C cX2_find mX2_find qV res 83 [vr (some t), vr v1, vr v2, vr v3, vi v4, vi v5, vl v6, vu, vi v8] [] (bX2_find_83  k3 k20 t v1 v2 v3 v4 v5 v6 v8) := by
  intro t v1 v2 v3 v4 v5 v6 v8
  refine aw_iload dX2_find_83 rfl ?_
  refine aw_if_ne 100 dX2_find_85 (by decide) ?_ ?_
  · refine aw_msk [true, true, true, true, true, true, true, false, false] ?_
    exact abX2_find_100  h3 h20 t v1 v2 v3 v4 v5 v6
  · refine aw_lload dX2_find_88 rfl ?_
    refine aw_aload_n dX2_find_90 rfl ?_
    refine aw_gA dX2_find_91 fl_X2_9 (fun x91 => ?_)
    refine aw_iconst (1 : Int32) dX2_find_94 rfl ?_
    refine aw_lald dX2_find_95 (fun x95 => ?_)
    refine aw_lge 111 dX2_find_96 dX2_find_97 (by decide) ?_ ?_
    · refine aw_iinc (v5 + (1 : Int32)) dX2_find_111 rfl rfl (by decide) ?_
      refine aw_goto 20 dX2_find_114 (by decide) ?_
      refine aw_msk [true, true, true, true, true, true, false, false, false] ?_
      exact h20 t v1 v2 v3 v4 ((v5 + (1 : Int32)))
    · refine aw_msk [true, true, true, true, true, true, true, false, false] ?_
      exact abX2_find_100  h3 h20 t v1 v2 v3 v4 v5 v6
set_option maxRecDepth 20000 in
theorem abX2_find_72 {C : Cx} {res : Unit × Hp}  {k3 : Nat → Option Nat → Option Nat → Option Nat → Int32 → Mo Unit} (h3 : ∀ (t : Nat) (v1 : Option Nat) (v2 : Option Nat) (v3 : Option Nat) (v4 : Int32), AW C cX2_find mX2_find qV res 3 [vr (some t), vr v1, vr v2, vr v3, vi v4, vu, vu, vu, vu] [] (k3 t v1 v2 v3 v4)) {k20 : Nat → Option Nat → Option Nat → Option Nat → Int32 → Int32 → Mo Unit} (h20 : ∀ (t : Nat) (v1 : Option Nat) (v2 : Option Nat) (v3 : Option Nat) (v4 : Int32) (v5 : Int32), AW C cX2_find mX2_find qV res 20 [vr (some t), vr v1, vr v2, vr v3, vi v4, vi v5, vu, vu, vu] [] (k20 t v1 v2 v3 v4 v5)) : ∀ (t : Nat) (v1 : Option Nat) (v2 : Option Nat) (v3 : Option Nat) (v4 : Int32) (v5 : Int32) (v6 : Int64) (v8 : Int32), AW C cX2_find mX2_find qV res 72 [vr (some t), vr v1, vr v2, vr v3, vi v4, vi v5, vl v6, vu, vi v8] [] (bX2_find_72  k3 k20 t v1 v2 v3 v4 v5 v6 v8) := by
  intro t v1 v2 v3 v4 v5 v6 v8
  refine aw_aload_n dX2_find_72 rfl ?_
  refine aw_iconst (0 : Int32) dX2_find_73 rfl ?_
  refine aw_lload dX2_find_74 rfl ?_
  refine aw_iload dX2_find_76 rfl ?_
  refine aw_iload dX2_find_78 rfl ?_
  refine aw_cV4 puV dX2_find_80 (fun o => ctX2_set o _ _ _ _) mcX2_set ml_X2_34 rfl rfl msX2_set rfl (by decide) (Nat.le_of_ble_eq_true rfl) (fun _ => ?_)
  refine aw_msk [true, true, true, true, true, true, true, false, true] ?_
  exact abX2_find_83  h3 h20 t v1 v2 v3 v4 v5 v6 v8
set_option maxRecDepth 20000 in
theorem abX2_find_53 {C : Cx} {res : Unit × Hp}  {k3 : Nat → Option Nat → Option Nat → Option Nat → Int32 → Mo Unit} (h3 : ∀ (t : Nat) (v1 : Option Nat) (v2 : Option Nat) (v3 : Option Nat) (v4 : Int32), AW C cX2_find mX2_find qV res 3 [vr (some t), vr v1, vr v2, vr v3, vi v4, vu, vu, vu, vu] [] (k3 t v1 v2 v3 v4)) {k20 : Nat → Option Nat → Option Nat → Option Nat → Int32 → Int32 → Mo Unit} (h20 : ∀ (t : Nat) (v1 : Option Nat) (v2 : Option Nat) (v3 : Option Nat) (v4 : Int32) (v5 : Int32), AW C cX2_find mX2_find qV res 20 [vr (some t), vr v1, vr v2, vr v3, vi v4, vi v5, vu, vu, vu] [] (k20 t v1 v2 v3 v4 v5)) : ∀ (t : Nat) (v1 : Option Nat) (v2 : Option Nat) (v3 : Option Nat) (v4 : Int32) (v5 : Int32) (v6 : Int64) (s0 : Int32), AW C cX2_find mX2_find qV res 53 [vr (some t), vr v1, vr v2, vr v3, vi v4, vi v5, vl v6, vu, vu] [vi s0] (bX2_find_53  k3 k20 t v1 v2 v3 v4 v5 v6 s0) := by
  intro t v1 v2 v3 v4 v5 v6 s0
  refine aw_istore dX2_find_53 (by decide) ?_
  refine aw_iload dX2_find_55 rfl ?_
  refine aw_if_ne 72 dX2_find_57 (by decide) ?_ ?_
  · refine aw_msk [true, true, true, true, true, true, true, false, true] ?_
    exact abX2_find_72  h3 h20 t v1 v2 v3 v4 v5 v6 s0
  · refine aw_lload dX2_find_60 rfl ?_
    refine aw_aload_n dX2_find_62 rfl ?_
    refine aw_gA dX2_find_63 fl_X2_9 (fun x63 => ?_)
    refine aw_iconst (0 : Int32) dX2_find_66 rfl ?_
    refine aw_lald dX2_find_67 (fun x67 => ?_)
    refine aw_lle 83 dX2_find_68 dX2_find_69 (by decide) ?_ ?_
    · refine aw_msk [true, true, true, true, true, true, true, false, true] ?_
      exact abX2_find_83  h3 h20 t v1 v2 v3 v4 v5 v6 s0
    · refine aw_msk [true, true, true, true, true, true, true, false, true] ?_
      exact abX2_find_72  h3 h20 t v1 v2 v3 v4 v5 v6 s0
set_option maxRecDepth 20000 in
theorem abX2_find_20 {C : Cx} {res : Unit × Hp}  {k3 : Nat → Option Nat → Option Nat → Option Nat → Int32 → Mo Unit} (h3 : ∀ (t : Nat) (v1 : Option Nat) (v2 : Option Nat) (v3 : Option Nat) (v4 : Int32), AW C cX2_find mX2_find qV res 3 [vr (some t), vr v1, vr v2, vr v3, vi v4, vu, vu, vu, vu] [] (k3 t v1 v2 v3 v4)) {k20 : Nat → Option Nat → Option Nat → Option Nat → Int32 → Int32 → Mo Unit} (h20 : ∀ (t : Nat) (v1 : Option Nat) (v2 : Option Nat) (v3 : Option Nat) (v4 : Int32) (v5 : Int32), AW C cX2_find mX2_find qV res 20 [vr (some t), vr v1, vr v2, vr v3, vi v4, vi v5, vu, vu, vu] [] (k20 t v1 v2 v3 v4 v5)) : ∀ (t : Nat) (v1 : Option Nat) (v2 : Option Nat) (v3 : Option Nat) (v4 : Int32) (v5 : Int32), AW C cX2_find mX2_find qV res 20 [vr (some t), vr v1, vr v2, vr v3, vi v4, vi v5, vu, vu, vu] [] (bX2_find_20  k3 k20 t v1 v2 v3 v4 v5) := by
  intro t v1 v2 v3 v4 v5
  refine aw_iload dX2_find_20 rfl ?_
  refine aw_aload_n dX2_find_22 rfl ?_
  refine aw_gI dX2_find_23 fl_X2_28 (fun x23 => ?_)
  refine aw_icmp_ge 117 dX2_find_26 (by decide) ?_ ?_
  · refine aw_iinc (v4 + (1 : Int32)) dX2_find_117 rfl rfl (by decide) ?_
    refine aw_goto 3 dX2_find_120 (by decide) ?_
    refine aw_msk [true, true, true, true, true, false, false, false, false] ?_
    exact h3 t v1 v2 v3 ((v4 + (1 : Int32)))
  · refine aw_aload_n dX2_find_29 rfl ?_
    refine aw_gA dX2_find_30 fl_X2_31 (fun x30 => ?_)
    refine aw_iload dX2_find_33 rfl ?_
    refine aw_lald dX2_find_35 (fun x35 => ?_)
    refine aw_lstore dX2_find_36 (by decide) ?_
    refine aw_iload dX2_find_38 rfl ?_
    refine aw_if_ne 52 dX2_find_40 (by decide) ?_ ?_
    · refine aw_iconst (0 : Int32) dX2_find_52 rfl ?_
      refine aw_msk [true, true, true, true, true, true, true, false, false] ?_
      exact abX2_find_53  h3 h20 t v1 v2 v3 v4 v5 x35 ((0 : Int32))
    · refine aw_iload dX2_find_43 rfl ?_
      refine aw_if_ne 52 dX2_find_45 (by decide) ?_ ?_
      · refine aw_iconst (0 : Int32) dX2_find_52 rfl ?_
        refine aw_msk [true, true, true, true, true, true, true, false, false] ?_
        exact abX2_find_53  h3 h20 t v1 v2 v3 v4 v5 x35 ((0 : Int32))
      · refine aw_iconst (1 : Int32) dX2_find_48 rfl ?_
        refine aw_goto 53 dX2_find_49 (by decide) ?_
        refine aw_msk [true, true, true, true, true, true, true, false, false] ?_
        exact abX2_find_53  h3 h20 t v1 v2 v3 v4 v5 x35 ((1 : Int32))
theorem afX2_find_20 {C : Cx} {res : Unit × Hp}  {k3 : Nat → Option Nat → Option Nat → Option Nat → Int32 → Mo Unit} (h3 : ∀ (t : Nat) (v1 : Option Nat) (v2 : Option Nat) (v3 : Option Nat) (v4 : Int32), AW C cX2_find mX2_find qV res 3 [vr (some t), vr v1, vr v2, vr v3, vi v4, vu, vu, vu, vu] [] (k3 t v1 v2 v3 v4)) : ∀ (n : Nat) (t : Nat) (v1 : Option Nat) (v2 : Option Nat) (v3 : Option Nat) (v4 : Int32) (v5 : Int32), AW C cX2_find mX2_find qV res 20 [vr (some t), vr v1, vr v2, vr v3, vi v4, vi v5, vu, vu, vu] [] (fX2_find_20  k3 n t v1 v2 v3 v4 v5)
  | 0, _, _, _, _, _, _ => aw_fl
  | n + 1, t, v1, v2, v3, v4, v5 => abX2_find_20  h3 (fun t v1 v2 v3 v4 v5 => afX2_find_20  h3 n t v1 v2 v3 v4 v5) t v1 v2 v3 v4 v5
set_option maxRecDepth 20000 in
theorem abX2_find_3 {C : Cx} {res : Unit × Hp}  {k3 : Nat → Option Nat → Option Nat → Option Nat → Int32 → Mo Unit} (h3 : ∀ (t : Nat) (v1 : Option Nat) (v2 : Option Nat) (v3 : Option Nat) (v4 : Int32), AW C cX2_find mX2_find qV res 3 [vr (some t), vr v1, vr v2, vr v3, vi v4, vu, vu, vu, vu] [] (k3 t v1 v2 v3 v4)) : ∀ (t : Nat) (v1 : Option Nat) (v2 : Option Nat) (v3 : Option Nat) (v4 : Int32), AW C cX2_find mX2_find qV res 3 [vr (some t), vr v1, vr v2, vr v3, vi v4, vu, vu, vu, vu] [] (bX2_find_3  k3 t v1 v2 v3 v4) := by
  intro t v1 v2 v3 v4
  refine aw_iload dX2_find_3 rfl ?_
  refine aw_iconst (2 : Int32) dX2_find_5 rfl ?_
  refine aw_icmp_ge 123 dX2_find_6 (by decide) ?_ ?_
  · refine aw_aload_n dX2_find_123 rfl ?_
    refine aw_gA dX2_find_124 fl_X2_9 (fun x124 => ?_)
    refine aw_iconst (0 : Int32) dX2_find_127 rfl ?_
    refine aw_lald dX2_find_128 (fun x128 => ?_)
    refine aw_lconst (0 : Int64) dX2_find_129 rfl ?_
    refine aw_lge 142 dX2_find_130 dX2_find_131 (by decide) ?_ ?_
    · refine aw_msk [true, false, false, false, false, false, false, false, false] ?_
      exact abX2_find_142   t
    · refine aw_aload_n dX2_find_134 rfl ?_
      refine aw_iconst (0 : Int32) dX2_find_135 rfl ?_
      refine aw_lconst (0 : Int64) dX2_find_136 rfl ?_
      refine aw_iconst (-1 : Int32) dX2_find_137 rfl ?_
      refine aw_iconst (-1 : Int32) dX2_find_138 rfl ?_
      refine aw_cV4 puV dX2_find_139 (fun o => ctX2_set o _ _ _ _) mcX2_set ml_X2_34 rfl rfl msX2_set rfl (by decide) (Nat.le_of_ble_eq_true rfl) (fun _ => ?_)
      refine aw_msk [true, false, false, false, false, false, false, false, false] ?_
      exact abX2_find_142   t
  · refine aw_aload_n dX2_find_9 rfl ?_
    refine aw_aload_n dX2_find_10 rfl ?_
    refine aw_aload_n dX2_find_11 rfl ?_
    refine aw_iload dX2_find_12 rfl ?_
    refine aw_cV3 puV dX2_find_14 (fun o => ctX7_roll o _ _ _) mcX7_roll ml_X2_22 rfl rfl msX7_roll rfl (by decide) (Nat.le_of_ble_eq_true rfl) (fun _ => ?_)
    refine aw_iconst (0 : Int32) dX2_find_17 rfl ?_
    refine aw_istore dX2_find_18 (by decide) ?_
    refine aw_msk [true, true, true, true, true, true, false, false, false] ?_
    exact afX2_find_20  h3 FU t v1 v2 v3 v4 ((0 : Int32))
theorem afX2_find_3 {C : Cx} {res : Unit × Hp}   : ∀ (n : Nat) (t : Nat) (v1 : Option Nat) (v2 : Option Nat) (v3 : Option Nat) (v4 : Int32), AW C cX2_find mX2_find qV res 3 [vr (some t), vr v1, vr v2, vr v3, vi v4, vu, vu, vu, vu] [] (fX2_find_3   n t v1 v2 v3 v4)
  | 0, _, _, _, _, _ => aw_fl
  | n + 1, t, v1, v2, v3, v4 => abX2_find_3  (fun t v1 v2 v3 v4 => afX2_find_3   n t v1 v2 v3 v4) t v1 v2 v3 v4
set_option maxRecDepth 20000 in
theorem ctX2_find (t : Nat) (v1 : Option Nat) (v2 : Option Nat) (v3 : Option Nat) : Ct yX2_find cX2_find mX2_find qV [vr (some t), vr v1, vr v2, vr v3] (pX2_find t v1 v2 v3) := by
  refine ct_go rfl rfl (fun h9 => by cases h9) (Nat.le_of_ble_eq_true rfl) (fun C res => ?_)
  refine aw_iconst (0 : Int32) dX2_find_0 rfl ?_
  refine aw_istore dX2_find_1 (by decide) ?_
  refine aw_msk [true, true, true, true, true, false, false, false, false] ?_
  exact afX2_find_3   FU t v1 v2 v3 ((0 : Int32))
set_option maxRecDepth 20000 in
theorem ctX3_totalOf (t : Nat) (v1 : Int32) (v2 : Int32) (v3 : Int64) : Ct yX3_totalOf cX3_totalOf mX3_totalOf qL [vr (some t), vi v1, vi v2, vl v3] (pX3_totalOf t v1 v2 v3) := by
  refine ct_go rfl rfl (fun h9 => by cases h9) (Nat.le_of_ble_eq_true rfl) (fun C res => ?_)
  refine aw_ldc2 dX3_totalOf_0 cj_X3_70 ?_
  refine aw_lload_n dX3_totalOf_3 rfl ?_
  refine aw_lmul dX3_totalOf_4 ?_
  refine aw_aload_n dX3_totalOf_5 rfl ?_
  refine aw_gA dX3_totalOf_6 fl_X3_27 (fun x6 => ?_)
  refine aw_iload_n dX3_totalOf_9 rfl ?_
  refine aw_aald 6 (fun _ => rfl) rfl dX3_totalOf_10 (fun x10 => ?_)
  refine aw_iload_n dX3_totalOf_11 rfl ?_
  refine aw_lald dX3_totalOf_12 (fun x12 => ?_)
  refine aw_ladd dX3_totalOf_13 ?_
  refine aw_aload_n dX3_totalOf_14 rfl ?_
  refine aw_gI dX3_totalOf_15 fl_X3_30 (fun x15 => ?_)
  refine aw_i2l dX3_totalOf_18 ?_
  refine aw_lmul dX3_totalOf_19 ?_
  exact aw_lret dX3_totalOf_20 rfl
set_option maxRecDepth 20000 in
theorem abX3_isMet_19 {C : Cx} {res : Int32 × Hp}  {k19 : Nat → Int32 → Option Nat → Int32 → Mo Int32} (h19 : ∀ (t : Nat) (v1 : Int32) (v2 : Option Nat) (v4 : Int32), AW C cX3_isMet mX3_isMet qI res 19 [vr (some t), vi v1, vr v2, vu, vi v4] [] (k19 t v1 v2 v4)) : ∀ (t : Nat) (v1 : Int32) (v2 : Option Nat) (v4 : Int32), AW C cX3_isMet mX3_isMet qI res 19 [vr (some t), vi v1, vr v2, vu, vi v4] [] (bX3_isMet_19  k19 t v1 v2 v4) := by
  intro t v1 v2 v4
  refine aw_iload dX3_isMet_19 rfl ?_
  refine aw_iconst (1 : Int32) dX3_isMet_21 rfl ?_
  refine aw_icmp_gt 98 dX3_isMet_22 (by decide) ?_ ?_
  · refine aw_iconst (1 : Int32) dX3_isMet_98 rfl ?_
    exact aw_zret dX3_isMet_99 rfl
  · refine aw_aload_n dX3_isMet_25 rfl ?_
    refine aw_iload dX3_isMet_26 rfl ?_
    refine aw_aload_n dX3_isMet_28 rfl ?_
    refine aw_iload_n dX3_isMet_29 rfl ?_
    refine aw_iload dX3_isMet_30 rfl ?_
    refine aw_aload_n dX3_isMet_32 rfl ?_
    refine aw_gA dX3_isMet_33 fl_X3_21 (fun x33 => ?_)
    refine aw_gA dX3_isMet_36 fl_X3_66 (fun x36 => ?_)
    refine aw_iload dX3_isMet_39 rfl ?_
    refine aw_lald dX3_isMet_41 (fun x41 => ?_)
    refine aw_cV3 puL dX3_isMet_42 (fun o => ctX3_totalOf o _ _ _) mcX3_totalOf ml_X3_93 rfl rfl msX3_totalOf rfl (by decide) (Nat.le_of_ble_eq_true rfl) (fun x42 => ?_)
    refine aw_cV2 puI dX3_isMet_45 (fun o => ctX1_allows o _ _) mcX1_allows ml_X3_97 rfl rfl msX1_allows rfl (by decide) (Nat.le_of_ble_eq_true rfl) (fun x45 => ?_)
    refine aw_if_ne 92 dX3_isMet_48 (by decide) ?_ ?_
    · refine aw_iinc (v4 + (1 : Int32)) dX3_isMet_92 rfl rfl (by decide) ?_
      refine aw_goto 19 dX3_isMet_95 (by decide) ?_
      refine aw_msk [true, true, true, false, true] ?_
      exact h19 t v1 v2 ((v4 + (1 : Int32)))
    · refine aw_aload_n dX3_isMet_51 rfl ?_
      refine aw_iload_n dX3_isMet_52 rfl ?_
      refine aw_pI dX3_isMet_53 pl_X3_34 (fun _ => ?_)
      refine aw_aload_n dX3_isMet_56 rfl ?_
      refine aw_iload dX3_isMet_57 rfl ?_
      refine aw_pI dX3_isMet_59 pl_X3_37 (fun _ => ?_)
      refine aw_aload_n dX3_isMet_62 rfl ?_
      refine aw_aload_n dX3_isMet_63 rfl ?_
      refine aw_gA dX3_isMet_64 fl_X3_21 (fun x64 => ?_)
      refine aw_gA dX3_isMet_67 fl_X3_101 (fun x67 => ?_)
      refine aw_iload dX3_isMet_70 rfl ?_
      refine aw_iald dX3_isMet_72 (fun x72 => ?_)
      refine aw_pI dX3_isMet_73 pl_X3_40 (fun _ => ?_)
      refine aw_aload_n dX3_isMet_76 rfl ?_
      refine aw_aload_n dX3_isMet_77 rfl ?_
      refine aw_gA dX3_isMet_78 fl_X3_21 (fun x78 => ?_)
      refine aw_gA dX3_isMet_81 fl_X3_104 (fun x81 => ?_)
      refine aw_iload dX3_isMet_84 rfl ?_
      refine aw_iald dX3_isMet_86 (fun x86 => ?_)
      refine aw_pI dX3_isMet_87 pl_X3_43 (fun _ => ?_)
      refine aw_iconst (0 : Int32) dX3_isMet_90 rfl ?_
      exact aw_zret dX3_isMet_91 rfl
theorem afX3_isMet_19 {C : Cx} {res : Int32 × Hp}   : ∀ (n : Nat) (t : Nat) (v1 : Int32) (v2 : Option Nat) (v4 : Int32), AW C cX3_isMet mX3_isMet qI res 19 [vr (some t), vi v1, vr v2, vu, vi v4] [] (fX3_isMet_19   n t v1 v2 v4)
  | 0, _, _, _, _ => aw_fl
  | n + 1, t, v1, v2, v4 => abX3_isMet_19  (fun t v1 v2 v4 => afX3_isMet_19   n t v1 v2 v4) t v1 v2 v4
set_option maxRecDepth 20000 in
theorem ctX3_isMet (t : Nat) (v1 : Int32) (v2 : Option Nat) (v3 : Option Nat) : Ct yX3_isMet cX3_isMet mX3_isMet qI [vr (some t), vi v1, vr v2, vr v3] (pX3_isMet t v1 v2 v3) := by
  refine ct_go rfl rfl (fun h9 => by cases h9) (Nat.le_of_ble_eq_true rfl) (fun C res => ?_)
  refine aw_aload_n dX3_isMet_0 rfl ?_
  refine aw_gA dX3_isMet_1 fl_X3_21 (fun x1 => ?_)
  refine aw_aload_n dX3_isMet_4 rfl ?_
  refine aw_gA dX3_isMet_5 fl_X3_56 (fun x5 => ?_)
  refine aw_aload_n dX3_isMet_8 rfl ?_
  refine aw_aload_n dX3_isMet_9 rfl ?_
  refine aw_gA dX3_isMet_10 fl_X3_12 (fun x10 => ?_)
  refine aw_cV3 puV dX3_isMet_13 (fun o => ctX2_find o _ _ _) mcX2_find ml_X3_62 rfl rfl msX2_find rfl (by decide) (Nat.le_of_ble_eq_true rfl) (fun _ => ?_)
  refine aw_iconst (0 : Int32) dX3_isMet_16 rfl ?_
  refine aw_istore dX3_isMet_17 (by decide) ?_
  refine aw_msk [true, true, true, false, true] ?_
  exact afX3_isMet_19   FU t v1 v2 ((0 : Int32))
set_option maxRecDepth 20000 in
theorem abX3_firstUnmet_2 {C : Cx} {res : Int32 × Hp}  {k2 : Nat → Option Nat → Option Nat → Int32 → Mo Int32} (h2 : ∀ (t : Nat) (v1 : Option Nat) (v2 : Option Nat) (v3 : Int32), AW C cX3_firstUnmet mX3_firstUnmet qI res 2 [vr (some t), vr v1, vr v2, vi v3, vu] [] (k2 t v1 v2 v3)) : ∀ (t : Nat) (v1 : Option Nat) (v2 : Option Nat) (v3 : Int32), AW C cX3_firstUnmet mX3_firstUnmet qI res 2 [vr (some t), vr v1, vr v2, vi v3, vu] [] (bX3_firstUnmet_2  k2 t v1 v2 v3) := by
  intro t v1 v2 v3
  refine aw_iload_n dX3_firstUnmet_2 rfl ?_
  refine aw_aload_n dX3_firstUnmet_3 rfl ?_
  refine aw_gI dX3_firstUnmet_4 fl_X3_72 (fun x4 => ?_)
  refine aw_icmp_ge 41 dX3_firstUnmet_7 (by decide) ?_ ?_
  · refine aw_iconst (-1 : Int32) dX3_firstUnmet_41 rfl ?_
    exact aw_iret dX3_firstUnmet_42 rfl
  · refine aw_aload_n dX3_firstUnmet_10 rfl ?_
    refine aw_iload_n dX3_firstUnmet_11 rfl ?_
    refine aw_cV1 puA dX3_firstUnmet_12 (fun o => ctX0_checkAt o _) mcX0_checkAt ml_X3_52 rfl rfl msX0_checkAt rfl (by decide) (Nat.le_of_ble_eq_true rfl) (fun x12 => ?_)
    refine aw_astore dX3_firstUnmet_15 (by decide) ?_
    refine aw_aload dX3_firstUnmet_17 rfl ?_
    refine aw_ifnull 35 dX3_firstUnmet_19 (by decide) ?_ ?_
    · refine aw_iinc (v3 + (1 : Int32)) dX3_firstUnmet_35 rfl rfl (by decide) ?_
      refine aw_goto 2 dX3_firstUnmet_38 (by decide) ?_
      refine aw_msk [true, true, true, true, false] ?_
      exact h2 t v1 v2 ((v3 + (1 : Int32)))
    · refine aw_aload_n dX3_firstUnmet_22 rfl ?_
      refine aw_iload_n dX3_firstUnmet_23 rfl ?_
      refine aw_aload dX3_firstUnmet_24 rfl ?_
      refine aw_aload_n dX3_firstUnmet_26 rfl ?_
      refine aw_cV3 puI dX3_firstUnmet_27 (fun o => ctX3_isMet o _ _ _) mcX3_isMet ml_X3_75 rfl rfl msX3_isMet rfl (by decide) (Nat.le_of_ble_eq_true rfl) (fun x27 => ?_)
      refine aw_if_ne 35 dX3_firstUnmet_30 (by decide) ?_ ?_
      · refine aw_iinc (v3 + (1 : Int32)) dX3_firstUnmet_35 rfl rfl (by decide) ?_
        refine aw_goto 2 dX3_firstUnmet_38 (by decide) ?_
        refine aw_msk [true, true, true, true, false] ?_
        exact h2 t v1 v2 ((v3 + (1 : Int32)))
      · refine aw_iload_n dX3_firstUnmet_33 rfl ?_
        exact aw_iret dX3_firstUnmet_34 rfl
theorem afX3_firstUnmet_2 {C : Cx} {res : Int32 × Hp}   : ∀ (n : Nat) (t : Nat) (v1 : Option Nat) (v2 : Option Nat) (v3 : Int32), AW C cX3_firstUnmet mX3_firstUnmet qI res 2 [vr (some t), vr v1, vr v2, vi v3, vu] [] (fX3_firstUnmet_2   n t v1 v2 v3)
  | 0, _, _, _, _ => aw_fl
  | n + 1, t, v1, v2, v3 => abX3_firstUnmet_2  (fun t v1 v2 v3 => afX3_firstUnmet_2   n t v1 v2 v3) t v1 v2 v3
set_option maxRecDepth 20000 in
theorem ctX3_firstUnmet (t : Nat) (v1 : Option Nat) (v2 : Option Nat) : Ct yX3_firstUnmet cX3_firstUnmet mX3_firstUnmet qI [vr (some t), vr v1, vr v2] (pX3_firstUnmet t v1 v2) := by
  refine ct_go rfl rfl (fun h9 => by cases h9) (Nat.le_of_ble_eq_true rfl) (fun C res => ?_)
  refine aw_iconst (0 : Int32) dX3_firstUnmet_0 rfl ?_
  refine aw_istore_n dX3_firstUnmet_1 (by decide) ?_
  refine aw_msk [true, true, true, true, false] ?_
  exact afX3_firstUnmet_2   FU t v1 v2 ((0 : Int32))
set_option maxRecDepth 20000 in
theorem abX3_prepare_73 {C : Cx} {res : Unit × Hp}  {k73 : Nat → Option Nat → Option Nat → Int64 → Int32 → Mo Unit} (h73 : ∀ (t : Nat) (v1 : Option Nat) (v2 : Option Nat) (v5 : Int64) (v7 : Int32), AW C cX3_prepare mX3_prepare qV res 73 [vr (some t), vr v1, vr v2, vu, vu, vl v5, vu, vi v7, vu] [] (k73 t v1 v2 v5 v7)) : ∀ (t : Nat) (v1 : Option Nat) (v2 : Option Nat) (v5 : Int64) (v7 : Int32), AW C cX3_prepare mX3_prepare qV res 73 [vr (some t), vr v1, vr v2, vu, vu, vl v5, vu, vi v7, vu] [] (bX3_prepare_73  k73 t v1 v2 v5 v7) := by
  intro t v1 v2 v5 v7
  refine aw_iload dX3_prepare_73 rfl ?_
  refine aw_iconst (5 : Int32) dX3_prepare_75 rfl ?_
  refine aw_icmp_ge 184 dX3_prepare_76 (by decide) ?_ ?_
  · exact aw_vret dX3_prepare_184 rfl
  · refine aw_aload_n dX3_prepare_79 rfl ?_
    refine aw_gA dX3_prepare_80 fl_X3_27 (fun x80 => ?_)
    refine aw_iconst (0 : Int32) dX3_prepare_83 rfl ?_
    refine aw_aald 6 (fun _ => rfl) rfl dX3_prepare_84 (fun x84 => ?_)
    refine aw_iload dX3_prepare_85 rfl ?_
    refine aw_lconst (0 : Int64) dX3_prepare_87 rfl ?_
    refine aw_last dX3_prepare_88 (fun _ => ?_)
    refine aw_aload_n dX3_prepare_89 rfl ?_
    refine aw_gA dX3_prepare_90 fl_X3_27 (fun x90 => ?_)
    refine aw_iconst (1 : Int32) dX3_prepare_93 rfl ?_
    refine aw_aald 6 (fun _ => rfl) rfl dX3_prepare_94 (fun x94 => ?_)
    refine aw_iload dX3_prepare_95 rfl ?_
    refine aw_lconst (0 : Int64) dX3_prepare_97 rfl ?_
    refine aw_last dX3_prepare_98 (fun _ => ?_)
    refine aw_aload_n dX3_prepare_99 rfl ?_
    refine aw_iload dX3_prepare_100 rfl ?_
    refine aw_cV1 puA dX3_prepare_102 (fun o => ctX0_checkAt o _) mcX0_checkAt ml_X3_52 rfl rfl msX0_checkAt rfl (by decide) (Nat.le_of_ble_eq_true rfl) (fun x102 => ?_)
    refine aw_astore dX3_prepare_105 (by decide) ?_
    refine aw_aload dX3_prepare_107 rfl ?_
    refine aw_ifnull 178 dX3_prepare_109 (by decide) ?_ ?_
    · refine aw_iinc (v7 + (1 : Int32)) dX3_prepare_178 rfl rfl (by decide) ?_
      refine aw_goto 73 dX3_prepare_181 (by decide) ?_
      refine aw_msk [true, true, true, false, false, true, false, true, false] ?_
      exact h73 t v1 v2 v5 ((v7 + (1 : Int32)))
    · refine aw_lload dX3_prepare_112 rfl ?_
      refine aw_lconst (0 : Int64) dX3_prepare_114 rfl ?_
      refine aw_leq 178 dX3_prepare_115 dX3_prepare_116 (by decide) ?_ ?_
      · refine aw_iinc (v7 + (1 : Int32)) dX3_prepare_178 rfl rfl (by decide) ?_
        refine aw_goto 73 dX3_prepare_181 (by decide) ?_
        refine aw_msk [true, true, true, false, false, true, false, true, false] ?_
        exact h73 t v1 v2 v5 ((v7 + (1 : Int32)))
      · refine aw_aload_n dX3_prepare_119 rfl ?_
        refine aw_gA dX3_prepare_120 fl_X3_21 (fun x120 => ?_)
        refine aw_aload dX3_prepare_123 rfl ?_
        refine aw_gA dX3_prepare_125 fl_X3_56 (fun x125 => ?_)
        refine aw_aload_n dX3_prepare_128 rfl ?_
        refine aw_aload_n dX3_prepare_129 rfl ?_
        refine aw_gA dX3_prepare_130 fl_X3_12 (fun x130 => ?_)
        refine aw_cV3 puV dX3_prepare_133 (fun o => ctX2_find o _ _ _) mcX2_find ml_X3_62 rfl rfl msX2_find rfl (by decide) (Nat.le_of_ble_eq_true rfl) (fun _ => ?_)
        refine aw_aload_n dX3_prepare_136 rfl ?_
        refine aw_gA dX3_prepare_137 fl_X3_27 (fun x137 => ?_)
        refine aw_iconst (0 : Int32) dX3_prepare_140 rfl ?_
        refine aw_aald 6 (fun _ => rfl) rfl dX3_prepare_141 (fun x141 => ?_)
        refine aw_iload dX3_prepare_142 rfl ?_
        refine aw_lload dX3_prepare_144 rfl ?_
        refine aw_aload_n dX3_prepare_146 rfl ?_
        refine aw_gA dX3_prepare_147 fl_X3_21 (fun x147 => ?_)
        refine aw_gA dX3_prepare_150 fl_X3_66 (fun x150 => ?_)
        refine aw_iconst (0 : Int32) dX3_prepare_153 rfl ?_
        refine aw_lald dX3_prepare_154 (fun x154 => ?_)
        refine aw_lmul dX3_prepare_155 ?_
        refine aw_last dX3_prepare_156 (fun _ => ?_)
        refine aw_aload_n dX3_prepare_157 rfl ?_
        refine aw_gA dX3_prepare_158 fl_X3_27 (fun x158 => ?_)
        refine aw_iconst (1 : Int32) dX3_prepare_161 rfl ?_
        refine aw_aald 6 (fun _ => rfl) rfl dX3_prepare_162 (fun x162 => ?_)
        refine aw_iload dX3_prepare_163 rfl ?_
        refine aw_lload dX3_prepare_165 rfl ?_
        refine aw_aload_n dX3_prepare_167 rfl ?_
        refine aw_gA dX3_prepare_168 fl_X3_21 (fun x168 => ?_)
        refine aw_gA dX3_prepare_171 fl_X3_66 (fun x171 => ?_)
        refine aw_iconst (1 : Int32) dX3_prepare_174 rfl ?_
        refine aw_lald dX3_prepare_175 (fun x175 => ?_)
        refine aw_lmul dX3_prepare_176 ?_
        refine aw_last dX3_prepare_177 (fun _ => ?_)
        refine aw_iinc (v7 + (1 : Int32)) dX3_prepare_178 rfl rfl (by decide) ?_
        refine aw_goto 73 dX3_prepare_181 (by decide) ?_
        refine aw_msk [true, true, true, false, false, true, false, true, false] ?_
        exact h73 t v1 v2 v5 ((v7 + (1 : Int32)))
theorem afX3_prepare_73 {C : Cx} {res : Unit × Hp}   : ∀ (n : Nat) (t : Nat) (v1 : Option Nat) (v2 : Option Nat) (v5 : Int64) (v7 : Int32), AW C cX3_prepare mX3_prepare qV res 73 [vr (some t), vr v1, vr v2, vu, vu, vl v5, vu, vi v7, vu] [] (fX3_prepare_73   n t v1 v2 v5 v7)
  | 0, _, _, _, _, _ => aw_fl
  | n + 1, t, v1, v2, v5, v7 => abX3_prepare_73  (fun t v1 v2 v5 v7 => afX3_prepare_73   n t v1 v2 v5 v7) t v1 v2 v5 v7
set_option maxRecDepth 20000 in
theorem abX3_prepare_41 {C : Cx} {res : Unit × Hp}   : ∀ (t : Nat) (v1 : Option Nat) (v2 : Option Nat) (s0 : Int32), AW C cX3_prepare mX3_prepare qV res 41 [vr (some t), vr v1, vr v2, vu, vu, vu, vu, vu, vu] [vi s0] (bX3_prepare_41   t v1 v2 s0) := by
  intro t v1 v2 s0
  refine aw_istore dX3_prepare_41 (by decide) ?_
  refine aw_iload dX3_prepare_43 rfl ?_
  refine aw_if_eq 67 dX3_prepare_45 (by decide) ?_ ?_
  · refine aw_lconst (0 : Int64) dX3_prepare_67 rfl ?_
    refine aw_lstore dX3_prepare_68 (by decide) ?_
    refine aw_iconst (0 : Int32) dX3_prepare_70 rfl ?_
    refine aw_istore dX3_prepare_71 (by decide) ?_
    refine aw_msk [true, true, true, false, false, true, false, true, false] ?_
    exact afX3_prepare_73   FU t v1 v2 ((0 : Int64)) ((0 : Int32))
  · refine aw_aload_n dX3_prepare_48 rfl ?_
    refine aw_gA dX3_prepare_49 fl_X3_46 (fun x49 => ?_)
    refine aw_iconst (1 : Int32) dX3_prepare_52 rfl ?_
    refine aw_iald dX3_prepare_53 (fun x53 => ?_)
    refine aw_iconst (1 : Int32) dX3_prepare_54 rfl ?_
    refine aw_isub dX3_prepare_55 ?_
    refine aw_aload_n dX3_prepare_56 rfl ?_
    refine aw_gA dX3_prepare_57 fl_X3_46 (fun x57 => ?_)
    refine aw_iconst (2 : Int32) dX3_prepare_60 rfl ?_
    refine aw_iald dX3_prepare_61 (fun x61 => ?_)
    refine aw_imul dX3_prepare_62 ?_
    refine aw_i2l dX3_prepare_63 ?_
    refine aw_goto 68 dX3_prepare_64 (by decide) ?_
    refine aw_lstore dX3_prepare_68 (by decide) ?_
    refine aw_iconst (0 : Int32) dX3_prepare_70 rfl ?_
    refine aw_istore dX3_prepare_71 (by decide) ?_
    refine aw_msk [true, true, true, false, false, true, false, true, false] ?_
    exact afX3_prepare_73   FU t v1 v2 ((Int32.toInt64 ((x53 - (1 : Int32)) * x61))) ((0 : Int32))
set_option maxRecDepth 20000 in
theorem abX3_prepare_25 {C : Cx} {res : Unit × Hp}   : ∀ (t : Nat) (v1 : Option Nat) (v2 : Option Nat) (v3 : Int32) (s0 : Option Nat) (s1 : Int32), AW C cX3_prepare mX3_prepare qV res 25 [vr (some t), vr v1, vr v2, vi v3, vu, vu, vu, vu, vu] [vi s1, vr s0] (bX3_prepare_25   t v1 v2 v3 s0 s1) := by
  intro t v1 v2 v3 s0 s1
  refine aw_pI dX3_prepare_25 pl_X3_30 (fun _ => ?_)
  refine aw_iload_n dX3_prepare_28 rfl ?_
  refine aw_if_ne 40 dX3_prepare_29 (by decide) ?_ ?_
  · refine aw_iconst (0 : Int32) dX3_prepare_40 rfl ?_
    refine aw_msk [true, true, true, false, false, false, false, false, false] ?_
    exact abX3_prepare_41   t v1 v2 ((0 : Int32))
  · refine aw_aload_n dX3_prepare_32 rfl ?_
    refine aw_ifnull 40 dX3_prepare_33 (by decide) ?_ ?_
    · refine aw_iconst (0 : Int32) dX3_prepare_40 rfl ?_
      refine aw_msk [true, true, true, false, false, false, false, false, false] ?_
      exact abX3_prepare_41   t v1 v2 ((0 : Int32))
    · refine aw_iconst (1 : Int32) dX3_prepare_36 rfl ?_
      refine aw_goto 41 dX3_prepare_37 (by decide) ?_
      refine aw_msk [true, true, true, false, false, false, false, false, false] ?_
      exact abX3_prepare_41   t v1 v2 ((1 : Int32))
set_option maxRecDepth 20000 in
theorem ctX3_prepare (t : Nat) (v1 : Option Nat) (v2 : Option Nat) (v3 : Int32) : Ct yX3_prepare cX3_prepare mX3_prepare qV [vr (some t), vr v1, vr v2, vi v3] (pX3_prepare t v1 v2 v3) := by
  refine ct_go rfl rfl (fun h9 => by cases h9) (Nat.le_of_ble_eq_true rfl) (fun C res => ?_)
  refine aw_aload_n dX3_prepare_0 rfl ?_
  refine aw_iconst (-1 : Int32) dX3_prepare_1 rfl ?_
  refine aw_pI dX3_prepare_2 pl_X3_34 (fun _ => ?_)
  refine aw_aload_n dX3_prepare_5 rfl ?_
  refine aw_iload_n dX3_prepare_6 rfl ?_
  refine aw_iconst (2 : Int32) dX3_prepare_7 rfl ?_
  refine aw_icmp_ne 16 dX3_prepare_8 (by decide) ?_ ?_
  · refine aw_bipush (100 : Int32) dX3_prepare_16 rfl ?_
    refine aw_aload_n dX3_prepare_18 rfl ?_
    refine aw_gA dX3_prepare_19 fl_X3_46 (fun x19 => ?_)
    refine aw_iconst (0 : Int32) dX3_prepare_22 rfl ?_
    refine aw_iald dX3_prepare_23 (fun x23 => ?_)
    refine aw_iadd dX3_prepare_24 ?_
    refine aw_msk [true, true, true, true, false, false, false, false, false] ?_
    exact abX3_prepare_25   t v1 v2 v3 ((some t)) (((100 : Int32) + x23))
  · refine aw_bipush (100 : Int32) dX3_prepare_11 rfl ?_
    refine aw_goto 25 dX3_prepare_13 (by decide) ?_
    refine aw_msk [true, true, true, true, false, false, false, false, false] ?_
    exact abX3_prepare_25   t v1 v2 v3 ((some t)) ((100 : Int32))
set_option maxRecDepth 20000 in
theorem abX5_closeOver_2 {C : Cx} {res : Unit × Hp}  {k2 : Nat → Int32 → Int32 → Mo Unit} (h2 : ∀ (t : Nat) (v1 : Int32) (v2 : Int32), AW C cX5_closeOver mX5_closeOver qV res 2 [vr (some t), vi v1, vi v2] [] (k2 t v1 v2)) : ∀ (t : Nat) (v1 : Int32) (v2 : Int32), AW C cX5_closeOver mX5_closeOver qV res 2 [vr (some t), vi v1, vi v2] [] (bX5_closeOver_2  k2 t v1 v2) := by
  intro t v1 v2
  refine aw_iload_n dX5_closeOver_2 rfl ?_
  refine aw_aload_n dX5_closeOver_3 rfl ?_
  refine aw_gI dX5_closeOver_4 fl_X5_28 (fun x4 => ?_)
  refine aw_icmp_ge 33 dX5_closeOver_7 (by decide) ?_ ?_
  · exact aw_vret dX5_closeOver_33 rfl
  · refine aw_aload_n dX5_closeOver_10 rfl ?_
    refine aw_gA dX5_closeOver_11 fl_X5_21 (fun x11 => ?_)
    refine aw_iload_n dX5_closeOver_14 rfl ?_
    refine aw_iald dX5_closeOver_15 (fun x15 => ?_)
    refine aw_iload_n dX5_closeOver_16 rfl ?_
    refine aw_icmp_ne 27 dX5_closeOver_17 (by decide) ?_ ?_
    · refine aw_iinc (v2 + (1 : Int32)) dX5_closeOver_27 rfl rfl (by decide) ?_
      refine aw_goto 2 dX5_closeOver_30 (by decide) ?_
      refine aw_msk [true, true, true] ?_
      exact h2 t v1 ((v2 + (1 : Int32)))
    · refine aw_aload_n dX5_closeOver_20 rfl ?_
      refine aw_gA dX5_closeOver_21 fl_X5_24 (fun x21 => ?_)
      refine aw_iload_n dX5_closeOver_24 rfl ?_
      refine aw_iconst (1 : Int32) dX5_closeOver_25 rfl ?_
      refine aw_zast dX5_closeOver_26 (fun _ => ?_)
      refine aw_iinc (v2 + (1 : Int32)) dX5_closeOver_27 rfl rfl (by decide) ?_
      refine aw_goto 2 dX5_closeOver_30 (by decide) ?_
      refine aw_msk [true, true, true] ?_
      exact h2 t v1 ((v2 + (1 : Int32)))
theorem afX5_closeOver_2 {C : Cx} {res : Unit × Hp}   : ∀ (n : Nat) (t : Nat) (v1 : Int32) (v2 : Int32), AW C cX5_closeOver mX5_closeOver qV res 2 [vr (some t), vi v1, vi v2] [] (fX5_closeOver_2   n t v1 v2)
  | 0, _, _, _ => aw_fl
  | n + 1, t, v1, v2 => abX5_closeOver_2  (fun t v1 v2 => afX5_closeOver_2   n t v1 v2) t v1 v2
set_option maxRecDepth 20000 in
theorem ctX5_closeOver (t : Nat) (v1 : Int32) : Ct yX5_closeOver cX5_closeOver mX5_closeOver qV [vr (some t), vi v1] (pX5_closeOver t v1) := by
  refine ct_go rfl rfl (fun h9 => by cases h9) (Nat.le_of_ble_eq_true rfl) (fun C res => ?_)
  refine aw_iconst (0 : Int32) dX5_closeOver_0 rfl ?_
  refine aw_istore_n dX5_closeOver_1 (by decide) ?_
  refine aw_msk [true, true, true] ?_
  exact afX5_closeOver_2   FU t v1 ((0 : Int32))
set_option maxRecDepth 20000 in
theorem abX5_openAll_2 {C : Cx} {res : Unit × Hp}  {k2 : Nat → Int32 → Mo Unit} (h2 : ∀ (t : Nat) (v1 : Int32), AW C cX5_openAll mX5_openAll qV res 2 [vr (some t), vi v1] [] (k2 t v1)) : ∀ (t : Nat) (v1 : Int32), AW C cX5_openAll mX5_openAll qV res 2 [vr (some t), vi v1] [] (bX5_openAll_2  k2 t v1) := by
  intro t v1
  refine aw_iload_n dX5_openAll_2 rfl ?_
  refine aw_aload_n dX5_openAll_3 rfl ?_
  refine aw_gI dX5_openAll_4 fl_X5_28 (fun x4 => ?_)
  refine aw_icmp_ge 23 dX5_openAll_7 (by decide) ?_ ?_
  · exact aw_vret dX5_openAll_23 rfl
  · refine aw_aload_n dX5_openAll_10 rfl ?_
    refine aw_gA dX5_openAll_11 fl_X5_24 (fun x11 => ?_)
    refine aw_iload_n dX5_openAll_14 rfl ?_
    refine aw_iconst (0 : Int32) dX5_openAll_15 rfl ?_
    refine aw_zast dX5_openAll_16 (fun _ => ?_)
    refine aw_iinc (v1 + (1 : Int32)) dX5_openAll_17 rfl rfl (by decide) ?_
    refine aw_goto 2 dX5_openAll_20 (by decide) ?_
    refine aw_msk [true, true] ?_
    exact h2 t ((v1 + (1 : Int32)))
theorem afX5_openAll_2 {C : Cx} {res : Unit × Hp}   : ∀ (n : Nat) (t : Nat) (v1 : Int32), AW C cX5_openAll mX5_openAll qV res 2 [vr (some t), vi v1] [] (fX5_openAll_2   n t v1)
  | 0, _, _ => aw_fl
  | n + 1, t, v1 => abX5_openAll_2  (fun t v1 => afX5_openAll_2   n t v1) t v1
set_option maxRecDepth 20000 in
theorem ctX5_openAll (t : Nat) : Ct yX5_openAll cX5_openAll mX5_openAll qV [vr (some t)] (pX5_openAll t) := by
  refine ct_go rfl rfl (fun h9 => by cases h9) (Nat.le_of_ble_eq_true rfl) (fun C res => ?_)
  refine aw_iconst (0 : Int32) dX5_openAll_0 rfl ?_
  refine aw_istore_n dX5_openAll_1 (by decide) ?_
  refine aw_msk [true, true] ?_
  exact afX5_openAll_2   FU t ((0 : Int32))
set_option maxRecDepth 20000 in
theorem abX10_closeRoadsUnmet_70 {C : Cx} {res : Unit × Hp}  {k9 : Nat → Option Nat → Int32 → Int32 → Mo Unit} (h9 : ∀ (t : Nat) (v1 : Option Nat) (v2 : Int32) (v3 : Int32), AW C cX10_closeRoadsUnmet mX10_closeRoadsUnmet qV res 9 [vr (some t), vr v1, vi v2, vi v3, vu] [] (k9 t v1 v2 v3)) : ∀ (t : Nat) (v1 : Option Nat) (v2 : Int32) (v3 : Int32), AW C cX10_closeRoadsUnmet mX10_closeRoadsUnmet qV res 70 [vr (some t), vr v1, vi v2, vi v3, vu] [] (bX10_closeRoadsUnmet_70  k9 t v1 v2 v3) := by
  intro t v1 v2 v3
  refine aw_aload_n dX10_closeRoadsUnmet_70 rfl ?_
  refine aw_gA dX10_closeRoadsUnmet_71 fl_X10_85 (fun x71 => ?_)
  refine aw_iload_n dX10_closeRoadsUnmet_74 rfl ?_
  refine aw_iald dX10_closeRoadsUnmet_75 (fun x75 => ?_)
  refine aw_iconst (-1 : Int32) dX10_closeRoadsUnmet_76 rfl ?_
  refine aw_icmp_eq 88 dX10_closeRoadsUnmet_77 (by decide) ?_ ?_
  · refine aw_iinc (v3 + (1 : Int32)) dX10_closeRoadsUnmet_88 rfl rfl (by decide) ?_
    refine aw_goto 9 dX10_closeRoadsUnmet_91 (by decide) ?_
    refine aw_msk [true, true, true, true, false] ?_
    exact h9 t v1 v2 ((v3 + (1 : Int32)))
  · refine aw_aload_n dX10_closeRoadsUnmet_80 rfl ?_
    refine aw_gA dX10_closeRoadsUnmet_81 fl_X10_34 (fun x81 => ?_)
    refine aw_iload_n dX10_closeRoadsUnmet_84 rfl ?_
    refine aw_cV1 puV dX10_closeRoadsUnmet_85 (fun o => ctX5_closeOver o _) mcX5_closeOver ml_X10_326 rfl rfl msX5_closeOver rfl (by decide) (Nat.le_of_ble_eq_true rfl) (fun _ => ?_)
    refine aw_iinc (v3 + (1 : Int32)) dX10_closeRoadsUnmet_88 rfl rfl (by decide) ?_
    refine aw_goto 9 dX10_closeRoadsUnmet_91 (by decide) ?_
    refine aw_msk [true, true, true, true, false] ?_
    exact h9 t v1 v2 ((v3 + (1 : Int32)))
set_option maxRecDepth 20000 in
theorem abX10_closeRoadsUnmet_9 {C : Cx} {res : Unit × Hp}  {k9 : Nat → Option Nat → Int32 → Int32 → Mo Unit} (h9 : ∀ (t : Nat) (v1 : Option Nat) (v2 : Int32) (v3 : Int32), AW C cX10_closeRoadsUnmet mX10_closeRoadsUnmet qV res 9 [vr (some t), vr v1, vi v2, vi v3, vu] [] (k9 t v1 v2 v3)) : ∀ (t : Nat) (v1 : Option Nat) (v2 : Int32) (v3 : Int32), AW C cX10_closeRoadsUnmet mX10_closeRoadsUnmet qV res 9 [vr (some t), vr v1, vi v2, vi v3, vu] [] (bX10_closeRoadsUnmet_9  k9 t v1 v2 v3) := by
  intro t v1 v2 v3
  refine aw_iload_n dX10_closeRoadsUnmet_9 rfl ?_
  refine aw_aload_n dX10_closeRoadsUnmet_10 rfl ?_
  refine aw_gI dX10_closeRoadsUnmet_11 fl_X10_15 (fun x11 => ?_)
  refine aw_icmp_ge 94 dX10_closeRoadsUnmet_14 (by decide) ?_ ?_
  · exact aw_vret dX10_closeRoadsUnmet_94 rfl
  · refine aw_aload_n dX10_closeRoadsUnmet_17 rfl ?_
    refine aw_gA dX10_closeRoadsUnmet_18 fl_X10_85 (fun x18 => ?_)
    refine aw_iload_n dX10_closeRoadsUnmet_21 rfl ?_
    refine aw_iconst (-1 : Int32) dX10_closeRoadsUnmet_22 rfl ?_
    refine aw_iast dX10_closeRoadsUnmet_23 (fun _ => ?_)
    refine aw_aload_n dX10_closeRoadsUnmet_24 rfl ?_
    refine aw_iload_n dX10_closeRoadsUnmet_25 rfl ?_
    refine aw_cV1 puA dX10_closeRoadsUnmet_26 (fun o => ctX10_bridgeAt o _) mcX10_bridgeAt ml_X10_104 rfl rfl msX10_bridgeAt rfl (by decide) (Nat.le_of_ble_eq_true rfl) (fun x26 => ?_)
    refine aw_astore dX10_closeRoadsUnmet_29 (by decide) ?_
    refine aw_aload dX10_closeRoadsUnmet_31 rfl ?_
    refine aw_ifnull 70 dX10_closeRoadsUnmet_33 (by decide) ?_ ?_
    · refine aw_msk [true, true, true, true, false] ?_
      exact abX10_closeRoadsUnmet_70  h9 t v1 v2 v3
    · refine aw_aload_n dX10_closeRoadsUnmet_36 rfl ?_
      refine aw_gA dX10_closeRoadsUnmet_37 fl_X10_69 (fun x37 => ?_)
      refine aw_aload dX10_closeRoadsUnmet_40 rfl ?_
      refine aw_aload_n dX10_closeRoadsUnmet_42 rfl ?_
      refine aw_aload_n dX10_closeRoadsUnmet_43 rfl ?_
      refine aw_gI dX10_closeRoadsUnmet_44 fl_X10_28 (fun x44 => ?_)
      refine aw_cV1 puA dX10_closeRoadsUnmet_47 (fun o => ctX10_trainAt o _) mcX10_trainAt ml_X10_163 rfl rfl msX10_trainAt rfl (by decide) (Nat.le_of_ble_eq_true rfl) (fun x47 => ?_)
      refine aw_iload_n dX10_closeRoadsUnmet_50 rfl ?_
      refine aw_cV3 puV dX10_closeRoadsUnmet_51 (fun o => ctX3_prepare o _ _ _) mcX3_prepare ml_X10_218 rfl rfl msX3_prepare rfl (by decide) (Nat.le_of_ble_eq_true rfl) (fun _ => ?_)
      refine aw_aload_n dX10_closeRoadsUnmet_54 rfl ?_
      refine aw_gA dX10_closeRoadsUnmet_55 fl_X10_85 (fun x55 => ?_)
      refine aw_iload_n dX10_closeRoadsUnmet_58 rfl ?_
      refine aw_aload_n dX10_closeRoadsUnmet_59 rfl ?_
      refine aw_gA dX10_closeRoadsUnmet_60 fl_X10_69 (fun x60 => ?_)
      refine aw_aload dX10_closeRoadsUnmet_63 rfl ?_
      refine aw_aload_n dX10_closeRoadsUnmet_65 rfl ?_
      refine aw_cV2 puI dX10_closeRoadsUnmet_66 (fun o => ctX3_firstUnmet o _ _) mcX3_firstUnmet ml_X10_230 rfl rfl msX3_firstUnmet rfl (by decide) (Nat.le_of_ble_eq_true rfl) (fun x66 => ?_)
      refine aw_iast dX10_closeRoadsUnmet_69 (fun _ => ?_)
      refine aw_msk [true, true, true, true, false] ?_
      exact abX10_closeRoadsUnmet_70  h9 t v1 v2 v3
theorem afX10_closeRoadsUnmet_9 {C : Cx} {res : Unit × Hp}   : ∀ (n : Nat) (t : Nat) (v1 : Option Nat) (v2 : Int32) (v3 : Int32), AW C cX10_closeRoadsUnmet mX10_closeRoadsUnmet qV res 9 [vr (some t), vr v1, vi v2, vi v3, vu] [] (fX10_closeRoadsUnmet_9   n t v1 v2 v3)
  | 0, _, _, _, _ => aw_fl
  | n + 1, t, v1, v2, v3 => abX10_closeRoadsUnmet_9  (fun t v1 v2 v3 => afX10_closeRoadsUnmet_9   n t v1 v2 v3) t v1 v2 v3
set_option maxRecDepth 20000 in
theorem ctX10_closeRoadsUnmet (t : Nat) (v1 : Option Nat) (v2 : Int32) : Ct yX10_closeRoadsUnmet cX10_closeRoadsUnmet mX10_closeRoadsUnmet qV [vr (some t), vr v1, vi v2] (pX10_closeRoadsUnmet t v1 v2) := by
  refine ct_go rfl rfl (fun h9 => by cases h9) (Nat.le_of_ble_eq_true rfl) (fun C res => ?_)
  refine aw_aload_n dX10_closeRoadsUnmet_0 rfl ?_
  refine aw_gA dX10_closeRoadsUnmet_1 fl_X10_34 (fun x1 => ?_)
  refine aw_cV0 puV dX10_closeRoadsUnmet_4 (fun o => ctX5_openAll o ) mcX5_openAll ml_X10_272 rfl rfl msX5_openAll rfl (by decide) (Nat.le_of_ble_eq_true rfl) (fun _ => ?_)
  refine aw_iconst (0 : Int32) dX10_closeRoadsUnmet_7 rfl ?_
  refine aw_istore_n dX10_closeRoadsUnmet_8 (by decide) ?_
  refine aw_msk [true, true, true, true, false] ?_
  exact afX10_closeRoadsUnmet_9   FU t v1 v2 ((0 : Int32))
set_option maxRecDepth 20000 in
theorem abX10_commonDivisor_9 {C : Cx} {res : Int64 × Hp}  {k9 : Int64 → Int64 → Int32 → Mo Int64} (h9 : ∀ (v4 : Int64) (v6 : Int64) (v8 : Int32), AW C cX10_commonDivisor mX10_commonDivisor qL res 9 [vu, vu, vu, vu, vl v4, vu, vl v6, vu, vi v8, vu, vu] [] (k9 v4 v6 v8)) : ∀ (v4 : Int64) (v6 : Int64) (v8 : Int32), AW C cX10_commonDivisor mX10_commonDivisor qL res 9 [vu, vu, vu, vu, vl v4, vu, vl v6, vu, vi v8, vu, vu] [] (bX10_commonDivisor_9  k9 v4 v6 v8) := by
  intro v4 v6 v8
  refine aw_iload dX10_commonDivisor_9 rfl ?_
  refine aw_sipush (200 : Int32) dX10_commonDivisor_11 rfl ?_
  refine aw_icmp_ge 45 dX10_commonDivisor_14 (by decide) ?_ ?_
  · refine aw_lload dX10_commonDivisor_45 rfl ?_
    exact aw_lret dX10_commonDivisor_47 rfl
  · refine aw_lload dX10_commonDivisor_17 rfl ?_
    refine aw_lconst (0 : Int64) dX10_commonDivisor_19 rfl ?_
    refine aw_leq 45 dX10_commonDivisor_20 dX10_commonDivisor_21 (by decide) ?_ ?_
    · refine aw_lload dX10_commonDivisor_45 rfl ?_
      exact aw_lret dX10_commonDivisor_47 rfl
    · refine aw_lload dX10_commonDivisor_24 rfl ?_
      refine aw_lload dX10_commonDivisor_26 rfl ?_
      refine aw_lrem dX10_commonDivisor_28 (fun x28 => ?_)
      refine aw_lstore dX10_commonDivisor_29 (by decide) ?_
      refine aw_lload dX10_commonDivisor_31 rfl ?_
      refine aw_lstore dX10_commonDivisor_33 (by decide) ?_
      refine aw_lload dX10_commonDivisor_35 rfl ?_
      refine aw_lstore dX10_commonDivisor_37 (by decide) ?_
      refine aw_iinc (v8 + (1 : Int32)) dX10_commonDivisor_39 rfl rfl (by decide) ?_
      refine aw_goto 9 dX10_commonDivisor_42 (by decide) ?_
      refine aw_msk [false, false, false, false, true, false, true, false, true, false, false] ?_
      exact h9 v6 x28 ((v8 + (1 : Int32)))
theorem afX10_commonDivisor_9 {C : Cx} {res : Int64 × Hp}   : ∀ (n : Nat) (v4 : Int64) (v6 : Int64) (v8 : Int32), AW C cX10_commonDivisor mX10_commonDivisor qL res 9 [vu, vu, vu, vu, vl v4, vu, vl v6, vu, vi v8, vu, vu] [] (fX10_commonDivisor_9   n v4 v6 v8)
  | 0, _, _, _ => aw_fl
  | n + 1, v4, v6, v8 => abX10_commonDivisor_9  (fun v4 v6 v8 => afX10_commonDivisor_9   n v4 v6 v8) v4 v6 v8
set_option maxRecDepth 20000 in
theorem ctX10_commonDivisor (v0 : Int64) (v2 : Int64) : Ct yX10_commonDivisor cX10_commonDivisor mX10_commonDivisor qL [vl v0, vl v2] (pX10_commonDivisor v0 v2) := by
  refine ct_go rfl rfl (fun h9 => by cases h9) (Nat.le_of_ble_eq_true rfl) (fun C res => ?_)
  refine aw_lload_n dX10_commonDivisor_0 rfl ?_
  refine aw_lstore dX10_commonDivisor_1 (by decide) ?_
  refine aw_lload_n dX10_commonDivisor_3 rfl ?_
  refine aw_lstore dX10_commonDivisor_4 (by decide) ?_
  refine aw_iconst (0 : Int32) dX10_commonDivisor_6 rfl ?_
  refine aw_istore dX10_commonDivisor_7 (by decide) ?_
  refine aw_msk [false, false, false, false, true, false, true, false, true, false, false] ?_
  exact afX10_commonDivisor_9   FU v0 v2 ((0 : Int32))
set_option maxRecDepth 20000 in
theorem ctX10_count (t : Nat) (v1 : Int32) : Ct yX10_count cX10_count mX10_count qI [vr (some t), vi v1] (pX10_count t v1) := by
  refine ct_go rfl rfl (fun h9 => by cases h9) (Nat.le_of_ble_eq_true rfl) (fun C res => ?_)
  refine aw_iload_n dX10_count_0 rfl ?_
  refine aw_sws 73 [40, 45, 50, 58, 63, 68] dX10_count_1 rfl (Nat.le_of_ble_eq_true rfl) (by decide) (by decide) rfl ?_ ⟨?_, ?_, ?_, ?_, ?_, ?_, trivial⟩
  · refine aw_sipush (-1002 : Int32) dX10_count_73 rfl ?_
    exact aw_iret dX10_count_76 rfl
  · refine aw_aload_n dX10_count_40 rfl ?_
    refine aw_gI dX10_count_41 fl_X10_15 (fun x41 => ?_)
    exact aw_iret dX10_count_44 rfl
  · refine aw_aload_n dX10_count_45 rfl ?_
    refine aw_gI dX10_count_46 fl_X10_25 (fun x46 => ?_)
    exact aw_iret dX10_count_49 rfl
  · refine aw_aload_n dX10_count_50 rfl ?_
    refine aw_gA dX10_count_51 fl_X10_34 (fun x51 => ?_)
    refine aw_gI dX10_count_54 fl_X10_253 (fun x54 => ?_)
    exact aw_iret dX10_count_57 rfl
  · refine aw_aload_n dX10_count_58 rfl ?_
    refine aw_cV0 puI dX10_count_59 (fun o => ctX10_allChecks o ) mcX10_allChecks ml_X10_298 rfl rfl msX10_allChecks rfl (by decide) (Nat.le_of_ble_eq_true rfl) (fun x59 => ?_)
    exact aw_iret dX10_count_62 rfl
  · refine aw_aload_n dX10_count_63 rfl ?_
    refine aw_gI dX10_count_64 fl_X10_28 (fun x64 => ?_)
    exact aw_iret dX10_count_67 rfl
  · refine aw_aload_n dX10_count_68 rfl ?_
    refine aw_cV0 puI dX10_count_69 (fun o => ctX10_allTraffic o ) mcX10_allTraffic ml_X10_301 rfl rfl msX10_allTraffic rfl (by decide) (Nat.le_of_ble_eq_true rfl) (fun x69 => ?_)
    exact aw_iret dX10_count_72 rfl
set_option maxRecDepth 20000 in
theorem abX10_partOf_29 {C : Cx} {res : Int64 × Hp}   : ∀ (v5 : Int64) (s0 : Int64), AW C cX10_partOf mX10_partOf qL res 29 [vu, vu, vu, vu, vu, vl v5, vu] [vl s0] (bX10_partOf_29   v5 s0) := by
  intro v5 s0
  refine aw_lload dX10_partOf_29 rfl ?_
  refine aw_ldiv dX10_partOf_31 (fun x31 => ?_)
  exact aw_lret dX10_partOf_32 rfl
set_option maxRecDepth 20000 in
theorem ctX10_partOf (v0 : Int64) (v2 : Int64) (v4 : Int32) : Ct yX10_partOf cX10_partOf mX10_partOf qL [vl v0, vl v2, vi v4] (pX10_partOf v0 v2 v4) := by
  refine ct_go rfl rfl (fun h9 => by cases h9) (Nat.le_of_ble_eq_true rfl) (fun C res => ?_)
  refine aw_lload_n dX10_partOf_0 rfl ?_
  refine aw_mabsL dX10_partOf_1 mk_X10_316 (by decide) (by decide) (Nat.le_of_ble_eq_true rfl) ?_
  refine aw_lload_n dX10_partOf_4 rfl ?_
  refine aw_cS2 puL dX10_partOf_5 (ctX10_commonDivisor _ _) mcX10_commonDivisor ml_X10_322 msX10_commonDivisor rfl (by decide) (Nat.le_of_ble_eq_true rfl) (fun x5 => ?_)
  refine aw_lstore dX10_partOf_8 (by decide) ?_
  refine aw_lload dX10_partOf_10 rfl ?_
  refine aw_lconst (0 : Int64) dX10_partOf_12 rfl ?_
  refine aw_lne 19 dX10_partOf_13 dX10_partOf_14 (by decide) ?_ ?_
  · refine aw_iload dX10_partOf_19 rfl ?_
    refine aw_if_ne 28 dX10_partOf_21 (by decide) ?_ ?_
    · refine aw_lload_n dX10_partOf_28 rfl ?_
      refine aw_msk [false, false, false, false, false, true, false] ?_
      exact abX10_partOf_29   x5 v2
    · refine aw_lload_n dX10_partOf_24 rfl ?_
      refine aw_goto 29 dX10_partOf_25 (by decide) ?_
      refine aw_msk [false, false, false, false, false, true, false] ?_
      exact abX10_partOf_29   x5 v0
  · refine aw_lconst (0 : Int64) dX10_partOf_17 rfl ?_
    exact aw_lret dX10_partOf_18 rfl
set_option maxRecDepth 20000 in
theorem abX4_effectOf_51 {C : Cx} {res : Int64 × Hp}  {k15 : Nat → Option Nat → Int32 → Int32 → Int32 → Int32 → Int64 → Int32 → Mo Int64} (h15 : ∀ (t : Nat) (v1 : Option Nat) (v2 : Int32) (v3 : Int32) (v4 : Int32) (v5 : Int32) (v6 : Int64) (v8 : Int32), AW C cX4_effectOf mX4_effectOf qL res 15 [vr (some t), vr v1, vi v2, vi v3, vi v4, vi v5, vl v6, vu, vi v8, vu] [] (k15 t v1 v2 v3 v4 v5 v6 v8)) : ∀ (t : Nat) (v1 : Option Nat) (v2 : Int32) (v3 : Int32) (v4 : Int32) (v5 : Int32) (v6 : Int64) (v8 : Int32) (s0 : Int32) (s1 : Int32), AW C cX4_effectOf mX4_effectOf qL res 51 [vr (some t), vr v1, vi v2, vi v3, vi v4, vi v5, vl v6, vu, vi v8, vu] [vi s1, vi s0] (bX4_effectOf_51  k15 t v1 v2 v3 v4 v5 v6 v8 s0 s1) := by
  intro t v1 v2 v3 v4 v5 v6 v8 s0 s1
  refine aw_isub dX4_effectOf_51 ?_
  refine aw_istore dX4_effectOf_52 (by decide) ?_
  refine aw_iload dX4_effectOf_54 rfl ?_
  refine aw_iconst (0 : Int32) dX4_effectOf_56 rfl ?_
  refine aw_aload_n dX4_effectOf_57 rfl ?_
  refine aw_gI dX4_effectOf_58 fl_X4_19 (fun x58 => ?_)
  refine aw_cS3 puI dX4_effectOf_61 (ctX10_within _ _ _) mcX10_within ml_X4_52 msX10_within rfl (by decide) (Nat.le_of_ble_eq_true rfl) (fun x61 => ?_)
  refine aw_if_eq 88 dX4_effectOf_64 (by decide) ?_ ?_
  · refine aw_iinc (v8 + (1 : Int32)) dX4_effectOf_88 rfl rfl (by decide) ?_
    refine aw_goto 15 dX4_effectOf_91 (by decide) ?_
    refine aw_msk [true, true, true, true, true, true, true, false, true, false] ?_
    exact h15 t v1 v2 v3 v4 v5 v6 ((v8 + (1 : Int32)))
  · refine aw_lload dX4_effectOf_67 rfl ?_
    refine aw_aload_n dX4_effectOf_69 rfl ?_
    refine aw_gA dX4_effectOf_70 fl_X4_56 (fun x70 => ?_)
    refine aw_iload dX4_effectOf_73 rfl ?_
    refine aw_iald dX4_effectOf_75 (fun x75 => ?_)
    refine aw_i2l dX4_effectOf_76 ?_
    refine aw_aload_n dX4_effectOf_77 rfl ?_
    refine aw_gA dX4_effectOf_78 fl_X4_9 (fun x78 => ?_)
    refine aw_iload dX4_effectOf_81 rfl ?_
    refine aw_lald dX4_effectOf_83 (fun x83 => ?_)
    refine aw_lmul dX4_effectOf_84 ?_
    refine aw_ladd dX4_effectOf_85 ?_
    refine aw_lstore dX4_effectOf_86 (by decide) ?_
    refine aw_iinc (v8 + (1 : Int32)) dX4_effectOf_88 rfl rfl (by decide) ?_
    refine aw_goto 15 dX4_effectOf_91 (by decide) ?_
    refine aw_msk [true, true, true, true, true, true, true, false, true, false] ?_
    exact h15 t v1 v2 v3 v4 v5 ((v6 + ((Int32.toInt64 x75) * x83))) ((v8 + (1 : Int32)))
set_option maxRecDepth 20000 in
theorem abX4_effectOf_15 {C : Cx} {res : Int64 × Hp}  {k15 : Nat → Option Nat → Int32 → Int32 → Int32 → Int32 → Int64 → Int32 → Mo Int64} (h15 : ∀ (t : Nat) (v1 : Option Nat) (v2 : Int32) (v3 : Int32) (v4 : Int32) (v5 : Int32) (v6 : Int64) (v8 : Int32), AW C cX4_effectOf mX4_effectOf qL res 15 [vr (some t), vr v1, vi v2, vi v3, vi v4, vi v5, vl v6, vu, vi v8, vu] [] (k15 t v1 v2 v3 v4 v5 v6 v8)) : ∀ (t : Nat) (v1 : Option Nat) (v2 : Int32) (v3 : Int32) (v4 : Int32) (v5 : Int32) (v6 : Int64) (v8 : Int32), AW C cX4_effectOf mX4_effectOf qL res 15 [vr (some t), vr v1, vi v2, vi v3, vi v4, vi v5, vl v6, vu, vi v8, vu] [] (bX4_effectOf_15  k15 t v1 v2 v3 v4 v5 v6 v8) := by
  intro t v1 v2 v3 v4 v5 v6 v8
  refine aw_iload dX4_effectOf_15 rfl ?_
  refine aw_aload_n dX4_effectOf_17 rfl ?_
  refine aw_gI dX4_effectOf_18 fl_X4_45 (fun x18 => ?_)
  refine aw_icmp_ge 94 dX4_effectOf_21 (by decide) ?_ ?_
  · refine aw_lload dX4_effectOf_94 rfl ?_
    exact aw_lret dX4_effectOf_96 rfl
  · refine aw_iload dX4_effectOf_24 rfl ?_
    refine aw_aload_n dX4_effectOf_26 rfl ?_
    refine aw_gA dX4_effectOf_27 fl_X4_48 (fun x27 => ?_)
    refine aw_iload dX4_effectOf_30 rfl ?_
    refine aw_iald dX4_effectOf_32 (fun x32 => ?_)
    refine aw_iadd dX4_effectOf_33 ?_
    refine aw_istore dX4_effectOf_34 (by decide) ?_
    refine aw_iload_n dX4_effectOf_36 rfl ?_
    refine aw_iload_n dX4_effectOf_37 rfl ?_
    refine aw_if_ne 46 dX4_effectOf_38 (by decide) ?_ ?_
    · refine aw_iload dX4_effectOf_46 rfl ?_
      refine aw_iload dX4_effectOf_48 rfl ?_
      refine aw_isub dX4_effectOf_50 ?_
      refine aw_msk [true, true, true, true, true, true, true, false, true, false] ?_
      exact abX4_effectOf_51  h15 t v1 v2 v3 v4 ((v5 + x32)) v6 v8 v3 ((v4 - (v5 + x32)))
    · refine aw_iload dX4_effectOf_41 rfl ?_
      refine aw_goto 51 dX4_effectOf_43 (by decide) ?_
      refine aw_msk [true, true, true, true, true, true, true, false, true, false] ?_
      exact abX4_effectOf_51  h15 t v1 v2 v3 v4 ((v5 + x32)) v6 v8 v3 ((v5 + x32))
theorem afX4_effectOf_15 {C : Cx} {res : Int64 × Hp}   : ∀ (n : Nat) (t : Nat) (v1 : Option Nat) (v2 : Int32) (v3 : Int32) (v4 : Int32) (v5 : Int32) (v6 : Int64) (v8 : Int32), AW C cX4_effectOf mX4_effectOf qL res 15 [vr (some t), vr v1, vi v2, vi v3, vi v4, vi v5, vl v6, vu, vi v8, vu] [] (fX4_effectOf_15   n t v1 v2 v3 v4 v5 v6 v8)
  | 0, _, _, _, _, _, _, _, _ => aw_fl
  | n + 1, t, v1, v2, v3, v4, v5, v6, v8 => abX4_effectOf_15  (fun t v1 v2 v3 v4 v5 v6 v8 => afX4_effectOf_15   n t v1 v2 v3 v4 v5 v6 v8) t v1 v2 v3 v4 v5 v6 v8
set_option maxRecDepth 20000 in
theorem ctX4_effectOf (t : Nat) (v1 : Option Nat) (v2 : Int32) (v3 : Int32) : Ct yX4_effectOf cX4_effectOf mX4_effectOf qL [vr (some t), vr v1, vi v2, vi v3] (pX4_effectOf t v1 v2 v3) := by
  refine ct_go rfl rfl (fun h9 => by cases h9) (Nat.le_of_ble_eq_true rfl) (fun C res => ?_)
  refine aw_aload_n dX4_effectOf_0 rfl ?_
  refine aw_cV0 puI dX4_effectOf_1 (fun o => ctX8_allGaps o ) mcX8_allGaps ml_X4_39 rfl rfl msX8_allGaps rfl (by decide) (Nat.le_of_ble_eq_true rfl) (fun x1 => ?_)
  refine aw_istore dX4_effectOf_4 (by decide) ?_
  refine aw_iconst (0 : Int32) dX4_effectOf_6 rfl ?_
  refine aw_istore dX4_effectOf_7 (by decide) ?_
  refine aw_lconst (0 : Int64) dX4_effectOf_9 rfl ?_
  refine aw_lstore dX4_effectOf_10 (by decide) ?_
  refine aw_iconst (0 : Int32) dX4_effectOf_12 rfl ?_
  refine aw_istore dX4_effectOf_13 (by decide) ?_
  refine aw_msk [true, true, true, true, true, true, true, false, true, false] ?_
  exact afX4_effectOf_15   FU t v1 v2 v3 x1 ((0 : Int32)) ((0 : Int64)) ((0 : Int32))
set_option maxRecDepth 20000 in
theorem ctX10_effect (t : Nat) (v1 : Int32) (v2 : Int32) (v3 : Int32) (v4 : Int32) (v5 : Int32) (v6 : Int32) (v7 : Int32) : Ct yX10_effect cX10_effect mX10_effect qL [vr (some t), vi v1, vi v2, vi v3, vi v4, vi v5, vi v6, vi v7] (pX10_effect t v1 v2 v3 v4 v5 v6 v7) := by
  refine ct_go rfl rfl (fun h9 => by cases h9) (Nat.le_of_ble_eq_true rfl) (fun C res => ?_)
  refine aw_aload_n dX10_effect_0 rfl ?_
  refine aw_iload_n dX10_effect_1 rfl ?_
  refine aw_cV1 puA dX10_effect_2 (fun o => ctX10_bridgeAt o _) mcX10_bridgeAt ml_X10_104 rfl rfl msX10_bridgeAt rfl (by decide) (Nat.le_of_ble_eq_true rfl) (fun x2 => ?_)
  refine aw_astore dX10_effect_5 (by decide) ?_
  refine aw_aload_n dX10_effect_7 rfl ?_
  refine aw_iload dX10_effect_8 rfl ?_
  refine aw_cV1 puA dX10_effect_10 (fun o => ctX10_trainAt o _) mcX10_trainAt ml_X10_163 rfl rfl msX10_trainAt rfl (by decide) (Nat.le_of_ble_eq_true rfl) (fun x10 => ?_)
  refine aw_astore dX10_effect_13 (by decide) ?_
  refine aw_aload dX10_effect_15 rfl ?_
  refine aw_ifnull 35 dX10_effect_17 (by decide) ?_ ?_
  · refine aw_ldc2 dX10_effect_35 cj_X10_127 ?_
    exact aw_lret dX10_effect_38 rfl
  · refine aw_aload dX10_effect_20 rfl ?_
    refine aw_iload_n dX10_effect_22 rfl ?_
    refine aw_iload_n dX10_effect_23 rfl ?_
    refine aw_cV2 puI dX10_effect_24 (fun o => ctX0_lacksSupport o _ _) mcX0_lacksSupport ml_X10_123 rfl rfl msX0_lacksSupport rfl (by decide) (Nat.le_of_ble_eq_true rfl) (fun x24 => ?_)
    refine aw_if_ne 35 dX10_effect_27 (by decide) ?_ ?_
    · refine aw_ldc2 dX10_effect_35 cj_X10_127 ?_
      exact aw_lret dX10_effect_38 rfl
    · refine aw_aload dX10_effect_30 rfl ?_
      refine aw_ifnonnull 39 dX10_effect_32 (by decide) ?_ ?_
      · refine aw_aload dX10_effect_39 rfl ?_
        refine aw_iload_n dX10_effect_41 rfl ?_
        refine aw_iload_n dX10_effect_42 rfl ?_
        refine aw_cV2 puI dX10_effect_43 (fun o => ctX0_hasResponse o _ _) mcX0_hasResponse ml_X10_129 rfl rfl msX0_hasResponse rfl (by decide) (Nat.le_of_ble_eq_true rfl) (fun x43 => ?_)
        refine aw_if_eq 89 dX10_effect_46 (by decide) ?_ ?_
        · refine aw_ldc2 dX10_effect_89 cj_X10_136 ?_
          exact aw_lret dX10_effect_92 rfl
        · refine aw_iload dX10_effect_49 rfl ?_
          refine aw_iconst (0 : Int32) dX10_effect_51 rfl ?_
          refine aw_iconst (1 : Int32) dX10_effect_52 rfl ?_
          refine aw_cS3 puI dX10_effect_53 (ctX10_within _ _ _) mcX10_within ml_X10_132 msX10_within rfl (by decide) (Nat.le_of_ble_eq_true rfl) (fun x53 => ?_)
          refine aw_if_eq 89 dX10_effect_56 (by decide) ?_ ?_
          · refine aw_ldc2 dX10_effect_89 cj_X10_136 ?_
            exact aw_lret dX10_effect_92 rfl
          · refine aw_iload dX10_effect_59 rfl ?_
            refine aw_iconst (0 : Int32) dX10_effect_61 rfl ?_
            refine aw_aload dX10_effect_62 rfl ?_
            refine aw_gI dX10_effect_64 fl_X10_108 (fun x64 => ?_)
            refine aw_aload dX10_effect_67 rfl ?_
            refine aw_cV0 puI dX10_effect_69 (fun o => ctX8_allGaps o ) mcX8_allGaps ml_X10_170 rfl rfl msX8_allGaps rfl (by decide) (Nat.le_of_ble_eq_true rfl) (fun x69 => ?_)
            refine aw_iadd dX10_effect_72 ?_
            refine aw_cS3 puI dX10_effect_73 (ctX10_within _ _ _) mcX10_within ml_X10_132 msX10_within rfl (by decide) (Nat.le_of_ble_eq_true rfl) (fun x73 => ?_)
            refine aw_if_eq 89 dX10_effect_76 (by decide) ?_ ?_
            · refine aw_ldc2 dX10_effect_89 cj_X10_136 ?_
              exact aw_lret dX10_effect_92 rfl
            · refine aw_iload dX10_effect_79 rfl ?_
              refine aw_iconst (0 : Int32) dX10_effect_81 rfl ?_
              refine aw_iconst (1 : Int32) dX10_effect_82 rfl ?_
              refine aw_cS3 puI dX10_effect_83 (ctX10_within _ _ _) mcX10_within ml_X10_132 msX10_within rfl (by decide) (Nat.le_of_ble_eq_true rfl) (fun x83 => ?_)
              refine aw_if_ne 93 dX10_effect_86 (by decide) ?_ ?_
              · refine aw_aload_n dX10_effect_93 rfl ?_
                refine aw_gA dX10_effect_94 fl_X10_48 (fun x94 => ?_)
                refine aw_aload dX10_effect_97 rfl ?_
                refine aw_iload_n dX10_effect_99 rfl ?_
                refine aw_iload_n dX10_effect_100 rfl ?_
                refine aw_cV3 puV dX10_effect_101 (fun o => ctX4_draw o _ _ _) mcX4_draw ml_X10_138 rfl rfl msX4_draw rfl (by decide) (Nat.le_of_ble_eq_true rfl) (fun _ => ?_)
                refine aw_aload_n dX10_effect_104 rfl ?_
                refine aw_gA dX10_effect_105 fl_X10_48 (fun x105 => ?_)
                refine aw_aload dX10_effect_108 rfl ?_
                refine aw_iload dX10_effect_110 rfl ?_
                refine aw_iload dX10_effect_112 rfl ?_
                refine aw_cV3 puL dX10_effect_114 (fun o => ctX4_effectOf o _ _ _) mcX4_effectOf ml_X10_180 rfl rfl msX4_effectOf rfl (by decide) (Nat.le_of_ble_eq_true rfl) (fun x114 => ?_)
                refine aw_aload_n dX10_effect_117 rfl ?_
                refine aw_gA dX10_effect_118 fl_X10_48 (fun x118 => ?_)
                refine aw_gL dX10_effect_121 fl_X10_146 (fun x121 => ?_)
                refine aw_iload dX10_effect_124 rfl ?_
                refine aw_cS3 puL dX10_effect_126 (ctX10_partOf _ _ _) mcX10_partOf ml_X10_150 msX10_partOf rfl (by decide) (Nat.le_of_ble_eq_true rfl) (fun x126 => ?_)
                exact aw_lret dX10_effect_129 rfl
              · refine aw_ldc2 dX10_effect_89 cj_X10_136 ?_
                exact aw_lret dX10_effect_92 rfl
      · refine aw_ldc2 dX10_effect_35 cj_X10_127 ?_
        exact aw_lret dX10_effect_38 rfl
set_option maxRecDepth 20000 in
theorem ctX10_fails (t : Nat) (v1 : Int32) (v2 : Int32) (v3 : Int32) : Ct yX10_fails cX10_fails mX10_fails qI [vr (some t), vi v1, vi v2, vi v3] (pX10_fails t v1 v2 v3) := by
  refine ct_go rfl rfl (fun h9 => by cases h9) (Nat.le_of_ble_eq_true rfl) (fun C res => ?_)
  refine aw_aload_n dX10_fails_0 rfl ?_
  refine aw_iload_n dX10_fails_1 rfl ?_
  refine aw_cV1 puA dX10_fails_2 (fun o => ctX10_bridgeAt o _) mcX10_bridgeAt ml_X10_104 rfl rfl msX10_bridgeAt rfl (by decide) (Nat.le_of_ble_eq_true rfl) (fun x2 => ?_)
  refine aw_astore dX10_fails_5 (by decide) ?_
  refine aw_aload_n dX10_fails_7 rfl ?_
  refine aw_iload_n dX10_fails_8 rfl ?_
  refine aw_cV1 puA dX10_fails_9 (fun o => ctX10_trainAt o _) mcX10_trainAt ml_X10_163 rfl rfl msX10_trainAt rfl (by decide) (Nat.le_of_ble_eq_true rfl) (fun x9 => ?_)
  refine aw_astore dX10_fails_12 (by decide) ?_
  refine aw_aload dX10_fails_14 rfl ?_
  refine aw_ifnull 24 dX10_fails_16 (by decide) ?_ ?_
  · refine aw_sipush (-1001 : Int32) dX10_fails_24 rfl ?_
    exact aw_iret dX10_fails_27 rfl
  · refine aw_aload dX10_fails_19 rfl ?_
    refine aw_ifnonnull 28 dX10_fails_21 (by decide) ?_ ?_
    · refine aw_iload_n dX10_fails_28 rfl ?_
      refine aw_iconst (0 : Int32) dX10_fails_29 rfl ?_
      refine aw_iconst (2 : Int32) dX10_fails_30 rfl ?_
      refine aw_cS3 puI dX10_fails_31 (ctX10_within _ _ _) mcX10_within ml_X10_132 msX10_within rfl (by decide) (Nat.le_of_ble_eq_true rfl) (fun x31 => ?_)
      refine aw_if_ne 41 dX10_fails_34 (by decide) ?_ ?_
      · refine aw_aload_n dX10_fails_41 rfl ?_
        refine aw_gA dX10_fails_42 fl_X10_69 (fun x42 => ?_)
        refine aw_aload dX10_fails_45 rfl ?_
        refine aw_aload_n dX10_fails_47 rfl ?_
        refine aw_aload_n dX10_fails_48 rfl ?_
        refine aw_gI dX10_fails_49 fl_X10_28 (fun x49 => ?_)
        refine aw_cV1 puA dX10_fails_52 (fun o => ctX10_trainAt o _) mcX10_trainAt ml_X10_163 rfl rfl msX10_trainAt rfl (by decide) (Nat.le_of_ble_eq_true rfl) (fun x52 => ?_)
        refine aw_iload_n dX10_fails_55 rfl ?_
        refine aw_cV3 puV dX10_fails_56 (fun o => ctX3_prepare o _ _ _) mcX3_prepare ml_X10_218 rfl rfl msX3_prepare rfl (by decide) (Nat.le_of_ble_eq_true rfl) (fun _ => ?_)
        refine aw_aload_n dX10_fails_59 rfl ?_
        refine aw_gA dX10_fails_60 fl_X10_69 (fun x60 => ?_)
        refine aw_aload dX10_fails_63 rfl ?_
        refine aw_aload dX10_fails_65 rfl ?_
        refine aw_cV2 puI dX10_fails_67 (fun o => ctX3_firstUnmet o _ _) mcX3_firstUnmet ml_X10_230 rfl rfl msX3_firstUnmet rfl (by decide) (Nat.le_of_ble_eq_true rfl) (fun x67 => ?_)
        exact aw_iret dX10_fails_70 rfl
      · refine aw_sipush (-1002 : Int32) dX10_fails_37 rfl ?_
        exact aw_iret dX10_fails_40 rfl
    · refine aw_sipush (-1001 : Int32) dX10_fails_24 rfl ?_
      exact aw_iret dX10_fails_27 rfl
set_option maxRecDepth 20000 in
theorem ctX5_bridgeOf (t : Nat) (v1 : Int32) : Ct yX5_bridgeOf cX5_bridgeOf mX5_bridgeOf qI [vr (some t), vi v1] (pX5_bridgeOf t v1) := by
  refine ct_go rfl rfl (fun h9 => by cases h9) (Nat.le_of_ble_eq_true rfl) (fun C res => ?_)
  refine aw_iload_n dX5_bridgeOf_0 rfl ?_
  refine aw_iconst (0 : Int32) dX5_bridgeOf_1 rfl ?_
  refine aw_aload_n dX5_bridgeOf_2 rfl ?_
  refine aw_gI dX5_bridgeOf_3 fl_X5_28 (fun x3 => ?_)
  refine aw_iconst (1 : Int32) dX5_bridgeOf_6 rfl ?_
  refine aw_isub dX5_bridgeOf_7 ?_
  refine aw_cS3 puI dX5_bridgeOf_8 (ctX10_within _ _ _) mcX10_within ml_X5_44 msX10_within rfl (by decide) (Nat.le_of_ble_eq_true rfl) (fun x8 => ?_)
  refine aw_if_eq 23 dX5_bridgeOf_11 (by decide) ?_ ?_
  · refine aw_iconst (-1 : Int32) dX5_bridgeOf_23 rfl ?_
    exact aw_iret dX5_bridgeOf_24 rfl
  · refine aw_aload_n dX5_bridgeOf_14 rfl ?_
    refine aw_gA dX5_bridgeOf_15 fl_X5_21 (fun x15 => ?_)
    refine aw_iload_n dX5_bridgeOf_18 rfl ?_
    refine aw_iald dX5_bridgeOf_19 (fun x19 => ?_)
    refine aw_goto 24 dX5_bridgeOf_20 (by decide) ?_
    exact aw_iret dX5_bridgeOf_24 rfl
set_option maxRecDepth 20000 in
theorem ctX5_wayRoad (t : Nat) (v1 : Int32) : Ct yX5_wayRoad cX5_wayRoad mX5_wayRoad qI [vr (some t), vi v1] (pX5_wayRoad t v1) := by
  refine ct_go rfl rfl (fun h9 => by cases h9) (Nat.le_of_ble_eq_true rfl) (fun C res => ?_)
  refine aw_iload_n dX5_wayRoad_0 rfl ?_
  refine aw_iconst (0 : Int32) dX5_wayRoad_1 rfl ?_
  refine aw_aload_n dX5_wayRoad_2 rfl ?_
  refine aw_gI dX5_wayRoad_3 fl_X5_38 (fun x3 => ?_)
  refine aw_iconst (1 : Int32) dX5_wayRoad_6 rfl ?_
  refine aw_isub dX5_wayRoad_7 ?_
  refine aw_cS3 puI dX5_wayRoad_8 (ctX10_within _ _ _) mcX10_within ml_X5_44 msX10_within rfl (by decide) (Nat.le_of_ble_eq_true rfl) (fun x8 => ?_)
  refine aw_if_eq 23 dX5_wayRoad_11 (by decide) ?_ ?_
  · refine aw_iconst (-1 : Int32) dX5_wayRoad_23 rfl ?_
    exact aw_iret dX5_wayRoad_24 rfl
  · refine aw_aload_n dX5_wayRoad_14 rfl ?_
    refine aw_gA dX5_wayRoad_15 fl_X5_35 (fun x15 => ?_)
    refine aw_iload_n dX5_wayRoad_18 rfl ?_
    refine aw_iald dX5_wayRoad_19 (fun x19 => ?_)
    refine aw_goto 24 dX5_wayRoad_20 (by decide) ?_
    exact aw_iret dX5_wayRoad_24 rfl
set_option maxRecDepth 20000 in
theorem abX10_firstUnmetOnWay_2 {C : Cx} {res : Int32 × Hp}  {k2 : Nat → Int32 → Mo Int32} (h2 : ∀ (t : Nat) (v1 : Int32), AW C cX10_firstUnmetOnWay mX10_firstUnmetOnWay qI res 2 [vr (some t), vi v1, vu] [] (k2 t v1)) : ∀ (t : Nat) (v1 : Int32), AW C cX10_firstUnmetOnWay mX10_firstUnmetOnWay qI res 2 [vr (some t), vi v1, vu] [] (bX10_firstUnmetOnWay_2  k2 t v1) := by
  intro t v1
  refine aw_iload_n dX10_firstUnmetOnWay_2 rfl ?_
  refine aw_aload_n dX10_firstUnmetOnWay_3 rfl ?_
  refine aw_gA dX10_firstUnmetOnWay_4 fl_X10_34 (fun x4 => ?_)
  refine aw_gI dX10_firstUnmetOnWay_7 fl_X10_265 (fun x7 => ?_)
  refine aw_icmp_ge 71 dX10_firstUnmetOnWay_10 (by decide) ?_ ?_
  · refine aw_iconst (-1 : Int32) dX10_firstUnmetOnWay_71 rfl ?_
    exact aw_iret dX10_firstUnmetOnWay_72 rfl
  · refine aw_aload_n dX10_firstUnmetOnWay_13 rfl ?_
    refine aw_gA dX10_firstUnmetOnWay_14 fl_X10_34 (fun x14 => ?_)
    refine aw_aload_n dX10_firstUnmetOnWay_17 rfl ?_
    refine aw_gA dX10_firstUnmetOnWay_18 fl_X10_34 (fun x18 => ?_)
    refine aw_iload_n dX10_firstUnmetOnWay_21 rfl ?_
    refine aw_cV1 puI dX10_firstUnmetOnWay_22 (fun o => ctX5_wayRoad o _) mcX5_wayRoad ml_X10_268 rfl rfl msX5_wayRoad rfl (by decide) (Nat.le_of_ble_eq_true rfl) (fun x22 => ?_)
    refine aw_cV1 puI dX10_firstUnmetOnWay_25 (fun o => ctX5_bridgeOf o _) mcX5_bridgeOf ml_X10_330 rfl rfl msX5_bridgeOf rfl (by decide) (Nat.le_of_ble_eq_true rfl) (fun x25 => ?_)
    refine aw_istore_n dX10_firstUnmetOnWay_28 (by decide) ?_
    refine aw_iload_n dX10_firstUnmetOnWay_29 rfl ?_
    refine aw_iconst (0 : Int32) dX10_firstUnmetOnWay_30 rfl ?_
    refine aw_aload_n dX10_firstUnmetOnWay_31 rfl ?_
    refine aw_gI dX10_firstUnmetOnWay_32 fl_X10_15 (fun x32 => ?_)
    refine aw_iconst (1 : Int32) dX10_firstUnmetOnWay_35 rfl ?_
    refine aw_isub dX10_firstUnmetOnWay_36 ?_
    refine aw_cS3 puI dX10_firstUnmetOnWay_37 (ctX10_within _ _ _) mcX10_within ml_X10_132 msX10_within rfl (by decide) (Nat.le_of_ble_eq_true rfl) (fun x37 => ?_)
    refine aw_if_eq 65 dX10_firstUnmetOnWay_40 (by decide) ?_ ?_
    · refine aw_iinc (v1 + (1 : Int32)) dX10_firstUnmetOnWay_65 rfl rfl (by decide) ?_
      refine aw_goto 2 dX10_firstUnmetOnWay_68 (by decide) ?_
      refine aw_msk [true, true, false] ?_
      exact h2 t ((v1 + (1 : Int32)))
    · refine aw_aload_n dX10_firstUnmetOnWay_43 rfl ?_
      refine aw_gA dX10_firstUnmetOnWay_44 fl_X10_85 (fun x44 => ?_)
      refine aw_iload_n dX10_firstUnmetOnWay_47 rfl ?_
      refine aw_iald dX10_firstUnmetOnWay_48 (fun x48 => ?_)
      refine aw_iconst (-1 : Int32) dX10_firstUnmetOnWay_49 rfl ?_
      refine aw_icmp_eq 65 dX10_firstUnmetOnWay_50 (by decide) ?_ ?_
      · refine aw_iinc (v1 + (1 : Int32)) dX10_firstUnmetOnWay_65 rfl rfl (by decide) ?_
        refine aw_goto 2 dX10_firstUnmetOnWay_68 (by decide) ?_
        refine aw_msk [true, true, false] ?_
        exact h2 t ((v1 + (1 : Int32)))
      · refine aw_bipush (10 : Int32) dX10_firstUnmetOnWay_53 rfl ?_
        refine aw_iload_n dX10_firstUnmetOnWay_55 rfl ?_
        refine aw_imul dX10_firstUnmetOnWay_56 ?_
        refine aw_aload_n dX10_firstUnmetOnWay_57 rfl ?_
        refine aw_gA dX10_firstUnmetOnWay_58 fl_X10_85 (fun x58 => ?_)
        refine aw_iload_n dX10_firstUnmetOnWay_61 rfl ?_
        refine aw_iald dX10_firstUnmetOnWay_62 (fun x62 => ?_)
        refine aw_iadd dX10_firstUnmetOnWay_63 ?_
        exact aw_iret dX10_firstUnmetOnWay_64 rfl
theorem afX10_firstUnmetOnWay_2 {C : Cx} {res : Int32 × Hp}   : ∀ (n : Nat) (t : Nat) (v1 : Int32), AW C cX10_firstUnmetOnWay mX10_firstUnmetOnWay qI res 2 [vr (some t), vi v1, vu] [] (fX10_firstUnmetOnWay_2   n t v1)
  | 0, _, _ => aw_fl
  | n + 1, t, v1 => abX10_firstUnmetOnWay_2  (fun t v1 => afX10_firstUnmetOnWay_2   n t v1) t v1
set_option maxRecDepth 20000 in
theorem ctX10_firstUnmetOnWay (t : Nat) : Ct yX10_firstUnmetOnWay cX10_firstUnmetOnWay mX10_firstUnmetOnWay qI [vr (some t)] (pX10_firstUnmetOnWay t) := by
  refine ct_go rfl rfl (fun h9 => by cases h9) (Nat.le_of_ble_eq_true rfl) (fun C res => ?_)
  refine aw_iconst (0 : Int32) dX10_firstUnmetOnWay_0 rfl ?_
  refine aw_istore_n dX10_firstUnmetOnWay_1 (by decide) ?_
  refine aw_msk [true, true, false] ?_
  exact afX10_firstUnmetOnWay_2   FU t ((0 : Int32))
set_option maxRecDepth 20000 in
theorem ctX10_influence (t : Nat) (v1 : Int32) (v2 : Int32) (v3 : Int32) (v4 : Int32) (v5 : Int32) : Ct yX10_influence cX10_influence mX10_influence qL [vr (some t), vi v1, vi v2, vi v3, vi v4, vi v5] (pX10_influence t v1 v2 v3 v4 v5) := by
  refine ct_go rfl rfl (fun h9 => by cases h9) (Nat.le_of_ble_eq_true rfl) (fun C res => ?_)
  refine aw_aload_n dX10_influence_0 rfl ?_
  refine aw_iload_n dX10_influence_1 rfl ?_
  refine aw_cV1 puA dX10_influence_2 (fun o => ctX10_bridgeAt o _) mcX10_bridgeAt ml_X10_104 rfl rfl msX10_bridgeAt rfl (by decide) (Nat.le_of_ble_eq_true rfl) (fun x2 => ?_)
  refine aw_astore dX10_influence_5 (by decide) ?_
  refine aw_aload dX10_influence_7 rfl ?_
  refine aw_ifnull 22 dX10_influence_9 (by decide) ?_ ?_
  · refine aw_ldc2 dX10_influence_22 cj_X10_127 ?_
    exact aw_lret dX10_influence_25 rfl
  · refine aw_aload dX10_influence_12 rfl ?_
    refine aw_iload_n dX10_influence_14 rfl ?_
    refine aw_iload_n dX10_influence_15 rfl ?_
    refine aw_cV2 puI dX10_influence_16 (fun o => ctX0_lacksSupport o _ _) mcX0_lacksSupport ml_X10_123 rfl rfl msX0_lacksSupport rfl (by decide) (Nat.le_of_ble_eq_true rfl) (fun x16 => ?_)
    refine aw_if_eq 26 dX10_influence_19 (by decide) ?_ ?_
    · refine aw_aload dX10_influence_26 rfl ?_
      refine aw_iload_n dX10_influence_28 rfl ?_
      refine aw_iload_n dX10_influence_29 rfl ?_
      refine aw_cV2 puI dX10_influence_30 (fun o => ctX0_hasResponse o _ _) mcX0_hasResponse ml_X10_129 rfl rfl msX0_hasResponse rfl (by decide) (Nat.le_of_ble_eq_true rfl) (fun x30 => ?_)
      refine aw_if_eq 60 dX10_influence_33 (by decide) ?_ ?_
      · refine aw_ldc2 dX10_influence_60 cj_X10_136 ?_
        exact aw_lret dX10_influence_63 rfl
      · refine aw_iload dX10_influence_36 rfl ?_
        refine aw_iconst (0 : Int32) dX10_influence_38 rfl ?_
        refine aw_aload dX10_influence_39 rfl ?_
        refine aw_gI dX10_influence_41 fl_X10_108 (fun x41 => ?_)
        refine aw_cS3 puI dX10_influence_44 (ctX10_within _ _ _) mcX10_within ml_X10_132 msX10_within rfl (by decide) (Nat.le_of_ble_eq_true rfl) (fun x44 => ?_)
        refine aw_if_eq 60 dX10_influence_47 (by decide) ?_ ?_
        · refine aw_ldc2 dX10_influence_60 cj_X10_136 ?_
          exact aw_lret dX10_influence_63 rfl
        · refine aw_iload dX10_influence_50 rfl ?_
          refine aw_iconst (0 : Int32) dX10_influence_52 rfl ?_
          refine aw_iconst (1 : Int32) dX10_influence_53 rfl ?_
          refine aw_cS3 puI dX10_influence_54 (ctX10_within _ _ _) mcX10_within ml_X10_132 msX10_within rfl (by decide) (Nat.le_of_ble_eq_true rfl) (fun x54 => ?_)
          refine aw_if_ne 64 dX10_influence_57 (by decide) ?_ ?_
          · refine aw_aload_n dX10_influence_64 rfl ?_
            refine aw_gA dX10_influence_65 fl_X10_48 (fun x65 => ?_)
            refine aw_aload dX10_influence_68 rfl ?_
            refine aw_iload_n dX10_influence_70 rfl ?_
            refine aw_iload_n dX10_influence_71 rfl ?_
            refine aw_cV3 puV dX10_influence_72 (fun o => ctX4_draw o _ _ _) mcX4_draw ml_X10_138 rfl rfl msX4_draw rfl (by decide) (Nat.le_of_ble_eq_true rfl) (fun _ => ?_)
            refine aw_aload_n dX10_influence_75 rfl ?_
            refine aw_gA dX10_influence_76 fl_X10_48 (fun x76 => ?_)
            refine aw_gA dX10_influence_79 fl_X10_142 (fun x79 => ?_)
            refine aw_iload dX10_influence_82 rfl ?_
            refine aw_lald dX10_influence_84 (fun x84 => ?_)
            refine aw_aload_n dX10_influence_85 rfl ?_
            refine aw_gA dX10_influence_86 fl_X10_48 (fun x86 => ?_)
            refine aw_gL dX10_influence_89 fl_X10_146 (fun x89 => ?_)
            refine aw_iload dX10_influence_92 rfl ?_
            refine aw_cS3 puL dX10_influence_94 (ctX10_partOf _ _ _) mcX10_partOf ml_X10_150 msX10_partOf rfl (by decide) (Nat.le_of_ble_eq_true rfl) (fun x94 => ?_)
            exact aw_lret dX10_influence_97 rfl
          · refine aw_ldc2 dX10_influence_60 cj_X10_136 ?_
            exact aw_lret dX10_influence_63 rfl
    · refine aw_ldc2 dX10_influence_22 cj_X10_127 ?_
      exact aw_lret dX10_influence_25 rfl
set_option maxRecDepth 20000 in
theorem ctX10_isTown (v0 : Int32) : Ct yX10_isTown cX10_isTown mX10_isTown qI [vi v0] (pX10_isTown v0) := by
  refine ct_go rfl rfl (fun h9 => by cases h9) (Nat.le_of_ble_eq_true rfl) (fun C res => ?_)
  refine aw_iload_n dX10_isTown_0 rfl ?_
  refine aw_iconst (0 : Int32) dX10_isTown_1 rfl ?_
  refine aw_bipush (9 : Int32) dX10_isTown_2 rfl ?_
  refine aw_cS3 puI dX10_isTown_4 (ctX10_within _ _ _) mcX10_within ml_X10_132 msX10_within rfl (by decide) (Nat.le_of_ble_eq_true rfl) (fun x4 => ?_)
  exact aw_zret dX10_isTown_7 rfl
set_option maxRecDepth 20000 in
theorem abX10_limit_22 {C : Cx} {res : Int32 × Hp}   : ∀ (t : Nat) (v3 : Int32) (v4 : Int32) (s0 : Option Nat), AW C cX10_limit mX10_limit qI res 22 [vr (some t), vu, vu, vi v3, vi v4, vu, vu] [vr s0] (bX10_limit_22   t v3 v4 s0) := by
  intro t v3 v4 s0
  refine aw_astore dX10_limit_22 (by decide) ?_
  refine aw_aload dX10_limit_24 rfl ?_
  refine aw_ifnonnull 33 dX10_limit_26 (by decide) ?_ ?_
  · refine aw_iload_n dX10_limit_33 rfl ?_
    refine aw_iload dX10_limit_34 rfl ?_
    refine aw_cS2 puI dX10_limit_36 (ctX10_limitsHold _ _) mcX10_limitsHold ml_X10_195 msX10_limitsHold rfl (by decide) (Nat.le_of_ble_eq_true rfl) (fun x36 => ?_)
    refine aw_if_ne 46 dX10_limit_39 (by decide) ?_ ?_
    · refine aw_aload dX10_limit_46 rfl ?_
      refine aw_iload_n dX10_limit_48 rfl ?_
      refine aw_pI dX10_limit_49 pl_X10_212 (fun _ => ?_)
      refine aw_aload dX10_limit_52 rfl ?_
      refine aw_iload dX10_limit_54 rfl ?_
      refine aw_pI dX10_limit_56 pl_X10_215 (fun _ => ?_)
      refine aw_iconst (1 : Int32) dX10_limit_59 rfl ?_
      exact aw_iret dX10_limit_60 rfl
    · refine aw_sipush (-1002 : Int32) dX10_limit_42 rfl ?_
      exact aw_iret dX10_limit_45 rfl
  · refine aw_sipush (-1001 : Int32) dX10_limit_29 rfl ?_
    exact aw_iret dX10_limit_32 rfl
set_option maxRecDepth 20000 in
theorem ctX10_limit (t : Nat) (v1 : Int32) (v2 : Int32) (v3 : Int32) (v4 : Int32) : Ct yX10_limit cX10_limit mX10_limit qI [vr (some t), vi v1, vi v2, vi v3, vi v4] (pX10_limit t v1 v2 v3 v4) := by
  refine ct_go rfl rfl (fun h9 => by cases h9) (Nat.le_of_ble_eq_true rfl) (fun C res => ?_)
  refine aw_aload_n dX10_limit_0 rfl ?_
  refine aw_iload_n dX10_limit_1 rfl ?_
  refine aw_cV1 puA dX10_limit_2 (fun o => ctX10_bridgeAt o _) mcX10_bridgeAt ml_X10_104 rfl rfl msX10_bridgeAt rfl (by decide) (Nat.le_of_ble_eq_true rfl) (fun x2 => ?_)
  refine aw_astore dX10_limit_5 (by decide) ?_
  refine aw_aload dX10_limit_7 rfl ?_
  refine aw_ifnonnull 16 dX10_limit_9 (by decide) ?_ ?_
  · refine aw_aload dX10_limit_16 rfl ?_
    refine aw_iload_n dX10_limit_18 rfl ?_
    refine aw_cV1 puA dX10_limit_19 (fun o => ctX0_checkAt o _) mcX0_checkAt ml_X10_208 rfl rfl msX0_checkAt rfl (by decide) (Nat.le_of_ble_eq_true rfl) (fun x19 => ?_)
    refine aw_msk [true, false, false, true, true, false, false] ?_
    exact abX10_limit_22   t v3 v4 x19
  · refine aw_null dX10_limit_12 ?_
    refine aw_goto 22 dX10_limit_13 (by decide) ?_
    refine aw_msk [true, false, false, true, true, false, false] ?_
    exact abX10_limit_22   t v3 v4 none
set_option maxRecDepth 20000 in
theorem ctX3_failsAsBefore (t : Nat) (v1 : Option Nat) (v2 : Option Nat) : Ct yX3_failsAsBefore cX3_failsAsBefore mX3_failsAsBefore qI [vr (some t), vr v1, vr v2] (pX3_failsAsBefore t v1 v2) := by
  refine ct_go rfl rfl (fun h9 => by cases h9) (Nat.le_of_ble_eq_true rfl) (fun C res => ?_)
  refine aw_aload_n dX3_failsAsBefore_0 rfl ?_
  refine aw_aload_n dX3_failsAsBefore_1 rfl ?_
  refine aw_gI dX3_failsAsBefore_2 fl_X3_34 (fun x2 => ?_)
  refine aw_cV1 puA dX3_failsAsBefore_5 (fun o => ctX0_checkAt o _) mcX0_checkAt ml_X3_52 rfl rfl msX0_checkAt rfl (by decide) (Nat.le_of_ble_eq_true rfl) (fun x5 => ?_)
  refine aw_astore_n dX3_failsAsBefore_8 (by decide) ?_
  refine aw_aload_n dX3_failsAsBefore_9 rfl ?_
  refine aw_ifnull 21 dX3_failsAsBefore_10 (by decide) ?_ ?_
  · refine aw_iconst (0 : Int32) dX3_failsAsBefore_21 rfl ?_
    exact aw_zret dX3_failsAsBefore_22 rfl
  · refine aw_aload_n dX3_failsAsBefore_13 rfl ?_
    refine aw_gI dX3_failsAsBefore_14 fl_X3_40 (fun x14 => ?_)
    refine aw_iconst (-1 : Int32) dX3_failsAsBefore_17 rfl ?_
    refine aw_icmp_ne 23 dX3_failsAsBefore_18 (by decide) ?_ ?_
    · refine aw_aload_n dX3_failsAsBefore_23 rfl ?_
      refine aw_gA dX3_failsAsBefore_24 fl_X3_56 (fun x24 => ?_)
      refine aw_aload_n dX3_failsAsBefore_27 rfl ?_
      refine aw_aload_n dX3_failsAsBefore_28 rfl ?_
      refine aw_gI dX3_failsAsBefore_29 fl_X3_40 (fun x29 => ?_)
      refine aw_aload_n dX3_failsAsBefore_32 rfl ?_
      refine aw_gI dX3_failsAsBefore_33 fl_X3_43 (fun x33 => ?_)
      refine aw_cV3 puL dX3_failsAsBefore_36 (fun o => ctX4_effectOf o _ _ _) mcX4_effectOf ml_X3_87 rfl rfl msX4_effectOf rfl (by decide) (Nat.le_of_ble_eq_true rfl) (fun x36 => ?_)
      refine aw_lstore dX3_failsAsBefore_39 (by decide) ?_
      refine aw_aload_n dX3_failsAsBefore_41 rfl ?_
      refine aw_aload_n dX3_failsAsBefore_42 rfl ?_
      refine aw_gI dX3_failsAsBefore_43 fl_X3_37 (fun x43 => ?_)
      refine aw_aload_n dX3_failsAsBefore_46 rfl ?_
      refine aw_aload_n dX3_failsAsBefore_47 rfl ?_
      refine aw_gI dX3_failsAsBefore_48 fl_X3_34 (fun x48 => ?_)
      refine aw_aload_n dX3_failsAsBefore_51 rfl ?_
      refine aw_gI dX3_failsAsBefore_52 fl_X3_37 (fun x52 => ?_)
      refine aw_lload dX3_failsAsBefore_55 rfl ?_
      refine aw_cV3 puL dX3_failsAsBefore_57 (fun o => ctX3_totalOf o _ _ _) mcX3_totalOf ml_X3_93 rfl rfl msX3_totalOf rfl (by decide) (Nat.le_of_ble_eq_true rfl) (fun x57 => ?_)
      refine aw_cV2 puI dX3_failsAsBefore_60 (fun o => ctX1_allows o _ _) mcX1_allows ml_X3_97 rfl rfl msX1_allows rfl (by decide) (Nat.le_of_ble_eq_true rfl) (fun x60 => ?_)
      refine aw_if_ne 70 dX3_failsAsBefore_63 (by decide) ?_ ?_
      · refine aw_iconst (0 : Int32) dX3_failsAsBefore_70 rfl ?_
        exact aw_zret dX3_failsAsBefore_71 rfl
      · refine aw_iconst (1 : Int32) dX3_failsAsBefore_66 rfl ?_
        refine aw_goto 71 dX3_failsAsBefore_67 (by decide) ?_
        exact aw_zret dX3_failsAsBefore_71 rfl
    · refine aw_iconst (0 : Int32) dX3_failsAsBefore_21 rfl ?_
      exact aw_zret dX3_failsAsBefore_22 rfl
set_option maxRecDepth 20000 in
theorem ctX3_allMet (t : Nat) (v1 : Option Nat) (v2 : Option Nat) : Ct yX3_allMet cX3_allMet mX3_allMet qI [vr (some t), vr v1, vr v2] (pX3_allMet t v1 v2) := by
  refine ct_go rfl rfl (fun h9 => by cases h9) (Nat.le_of_ble_eq_true rfl) (fun C res => ?_)
  refine aw_aload_n dX3_allMet_0 rfl ?_
  refine aw_aload_n dX3_allMet_1 rfl ?_
  refine aw_aload_n dX3_allMet_2 rfl ?_
  refine aw_cV2 puI dX3_allMet_3 (fun o => ctX3_failsAsBefore o _ _) mcX3_failsAsBefore ml_X3_79 rfl rfl msX3_failsAsBefore rfl (by decide) (Nat.le_of_ble_eq_true rfl) (fun x3 => ?_)
  refine aw_if_ne 23 dX3_allMet_6 (by decide) ?_ ?_
  · refine aw_iconst (0 : Int32) dX3_allMet_23 rfl ?_
    exact aw_zret dX3_allMet_24 rfl
  · refine aw_aload_n dX3_allMet_9 rfl ?_
    refine aw_aload_n dX3_allMet_10 rfl ?_
    refine aw_aload_n dX3_allMet_11 rfl ?_
    refine aw_cV2 puI dX3_allMet_12 (fun o => ctX3_firstUnmet o _ _) mcX3_firstUnmet ml_X3_83 rfl rfl msX3_firstUnmet rfl (by decide) (Nat.le_of_ble_eq_true rfl) (fun x12 => ?_)
    refine aw_iconst (-1 : Int32) dX3_allMet_15 rfl ?_
    refine aw_icmp_ne 23 dX3_allMet_16 (by decide) ?_ ?_
    · refine aw_iconst (0 : Int32) dX3_allMet_23 rfl ?_
      exact aw_zret dX3_allMet_24 rfl
    · refine aw_iconst (1 : Int32) dX3_allMet_19 rfl ?_
      refine aw_goto 24 dX3_allMet_20 (by decide) ?_
      exact aw_zret dX3_allMet_24 rfl
set_option maxRecDepth 20000 in
theorem abX8_copyWeighing_10 {C : Cx} {res : Unit × Hp}  {k10 : Nat → Option Nat → Int32 → Int32 → Mo Unit} (h10 : ∀ (t : Nat) (v1 : Option Nat) (v2 : Int32) (v3 : Int32), AW C cX8_copyWeighing mX8_copyWeighing qV res 10 [vr (some t), vr v1, vi v2, vi v3] [] (k10 t v1 v2 v3)) : ∀ (t : Nat) (v1 : Option Nat) (v2 : Int32) (v3 : Int32), AW C cX8_copyWeighing mX8_copyWeighing qV res 10 [vr (some t), vr v1, vi v2, vi v3] [] (bX8_copyWeighing_10  k10 t v1 v2 v3) := by
  intro t v1 v2 v3
  refine aw_iload_n dX8_copyWeighing_10 rfl ?_
  refine aw_aload_n dX8_copyWeighing_11 rfl ?_
  refine aw_gI dX8_copyWeighing_12 fl_X8_18 (fun x12 => ?_)
  refine aw_icmp_ge 53 dX8_copyWeighing_15 (by decide) ?_ ?_
  · exact aw_vret dX8_copyWeighing_53 rfl
  · refine aw_aload_n dX8_copyWeighing_18 rfl ?_
    refine aw_gA dX8_copyWeighing_19 fl_X8_15 (fun x19 => ?_)
    refine aw_iload_n dX8_copyWeighing_22 rfl ?_
    refine aw_aload_n dX8_copyWeighing_23 rfl ?_
    refine aw_gA dX8_copyWeighing_24 fl_X8_15 (fun x24 => ?_)
    refine aw_iload_n dX8_copyWeighing_27 rfl ?_
    refine aw_iald dX8_copyWeighing_28 (fun x28 => ?_)
    refine aw_iast dX8_copyWeighing_29 (fun _ => ?_)
    refine aw_aload_n dX8_copyWeighing_30 rfl ?_
    refine aw_gA dX8_copyWeighing_31 fl_X8_9 (fun x31 => ?_)
    refine aw_iload_n dX8_copyWeighing_34 rfl ?_
    refine aw_aload_n dX8_copyWeighing_35 rfl ?_
    refine aw_gA dX8_copyWeighing_36 fl_X8_9 (fun x36 => ?_)
    refine aw_iload_n dX8_copyWeighing_39 rfl ?_
    refine aw_iald dX8_copyWeighing_40 (fun x40 => ?_)
    refine aw_iload_n dX8_copyWeighing_41 rfl ?_
    refine aw_imul dX8_copyWeighing_42 ?_
    refine aw_bipush (100 : Int32) dX8_copyWeighing_43 rfl ?_
    refine aw_idiv dX8_copyWeighing_45 (fun x45 => ?_)
    refine aw_iast dX8_copyWeighing_46 (fun _ => ?_)
    refine aw_iinc (v3 + (1 : Int32)) dX8_copyWeighing_47 rfl rfl (by decide) ?_
    refine aw_goto 10 dX8_copyWeighing_50 (by decide) ?_
    refine aw_msk [true, true, true, true] ?_
    exact h10 t v1 v2 ((v3 + (1 : Int32)))
theorem afX8_copyWeighing_10 {C : Cx} {res : Unit × Hp}   : ∀ (n : Nat) (t : Nat) (v1 : Option Nat) (v2 : Int32) (v3 : Int32), AW C cX8_copyWeighing mX8_copyWeighing qV res 10 [vr (some t), vr v1, vi v2, vi v3] [] (fX8_copyWeighing_10   n t v1 v2 v3)
  | 0, _, _, _, _ => aw_fl
  | n + 1, t, v1, v2, v3 => abX8_copyWeighing_10  (fun t v1 v2 v3 => afX8_copyWeighing_10   n t v1 v2 v3) t v1 v2 v3
set_option maxRecDepth 20000 in
theorem ctX8_copyWeighing (t : Nat) (v1 : Option Nat) (v2 : Int32) : Ct yX8_copyWeighing cX8_copyWeighing mX8_copyWeighing qV [vr (some t), vr v1, vi v2] (pX8_copyWeighing t v1 v2) := by
  refine ct_go rfl rfl (fun h9 => by cases h9) (Nat.le_of_ble_eq_true rfl) (fun C res => ?_)
  refine aw_aload_n dX8_copyWeighing_0 rfl ?_
  refine aw_aload_n dX8_copyWeighing_1 rfl ?_
  refine aw_gI dX8_copyWeighing_2 fl_X8_18 (fun x2 => ?_)
  refine aw_pI dX8_copyWeighing_5 pl_X8_18 (fun _ => ?_)
  refine aw_iconst (0 : Int32) dX8_copyWeighing_8 rfl ?_
  refine aw_istore_n dX8_copyWeighing_9 (by decide) ?_
  refine aw_msk [true, true, true, true] ?_
  exact afX8_copyWeighing_10   FU t v1 v2 ((0 : Int32))
set_option maxRecDepth 20000 in
theorem abX10_posted_75 {C : Cx} {res : Int32 × Hp}  {k75 : Nat → Option Nat → Option Nat → Int32 → Mo Int32} (h75 : ∀ (t : Nat) (v3 : Option Nat) (v4 : Option Nat) (v5 : Int32), AW C cX10_posted mX10_posted qI res 75 [vr (some t), vu, vu, vr v3, vr v4, vi v5] [] (k75 t v3 v4 v5)) : ∀ (t : Nat) (v3 : Option Nat) (v4 : Option Nat) (v5 : Int32), AW C cX10_posted mX10_posted qI res 75 [vr (some t), vu, vu, vr v3, vr v4, vi v5] [] (bX10_posted_75  k75 t v3 v4 v5) := by
  intro t v3 v4 v5
  refine aw_iload dX10_posted_75 rfl ?_
  refine aw_if_le 115 dX10_posted_77 (by decide) ?_ ?_
  · refine aw_iconst (0 : Int32) dX10_posted_115 rfl ?_
    exact aw_iret dX10_posted_116 rfl
  · refine aw_aload_n dX10_posted_80 rfl ?_
    refine aw_gA dX10_posted_81 fl_X10_81 (fun x81 => ?_)
    refine aw_aload dX10_posted_84 rfl ?_
    refine aw_iload dX10_posted_86 rfl ?_
    refine aw_cV2 puV dX10_posted_88 (fun o => ctX8_copyWeighing o _ _) mcX8_copyWeighing ml_X10_234 rfl rfl msX8_copyWeighing rfl (by decide) (Nat.le_of_ble_eq_true rfl) (fun _ => ?_)
    refine aw_aload_n dX10_posted_91 rfl ?_
    refine aw_gA dX10_posted_92 fl_X10_69 (fun x92 => ?_)
    refine aw_aload_n dX10_posted_95 rfl ?_
    refine aw_aload_n dX10_posted_96 rfl ?_
    refine aw_gA dX10_posted_97 fl_X10_81 (fun x97 => ?_)
    refine aw_cV2 puI dX10_posted_100 (fun o => ctX3_allMet o _ _) mcX3_allMet ml_X10_238 rfl rfl msX3_allMet rfl (by decide) (Nat.le_of_ble_eq_true rfl) (fun x100 => ?_)
    refine aw_if_eq 109 dX10_posted_103 (by decide) ?_ ?_
    · refine aw_iinc (v5 + (-1 : Int32)) dX10_posted_109 rfl rfl (by decide) ?_
      refine aw_goto 75 dX10_posted_112 (by decide) ?_
      refine aw_msk [true, false, false, true, true, true] ?_
      exact h75 t v3 v4 ((v5 + (-1 : Int32)))
    · refine aw_iload dX10_posted_106 rfl ?_
      exact aw_iret dX10_posted_108 rfl
theorem afX10_posted_75 {C : Cx} {res : Int32 × Hp}   : ∀ (n : Nat) (t : Nat) (v3 : Option Nat) (v4 : Option Nat) (v5 : Int32), AW C cX10_posted mX10_posted qI res 75 [vr (some t), vu, vu, vr v3, vr v4, vi v5] [] (fX10_posted_75   n t v3 v4 v5)
  | 0, _, _, _, _ => aw_fl
  | n + 1, t, v3, v4, v5 => abX10_posted_75  (fun t v3 v4 v5 => afX10_posted_75   n t v3 v4 v5) t v3 v4 v5
set_option maxRecDepth 20000 in
theorem ctX10_posted (t : Nat) (v1 : Int32) (v2 : Int32) : Ct yX10_posted cX10_posted mX10_posted qI [vr (some t), vi v1, vi v2] (pX10_posted t v1 v2) := by
  refine ct_go rfl rfl (fun h9 => by cases h9) (Nat.le_of_ble_eq_true rfl) (fun C res => ?_)
  refine aw_aload_n dX10_posted_0 rfl ?_
  refine aw_iload_n dX10_posted_1 rfl ?_
  refine aw_cV1 puA dX10_posted_2 (fun o => ctX10_bridgeAt o _) mcX10_bridgeAt ml_X10_104 rfl rfl msX10_bridgeAt rfl (by decide) (Nat.le_of_ble_eq_true rfl) (fun x2 => ?_)
  refine aw_astore_n dX10_posted_5 (by decide) ?_
  refine aw_aload_n dX10_posted_6 rfl ?_
  refine aw_iload_n dX10_posted_7 rfl ?_
  refine aw_cV1 puA dX10_posted_8 (fun o => ctX10_trainAt o _) mcX10_trainAt ml_X10_163 rfl rfl msX10_trainAt rfl (by decide) (Nat.le_of_ble_eq_true rfl) (fun x8 => ?_)
  refine aw_astore dX10_posted_11 (by decide) ?_
  refine aw_aload_n dX10_posted_13 rfl ?_
  refine aw_ifnull 22 dX10_posted_14 (by decide) ?_ ?_
  · refine aw_sipush (-1001 : Int32) dX10_posted_22 rfl ?_
    exact aw_iret dX10_posted_25 rfl
  · refine aw_aload dX10_posted_17 rfl ?_
    refine aw_ifnonnull 26 dX10_posted_19 (by decide) ?_ ?_
    · refine aw_aload_n dX10_posted_26 rfl ?_
      refine aw_gA dX10_posted_27 fl_X10_69 (fun x27 => ?_)
      refine aw_aload_n dX10_posted_30 rfl ?_
      refine aw_aload_n dX10_posted_31 rfl ?_
      refine aw_aload_n dX10_posted_32 rfl ?_
      refine aw_gI dX10_posted_33 fl_X10_28 (fun x33 => ?_)
      refine aw_cV1 puA dX10_posted_36 (fun o => ctX10_trainAt o _) mcX10_trainAt ml_X10_163 rfl rfl msX10_trainAt rfl (by decide) (Nat.le_of_ble_eq_true rfl) (fun x36 => ?_)
      refine aw_iconst (0 : Int32) dX10_posted_39 rfl ?_
      refine aw_cV3 puV dX10_posted_40 (fun o => ctX3_prepare o _ _ _) mcX3_prepare ml_X10_218 rfl rfl msX3_prepare rfl (by decide) (Nat.le_of_ble_eq_true rfl) (fun _ => ?_)
      refine aw_aload_n dX10_posted_43 rfl ?_
      refine aw_gA dX10_posted_44 fl_X10_81 (fun x44 => ?_)
      refine aw_aload dX10_posted_47 rfl ?_
      refine aw_iconst (0 : Int32) dX10_posted_49 rfl ?_
      refine aw_cV2 puV dX10_posted_50 (fun o => ctX8_copyWeighing o _ _) mcX8_copyWeighing ml_X10_234 rfl rfl msX8_copyWeighing rfl (by decide) (Nat.le_of_ble_eq_true rfl) (fun _ => ?_)
      refine aw_aload_n dX10_posted_53 rfl ?_
      refine aw_gA dX10_posted_54 fl_X10_69 (fun x54 => ?_)
      refine aw_aload_n dX10_posted_57 rfl ?_
      refine aw_aload_n dX10_posted_58 rfl ?_
      refine aw_gA dX10_posted_59 fl_X10_81 (fun x59 => ?_)
      refine aw_cV2 puI dX10_posted_62 (fun o => ctX3_allMet o _ _) mcX3_allMet ml_X10_238 rfl rfl msX3_allMet rfl (by decide) (Nat.le_of_ble_eq_true rfl) (fun x62 => ?_)
      refine aw_if_ne 70 dX10_posted_65 (by decide) ?_ ?_
      · refine aw_sipush (300 : Int32) dX10_posted_70 rfl ?_
        refine aw_istore dX10_posted_73 (by decide) ?_
        refine aw_msk [true, false, false, true, true, true] ?_
        exact afX10_posted_75   FU t x2 x8 ((300 : Int32))
      · refine aw_iconst (-1 : Int32) dX10_posted_68 rfl ?_
        exact aw_iret dX10_posted_69 rfl
    · refine aw_sipush (-1001 : Int32) dX10_posted_22 rfl ?_
      exact aw_iret dX10_posted_25 rfl
set_option maxRecDepth 20000 in
theorem ctX5_lay (t : Nat) (v1 : Int32) (v2 : Int32) (v3 : Int32) (v4 : Int32) : Ct yX5_lay cX5_lay mX5_lay qI [vr (some t), vi v1, vi v2, vi v3, vi v4] (pX5_lay t v1 v2 v3 v4) := by
  refine ct_go rfl rfl (fun h9 => by cases h9) (Nat.le_of_ble_eq_true rfl) (fun C res => ?_)
  refine aw_aload_n dX5_lay_0 rfl ?_
  refine aw_gI dX5_lay_1 fl_X5_28 (fun x1 => ?_)
  refine aw_bipush (24 : Int32) dX5_lay_4 rfl ?_
  refine aw_icmp_lt 11 dX5_lay_6 (by decide) ?_ ?_
  · refine aw_aload_n dX5_lay_11 rfl ?_
    refine aw_gA dX5_lay_12 fl_X5_9 (fun x12 => ?_)
    refine aw_aload_n dX5_lay_15 rfl ?_
    refine aw_gI dX5_lay_16 fl_X5_28 (fun x16 => ?_)
    refine aw_iload_n dX5_lay_19 rfl ?_
    refine aw_iast dX5_lay_20 (fun _ => ?_)
    refine aw_aload_n dX5_lay_21 rfl ?_
    refine aw_gA dX5_lay_22 fl_X5_15 (fun x22 => ?_)
    refine aw_aload_n dX5_lay_25 rfl ?_
    refine aw_gI dX5_lay_26 fl_X5_28 (fun x26 => ?_)
    refine aw_iload_n dX5_lay_29 rfl ?_
    refine aw_iast dX5_lay_30 (fun _ => ?_)
    refine aw_aload_n dX5_lay_31 rfl ?_
    refine aw_gA dX5_lay_32 fl_X5_18 (fun x32 => ?_)
    refine aw_aload_n dX5_lay_35 rfl ?_
    refine aw_gI dX5_lay_36 fl_X5_28 (fun x36 => ?_)
    refine aw_iload_n dX5_lay_39 rfl ?_
    refine aw_iast dX5_lay_40 (fun _ => ?_)
    refine aw_aload_n dX5_lay_41 rfl ?_
    refine aw_gA dX5_lay_42 fl_X5_21 (fun x42 => ?_)
    refine aw_aload_n dX5_lay_45 rfl ?_
    refine aw_gI dX5_lay_46 fl_X5_28 (fun x46 => ?_)
    refine aw_iload dX5_lay_49 rfl ?_
    refine aw_iast dX5_lay_51 (fun _ => ?_)
    refine aw_aload_n dX5_lay_52 rfl ?_
    refine aw_dup dX5_lay_53 rfl ?_
    refine aw_gI dX5_lay_54 fl_X5_28 (fun x54 => ?_)
    refine aw_iconst (1 : Int32) dX5_lay_57 rfl ?_
    refine aw_iadd dX5_lay_58 ?_
    refine aw_pI dX5_lay_59 pl_X5_28 (fun _ => ?_)
    refine aw_iconst (1 : Int32) dX5_lay_62 rfl ?_
    exact aw_zret dX5_lay_63 rfl
  · refine aw_iconst (0 : Int32) dX5_lay_9 rfl ?_
    exact aw_zret dX5_lay_10 rfl
set_option maxRecDepth 20000 in
theorem abX10_road_33 {C : Cx} {res : Int32 × Hp}   : ∀ (t : Nat) (v1 : Int32) (v2 : Int32) (v3 : Int32) (v4 : Int32), AW C cX10_road mX10_road qI res 33 [vr (some t), vi v1, vi v2, vi v3, vi v4] [] (bX10_road_33   t v1 v2 v3 v4) := by
  intro t v1 v2 v3 v4
  refine aw_iload_n dX10_road_33 rfl ?_
  refine aw_iconst (1 : Int32) dX10_road_34 rfl ?_
  refine aw_sipush (500 : Int32) dX10_road_35 rfl ?_
  refine aw_cS3 puI dX10_road_38 (ctX10_within _ _ _) mcX10_within ml_X10_132 msX10_within rfl (by decide) (Nat.le_of_ble_eq_true rfl) (fun x38 => ?_)
  refine aw_if_eq 49 dX10_road_41 (by decide) ?_ ?_
  · refine aw_sipush (-1002 : Int32) dX10_road_49 rfl ?_
    exact aw_iret dX10_road_52 rfl
  · refine aw_iload_n dX10_road_44 rfl ?_
    refine aw_iload_n dX10_road_45 rfl ?_
    refine aw_icmp_ne 53 dX10_road_46 (by decide) ?_ ?_
    · refine aw_aload_n dX10_road_53 rfl ?_
      refine aw_gA dX10_road_54 fl_X10_34 (fun x54 => ?_)
      refine aw_iload_n dX10_road_57 rfl ?_
      refine aw_iload_n dX10_road_58 rfl ?_
      refine aw_iload_n dX10_road_59 rfl ?_
      refine aw_iload dX10_road_60 rfl ?_
      refine aw_cV4 puI dX10_road_62 (fun o => ctX5_lay o _ _ _ _) mcX5_lay ml_X10_249 rfl rfl msX5_lay rfl (by decide) (Nat.le_of_ble_eq_true rfl) (fun x62 => ?_)
      refine aw_if_ne 72 dX10_road_65 (by decide) ?_ ?_
      · refine aw_aload_n dX10_road_72 rfl ?_
        refine aw_gA dX10_road_73 fl_X10_34 (fun x73 => ?_)
        refine aw_gI dX10_road_76 fl_X10_253 (fun x76 => ?_)
        refine aw_iconst (1 : Int32) dX10_road_79 rfl ?_
        refine aw_isub dX10_road_80 ?_
        exact aw_iret dX10_road_81 rfl
      · refine aw_sipush (-1004 : Int32) dX10_road_68 rfl ?_
        exact aw_iret dX10_road_71 rfl
    · refine aw_sipush (-1002 : Int32) dX10_road_49 rfl ?_
      exact aw_iret dX10_road_52 rfl
set_option maxRecDepth 20000 in
theorem ctX10_road (t : Nat) (v1 : Int32) (v2 : Int32) (v3 : Int32) (v4 : Int32) : Ct yX10_road cX10_road mX10_road qI [vr (some t), vi v1, vi v2, vi v3, vi v4] (pX10_road t v1 v2 v3 v4) := by
  refine ct_go rfl rfl (fun h9 => by cases h9) (Nat.le_of_ble_eq_true rfl) (fun C res => ?_)
  refine aw_iload_n dX10_road_0 rfl ?_
  refine aw_cS1 puI dX10_road_1 (ctX10_isTown _) mcX10_isTown ml_X10_245 msX10_isTown rfl (by decide) (Nat.le_of_ble_eq_true rfl) (fun x1 => ?_)
  refine aw_if_eq 29 dX10_road_4 (by decide) ?_ ?_
  · refine aw_sipush (-1001 : Int32) dX10_road_29 rfl ?_
    exact aw_iret dX10_road_32 rfl
  · refine aw_iload_n dX10_road_7 rfl ?_
    refine aw_cS1 puI dX10_road_8 (ctX10_isTown _) mcX10_isTown ml_X10_245 msX10_isTown rfl (by decide) (Nat.le_of_ble_eq_true rfl) (fun x8 => ?_)
    refine aw_if_eq 29 dX10_road_11 (by decide) ?_ ?_
    · refine aw_sipush (-1001 : Int32) dX10_road_29 rfl ?_
      exact aw_iret dX10_road_32 rfl
    · refine aw_iload dX10_road_14 rfl ?_
      refine aw_iconst (-1 : Int32) dX10_road_16 rfl ?_
      refine aw_icmp_eq 33 dX10_road_17 (by decide) ?_ ?_
      · refine aw_msk [true, true, true, true, true] ?_
        exact abX10_road_33   t v1 v2 v3 v4
      · refine aw_aload_n dX10_road_20 rfl ?_
        refine aw_iload dX10_road_21 rfl ?_
        refine aw_cV1 puA dX10_road_23 (fun o => ctX10_bridgeAt o _) mcX10_bridgeAt ml_X10_104 rfl rfl msX10_bridgeAt rfl (by decide) (Nat.le_of_ble_eq_true rfl) (fun x23 => ?_)
        refine aw_ifnonnull 33 dX10_road_26 (by decide) ?_ ?_
        · refine aw_msk [true, true, true, true, true] ?_
          exact abX10_road_33   t v1 v2 v3 v4
        · refine aw_sipush (-1001 : Int32) dX10_road_29 rfl ?_
          exact aw_iret dX10_road_32 rfl
set_option maxRecDepth 20000 in
theorem ctX5_costOf (t : Nat) (v1 : Int32) : Ct yX5_costOf cX5_costOf mX5_costOf qI [vr (some t), vi v1] (pX5_costOf t v1) := by
  refine ct_go rfl rfl (fun h9 => by cases h9) (Nat.le_of_ble_eq_true rfl) (fun C res => ?_)
  refine aw_aload_n dX5_costOf_0 rfl ?_
  refine aw_gA dX5_costOf_1 fl_X5_18 (fun x1 => ?_)
  refine aw_iload_n dX5_costOf_4 rfl ?_
  refine aw_iald dX5_costOf_5 (fun x5 => ?_)
  refine aw_sipush (1000 : Int32) dX5_costOf_6 rfl ?_
  refine aw_imul dX5_costOf_9 ?_
  refine aw_iconst (1 : Int32) dX5_costOf_10 rfl ?_
  refine aw_iadd dX5_costOf_11 ?_
  exact aw_iret dX5_costOf_12 rfl
set_option maxRecDepth 20000 in
theorem ctX5_otherEnd (t : Nat) (v1 : Int32) (v2 : Int32) : Ct yX5_otherEnd cX5_otherEnd mX5_otherEnd qI [vr (some t), vi v1, vi v2] (pX5_otherEnd t v1 v2) := by
  refine ct_go rfl rfl (fun h9 => by cases h9) (Nat.le_of_ble_eq_true rfl) (fun C res => ?_)
  refine aw_aload_n dX5_otherEnd_0 rfl ?_
  refine aw_gA dX5_otherEnd_1 fl_X5_9 (fun x1 => ?_)
  refine aw_iload_n dX5_otherEnd_4 rfl ?_
  refine aw_iald dX5_otherEnd_5 (fun x5 => ?_)
  refine aw_iload_n dX5_otherEnd_6 rfl ?_
  refine aw_icmp_ne 19 dX5_otherEnd_7 (by decide) ?_ ?_
  · refine aw_aload_n dX5_otherEnd_19 rfl ?_
    refine aw_gA dX5_otherEnd_20 fl_X5_9 (fun x20 => ?_)
    refine aw_iload_n dX5_otherEnd_23 rfl ?_
    refine aw_iald dX5_otherEnd_24 (fun x24 => ?_)
    exact aw_iret dX5_otherEnd_25 rfl
  · refine aw_aload_n dX5_otherEnd_10 rfl ?_
    refine aw_gA dX5_otherEnd_11 fl_X5_15 (fun x11 => ?_)
    refine aw_iload_n dX5_otherEnd_14 rfl ?_
    refine aw_iald dX5_otherEnd_15 (fun x15 => ?_)
    refine aw_goto 25 dX5_otherEnd_16 (by decide) ?_
    exact aw_iret dX5_otherEnd_25 rfl
set_option maxRecDepth 20000 in
theorem abX5_firstRoadOn_35 {C : Cx} {res : Int32 × Hp}  {k2 : Nat → Int32 → Int32 → Mo Int32} (h2 : ∀ (t : Nat) (v1 : Int32) (v2 : Int32), AW C cX5_firstRoadOn mX5_firstRoadOn qI res 2 [vr (some t), vi v1, vi v2, vu] [] (k2 t v1 v2)) : ∀ (t : Nat) (v1 : Int32) (v2 : Int32) (s0 : Int32), AW C cX5_firstRoadOn mX5_firstRoadOn qI res 35 [vr (some t), vi v1, vi v2, vu] [vi s0] (bX5_firstRoadOn_35  k2 t v1 v2 s0) := by
  intro t v1 v2 s0
  refine aw_istore_n dX5_firstRoadOn_35 (by decide) ?_
  refine aw_iload_n dX5_firstRoadOn_36 rfl ?_
  refine aw_if_eq 77 dX5_firstRoadOn_37 (by decide) ?_ ?_
  · refine aw_iinc (v2 + (1 : Int32)) dX5_firstRoadOn_77 rfl rfl (by decide) ?_
    refine aw_goto 2 dX5_firstRoadOn_80 (by decide) ?_
    refine aw_msk [true, true, true, false] ?_
    exact h2 t v1 ((v2 + (1 : Int32)))
  · refine aw_aload_n dX5_firstRoadOn_40 rfl ?_
    refine aw_gA dX5_firstRoadOn_41 fl_X5_24 (fun x41 => ?_)
    refine aw_iload_n dX5_firstRoadOn_44 rfl ?_
    refine aw_zald dX5_firstRoadOn_45 (fun x45 => ?_)
    refine aw_if_ne 77 dX5_firstRoadOn_46 (by decide) ?_ ?_
    · refine aw_iinc (v2 + (1 : Int32)) dX5_firstRoadOn_77 rfl rfl (by decide) ?_
      refine aw_goto 2 dX5_firstRoadOn_80 (by decide) ?_
      refine aw_msk [true, true, true, false] ?_
      exact h2 t v1 ((v2 + (1 : Int32)))
    · refine aw_aload_n dX5_firstRoadOn_49 rfl ?_
      refine aw_gA dX5_firstRoadOn_50 fl_X5_32 (fun x50 => ?_)
      refine aw_aload_n dX5_firstRoadOn_53 rfl ?_
      refine aw_iload_n dX5_firstRoadOn_54 rfl ?_
      refine aw_iload_n dX5_firstRoadOn_55 rfl ?_
      refine aw_cV2 puI dX5_firstRoadOn_56 (fun o => ctX5_otherEnd o _ _) mcX5_otherEnd ml_X5_57 rfl rfl msX5_otherEnd rfl (by decide) (Nat.le_of_ble_eq_true rfl) (fun x56 => ?_)
      refine aw_iald dX5_firstRoadOn_59 (fun x59 => ?_)
      refine aw_aload_n dX5_firstRoadOn_60 rfl ?_
      refine aw_iload_n dX5_firstRoadOn_61 rfl ?_
      refine aw_cV1 puI dX5_firstRoadOn_62 (fun o => ctX5_costOf o _) mcX5_costOf ml_X5_67 rfl rfl msX5_costOf rfl (by decide) (Nat.le_of_ble_eq_true rfl) (fun x62 => ?_)
      refine aw_iadd dX5_firstRoadOn_65 ?_
      refine aw_aload_n dX5_firstRoadOn_66 rfl ?_
      refine aw_gA dX5_firstRoadOn_67 fl_X5_32 (fun x67 => ?_)
      refine aw_iload_n dX5_firstRoadOn_70 rfl ?_
      refine aw_iald dX5_firstRoadOn_71 (fun x71 => ?_)
      refine aw_icmp_ne 77 dX5_firstRoadOn_72 (by decide) ?_ ?_
      · refine aw_iinc (v2 + (1 : Int32)) dX5_firstRoadOn_77 rfl rfl (by decide) ?_
        refine aw_goto 2 dX5_firstRoadOn_80 (by decide) ?_
        refine aw_msk [true, true, true, false] ?_
        exact h2 t v1 ((v2 + (1 : Int32)))
      · refine aw_iload_n dX5_firstRoadOn_75 rfl ?_
        exact aw_iret dX5_firstRoadOn_76 rfl
set_option maxRecDepth 20000 in
theorem abX5_firstRoadOn_2 {C : Cx} {res : Int32 × Hp}  {k2 : Nat → Int32 → Int32 → Mo Int32} (h2 : ∀ (t : Nat) (v1 : Int32) (v2 : Int32), AW C cX5_firstRoadOn mX5_firstRoadOn qI res 2 [vr (some t), vi v1, vi v2, vu] [] (k2 t v1 v2)) : ∀ (t : Nat) (v1 : Int32) (v2 : Int32), AW C cX5_firstRoadOn mX5_firstRoadOn qI res 2 [vr (some t), vi v1, vi v2, vu] [] (bX5_firstRoadOn_2  k2 t v1 v2) := by
  intro t v1 v2
  refine aw_iload_n dX5_firstRoadOn_2 rfl ?_
  refine aw_aload_n dX5_firstRoadOn_3 rfl ?_
  refine aw_gI dX5_firstRoadOn_4 fl_X5_28 (fun x4 => ?_)
  refine aw_icmp_ge 83 dX5_firstRoadOn_7 (by decide) ?_ ?_
  · refine aw_iconst (-1 : Int32) dX5_firstRoadOn_83 rfl ?_
    exact aw_iret dX5_firstRoadOn_84 rfl
  · refine aw_aload_n dX5_firstRoadOn_10 rfl ?_
    refine aw_gA dX5_firstRoadOn_11 fl_X5_9 (fun x11 => ?_)
    refine aw_iload_n dX5_firstRoadOn_14 rfl ?_
    refine aw_iald dX5_firstRoadOn_15 (fun x15 => ?_)
    refine aw_iload_n dX5_firstRoadOn_16 rfl ?_
    refine aw_icmp_eq 30 dX5_firstRoadOn_17 (by decide) ?_ ?_
    · refine aw_iconst (1 : Int32) dX5_firstRoadOn_30 rfl ?_
      refine aw_goto 35 dX5_firstRoadOn_31 (by decide) ?_
      refine aw_msk [true, true, true, false] ?_
      exact abX5_firstRoadOn_35  h2 t v1 v2 ((1 : Int32))
    · refine aw_aload_n dX5_firstRoadOn_20 rfl ?_
      refine aw_gA dX5_firstRoadOn_21 fl_X5_15 (fun x21 => ?_)
      refine aw_iload_n dX5_firstRoadOn_24 rfl ?_
      refine aw_iald dX5_firstRoadOn_25 (fun x25 => ?_)
      refine aw_iload_n dX5_firstRoadOn_26 rfl ?_
      refine aw_icmp_ne 34 dX5_firstRoadOn_27 (by decide) ?_ ?_
      · refine aw_iconst (0 : Int32) dX5_firstRoadOn_34 rfl ?_
        refine aw_msk [true, true, true, false] ?_
        exact abX5_firstRoadOn_35  h2 t v1 v2 ((0 : Int32))
      · refine aw_iconst (1 : Int32) dX5_firstRoadOn_30 rfl ?_
        refine aw_goto 35 dX5_firstRoadOn_31 (by decide) ?_
        refine aw_msk [true, true, true, false] ?_
        exact abX5_firstRoadOn_35  h2 t v1 v2 ((1 : Int32))
theorem afX5_firstRoadOn_2 {C : Cx} {res : Int32 × Hp}   : ∀ (n : Nat) (t : Nat) (v1 : Int32) (v2 : Int32), AW C cX5_firstRoadOn mX5_firstRoadOn qI res 2 [vr (some t), vi v1, vi v2, vu] [] (fX5_firstRoadOn_2   n t v1 v2)
  | 0, _, _, _ => aw_fl
  | n + 1, t, v1, v2 => abX5_firstRoadOn_2  (fun t v1 v2 => afX5_firstRoadOn_2   n t v1 v2) t v1 v2
set_option maxRecDepth 20000 in
theorem ctX5_firstRoadOn (t : Nat) (v1 : Int32) : Ct yX5_firstRoadOn cX5_firstRoadOn mX5_firstRoadOn qI [vr (some t), vi v1] (pX5_firstRoadOn t v1) := by
  refine ct_go rfl rfl (fun h9 => by cases h9) (Nat.le_of_ble_eq_true rfl) (fun C res => ?_)
  refine aw_iconst (0 : Int32) dX5_firstRoadOn_0 rfl ?_
  refine aw_istore_n dX5_firstRoadOn_1 (by decide) ?_
  refine aw_msk [true, true, true, false] ?_
  exact afX5_firstRoadOn_2   FU t v1 ((0 : Int32))
set_option maxRecDepth 20000 in
theorem abJ7_fill_53178_5 {C : Cx} {res : Unit × Hp}  {k5 : Option Nat → Int32 → Int32 → Int32 → Mo Unit} (h5 : ∀ (v0 : Option Nat) (v1 : Int32) (v2 : Int32) (v3 : Int32), AW C cJ7_fill_53178 mJ7_fill_53178 qV res 5 [vr v0, vi v1, vi v2, vi v3] [] (k5 v0 v1 v2 v3)) : ∀ (v0 : Option Nat) (v1 : Int32) (v2 : Int32) (v3 : Int32), AW C cJ7_fill_53178 mJ7_fill_53178 qV res 5 [vr v0, vi v1, vi v2, vi v3] [] (bJ7_fill_53178_5  k5 v0 v1 v2 v3) := by
  intro v0 v1 v2 v3
  refine aw_iload_n dJ7_fill_53178_5 rfl ?_
  refine aw_iload_n dJ7_fill_53178_6 rfl ?_
  refine aw_icmp_ge 20 dJ7_fill_53178_7 (by decide) ?_ ?_
  · exact aw_vret dJ7_fill_53178_20 rfl
  · refine aw_aload_n dJ7_fill_53178_10 rfl ?_
    refine aw_iload_n dJ7_fill_53178_11 rfl ?_
    refine aw_iload_n dJ7_fill_53178_12 rfl ?_
    refine aw_iast dJ7_fill_53178_13 (fun _ => ?_)
    refine aw_iinc (v2 + (1 : Int32)) dJ7_fill_53178_14 rfl rfl (by decide) ?_
    refine aw_goto 5 dJ7_fill_53178_17 (by decide) ?_
    refine aw_msk [true, true, true, true] ?_
    exact h5 v0 v1 ((v2 + (1 : Int32))) v3
theorem afJ7_fill_53178_5 {C : Cx} {res : Unit × Hp}   : ∀ (n : Nat) (v0 : Option Nat) (v1 : Int32) (v2 : Int32) (v3 : Int32), AW C cJ7_fill_53178 mJ7_fill_53178 qV res 5 [vr v0, vi v1, vi v2, vi v3] [] (fJ7_fill_53178_5   n v0 v1 v2 v3)
  | 0, _, _, _, _ => aw_fl
  | n + 1, v0, v1, v2, v3 => abJ7_fill_53178_5  (fun v0 v1 v2 v3 => afJ7_fill_53178_5   n v0 v1 v2 v3) v0 v1 v2 v3
set_option maxRecDepth 20000 in
theorem ctJ7_fill_53178 (v0 : Option Nat) (v1 : Int32) : Ct yJ7_fill_53178 cJ7_fill_53178 mJ7_fill_53178 qV [vr v0, vi v1] (pJ7_fill_53178 v0 v1) := by
  refine ct_go rfl rfl (fun h9 => by cases h9) (Nat.le_of_ble_eq_true rfl) (fun C res => ?_)
  refine aw_iconst (0 : Int32) dJ7_fill_53178_0 rfl ?_
  refine aw_istore_n dJ7_fill_53178_1 (by decide) ?_
  refine aw_aload_n dJ7_fill_53178_2 rfl ?_
  refine aw_aln dJ7_fill_53178_3 (fun x3 => ?_)
  refine aw_istore_n dJ7_fill_53178_4 (by decide) ?_
  refine aw_msk [true, true, true, true] ?_
  exact afJ7_fill_53178_5   FU v0 v1 ((0 : Int32)) x3
set_option maxRecDepth 20000 in
theorem abX5_spreadCosts_26 {C : Cx} {res : Unit × Hp}  {k18 : Nat → Int32 → Mo Unit} (h18 : ∀ (t : Nat) (v2 : Int32), AW C cX5_spreadCosts mX5_spreadCosts qV res 18 [vr (some t), vu, vi v2, vu, vu, vu] [] (k18 t v2)) {k26 : Nat → Int32 → Int32 → Mo Unit} (h26 : ∀ (t : Nat) (v2 : Int32) (v3 : Int32), AW C cX5_spreadCosts mX5_spreadCosts qV res 26 [vr (some t), vu, vi v2, vi v3, vu, vu] [] (k26 t v2 v3)) : ∀ (t : Nat) (v2 : Int32) (v3 : Int32), AW C cX5_spreadCosts mX5_spreadCosts qV res 26 [vr (some t), vu, vi v2, vi v3, vu, vu] [] (bX5_spreadCosts_26  k18 k26 t v2 v3) := by
  intro t v2 v3
  refine aw_iload_n dX5_spreadCosts_26 rfl ?_
  refine aw_aload_n dX5_spreadCosts_27 rfl ?_
  refine aw_gI dX5_spreadCosts_28 fl_X5_28 (fun x28 => ?_)
  refine aw_icmp_ge 125 dX5_spreadCosts_31 (by decide) ?_ ?_
  · refine aw_iinc (v2 + (1 : Int32)) dX5_spreadCosts_125 rfl rfl (by decide) ?_
    refine aw_goto 18 dX5_spreadCosts_128 (by decide) ?_
    refine aw_msk [true, false, true, false, false, false] ?_
    exact h18 t ((v2 + (1 : Int32)))
  · refine aw_aload_n dX5_spreadCosts_34 rfl ?_
    refine aw_gA dX5_spreadCosts_35 fl_X5_24 (fun x35 => ?_)
    refine aw_iload_n dX5_spreadCosts_38 rfl ?_
    refine aw_zald dX5_spreadCosts_39 (fun x39 => ?_)
    refine aw_if_ne 119 dX5_spreadCosts_40 (by decide) ?_ ?_
    · refine aw_iinc (v3 + (1 : Int32)) dX5_spreadCosts_119 rfl rfl (by decide) ?_
      refine aw_goto 26 dX5_spreadCosts_122 (by decide) ?_
      refine aw_msk [true, false, true, true, false, false] ?_
      exact h26 t v2 ((v3 + (1 : Int32)))
    · refine aw_aload_n dX5_spreadCosts_43 rfl ?_
      refine aw_gA dX5_spreadCosts_44 fl_X5_9 (fun x44 => ?_)
      refine aw_iload_n dX5_spreadCosts_47 rfl ?_
      refine aw_iald dX5_spreadCosts_48 (fun x48 => ?_)
      refine aw_istore dX5_spreadCosts_49 (by decide) ?_
      refine aw_aload_n dX5_spreadCosts_51 rfl ?_
      refine aw_gA dX5_spreadCosts_52 fl_X5_15 (fun x52 => ?_)
      refine aw_iload_n dX5_spreadCosts_55 rfl ?_
      refine aw_iald dX5_spreadCosts_56 (fun x56 => ?_)
      refine aw_istore dX5_spreadCosts_57 (by decide) ?_
      refine aw_aload_n dX5_spreadCosts_59 rfl ?_
      refine aw_gA dX5_spreadCosts_60 fl_X5_32 (fun x60 => ?_)
      refine aw_iload dX5_spreadCosts_63 rfl ?_
      refine aw_aload_n dX5_spreadCosts_65 rfl ?_
      refine aw_gA dX5_spreadCosts_66 fl_X5_32 (fun x66 => ?_)
      refine aw_iload dX5_spreadCosts_69 rfl ?_
      refine aw_iald dX5_spreadCosts_71 (fun x71 => ?_)
      refine aw_aload_n dX5_spreadCosts_72 rfl ?_
      refine aw_gA dX5_spreadCosts_73 fl_X5_32 (fun x73 => ?_)
      refine aw_iload dX5_spreadCosts_76 rfl ?_
      refine aw_iald dX5_spreadCosts_78 (fun x78 => ?_)
      refine aw_aload_n dX5_spreadCosts_79 rfl ?_
      refine aw_iload_n dX5_spreadCosts_80 rfl ?_
      refine aw_cV1 puI dX5_spreadCosts_81 (fun o => ctX5_costOf o _) mcX5_costOf ml_X5_67 rfl rfl msX5_costOf rfl (by decide) (Nat.le_of_ble_eq_true rfl) (fun x81 => ?_)
      refine aw_iadd dX5_spreadCosts_84 ?_
      refine aw_mminI dX5_spreadCosts_85 mk_X5_70 (by decide) (by decide) (Nat.le_of_ble_eq_true rfl) ?_
      refine aw_iast dX5_spreadCosts_88 (fun _ => ?_)
      refine aw_aload_n dX5_spreadCosts_89 rfl ?_
      refine aw_gA dX5_spreadCosts_90 fl_X5_32 (fun x90 => ?_)
      refine aw_iload dX5_spreadCosts_93 rfl ?_
      refine aw_aload_n dX5_spreadCosts_95 rfl ?_
      refine aw_gA dX5_spreadCosts_96 fl_X5_32 (fun x96 => ?_)
      refine aw_iload dX5_spreadCosts_99 rfl ?_
      refine aw_iald dX5_spreadCosts_101 (fun x101 => ?_)
      refine aw_aload_n dX5_spreadCosts_102 rfl ?_
      refine aw_gA dX5_spreadCosts_103 fl_X5_32 (fun x103 => ?_)
      refine aw_iload dX5_spreadCosts_106 rfl ?_
      refine aw_iald dX5_spreadCosts_108 (fun x108 => ?_)
      refine aw_aload_n dX5_spreadCosts_109 rfl ?_
      refine aw_iload_n dX5_spreadCosts_110 rfl ?_
      refine aw_cV1 puI dX5_spreadCosts_111 (fun o => ctX5_costOf o _) mcX5_costOf ml_X5_67 rfl rfl msX5_costOf rfl (by decide) (Nat.le_of_ble_eq_true rfl) (fun x111 => ?_)
      refine aw_iadd dX5_spreadCosts_114 ?_
      refine aw_mminI dX5_spreadCosts_115 mk_X5_70 (by decide) (by decide) (Nat.le_of_ble_eq_true rfl) ?_
      refine aw_iast dX5_spreadCosts_118 (fun _ => ?_)
      refine aw_iinc (v3 + (1 : Int32)) dX5_spreadCosts_119 rfl rfl (by decide) ?_
      refine aw_goto 26 dX5_spreadCosts_122 (by decide) ?_
      refine aw_msk [true, false, true, true, false, false] ?_
      exact h26 t v2 ((v3 + (1 : Int32)))
theorem afX5_spreadCosts_26 {C : Cx} {res : Unit × Hp}  {k18 : Nat → Int32 → Mo Unit} (h18 : ∀ (t : Nat) (v2 : Int32), AW C cX5_spreadCosts mX5_spreadCosts qV res 18 [vr (some t), vu, vi v2, vu, vu, vu] [] (k18 t v2)) : ∀ (n : Nat) (t : Nat) (v2 : Int32) (v3 : Int32), AW C cX5_spreadCosts mX5_spreadCosts qV res 26 [vr (some t), vu, vi v2, vi v3, vu, vu] [] (fX5_spreadCosts_26  k18 n t v2 v3)
  | 0, _, _, _ => aw_fl
  | n + 1, t, v2, v3 => abX5_spreadCosts_26  h18 (fun t v2 v3 => afX5_spreadCosts_26  h18 n t v2 v3) t v2 v3
set_option maxRecDepth 20000 in
theorem abX5_spreadCosts_18 {C : Cx} {res : Unit × Hp}  {k18 : Nat → Int32 → Mo Unit} (h18 : ∀ (t : Nat) (v2 : Int32), AW C cX5_spreadCosts mX5_spreadCosts qV res 18 [vr (some t), vu, vi v2, vu, vu, vu] [] (k18 t v2)) : ∀ (t : Nat) (v2 : Int32), AW C cX5_spreadCosts mX5_spreadCosts qV res 18 [vr (some t), vu, vi v2, vu, vu, vu] [] (bX5_spreadCosts_18  k18 t v2) := by
  intro t v2
  refine aw_iload_n dX5_spreadCosts_18 rfl ?_
  refine aw_bipush (10 : Int32) dX5_spreadCosts_19 rfl ?_
  refine aw_icmp_ge 131 dX5_spreadCosts_21 (by decide) ?_ ?_
  · exact aw_vret dX5_spreadCosts_131 rfl
  · refine aw_iconst (0 : Int32) dX5_spreadCosts_24 rfl ?_
    refine aw_istore_n dX5_spreadCosts_25 (by decide) ?_
    refine aw_msk [true, false, true, true, false, false] ?_
    exact afX5_spreadCosts_26  h18 FU t v2 ((0 : Int32))
theorem afX5_spreadCosts_18 {C : Cx} {res : Unit × Hp}   : ∀ (n : Nat) (t : Nat) (v2 : Int32), AW C cX5_spreadCosts mX5_spreadCosts qV res 18 [vr (some t), vu, vi v2, vu, vu, vu] [] (fX5_spreadCosts_18   n t v2)
  | 0, _, _ => aw_fl
  | n + 1, t, v2 => abX5_spreadCosts_18  (fun t v2 => afX5_spreadCosts_18   n t v2) t v2
set_option maxRecDepth 20000 in
theorem ctX5_spreadCosts (t : Nat) (v1 : Int32) : Ct yX5_spreadCosts cX5_spreadCosts mX5_spreadCosts qV [vr (some t), vi v1] (pX5_spreadCosts t v1) := by
  refine ct_go rfl rfl (fun h9 => by cases h9) (Nat.le_of_ble_eq_true rfl) (fun C res => ?_)
  refine aw_aload_n dX5_spreadCosts_0 rfl ?_
  refine aw_gA dX5_spreadCosts_1 fl_X5_32 (fun x1 => ?_)
  refine aw_ldc dX5_spreadCosts_4 cn_X5_52 ?_
  refine aw_cS2 puV dX5_spreadCosts_6 (ctJ7_fill_53178 _ _) mcJ7_fill_53178 ml_X5_61 msJ7_fill_53178 rfl (by decide) (Nat.le_of_ble_eq_true rfl) (fun _ => ?_)
  refine aw_aload_n dX5_spreadCosts_9 rfl ?_
  refine aw_gA dX5_spreadCosts_10 fl_X5_32 (fun x10 => ?_)
  refine aw_iload_n dX5_spreadCosts_13 rfl ?_
  refine aw_iconst (0 : Int32) dX5_spreadCosts_14 rfl ?_
  refine aw_iast dX5_spreadCosts_15 (fun _ => ?_)
  refine aw_iconst (1 : Int32) dX5_spreadCosts_16 rfl ?_
  refine aw_istore_n dX5_spreadCosts_17 (by decide) ?_
  refine aw_msk [true, false, true, false, false, false] ?_
  exact afX5_spreadCosts_18   FU t ((1 : Int32))
set_option maxRecDepth 20000 in
theorem abX5_search_42 {C : Cx} {res : Int32 × Hp}  {k42 : Nat → Int32 → Int32 → Int32 → Mo Int32} (h42 : ∀ (t : Nat) (v2 : Int32) (v3 : Int32) (v4 : Int32), AW C cX5_search mX5_search qI res 42 [vr (some t), vu, vi v2, vi v3, vi v4, vu] [] (k42 t v2 v3 v4)) : ∀ (t : Nat) (v2 : Int32) (v3 : Int32) (v4 : Int32), AW C cX5_search mX5_search qI res 42 [vr (some t), vu, vi v2, vi v3, vi v4, vu] [] (bX5_search_42  k42 t v2 v3 v4) := by
  intro t v2 v3 v4
  refine aw_iload dX5_search_42 rfl ?_
  refine aw_bipush (10 : Int32) dX5_search_44 rfl ?_
  refine aw_icmp_ge 102 dX5_search_46 (by decide) ?_ ?_
  · refine aw_iconst (1 : Int32) dX5_search_102 rfl ?_
    exact aw_zret dX5_search_103 rfl
  · refine aw_iload_n dX5_search_49 rfl ?_
    refine aw_iload_n dX5_search_50 rfl ?_
    refine aw_icmp_eq 102 dX5_search_51 (by decide) ?_ ?_
    · refine aw_iconst (1 : Int32) dX5_search_102 rfl ?_
      exact aw_zret dX5_search_103 rfl
    · refine aw_aload_n dX5_search_54 rfl ?_
      refine aw_iload_n dX5_search_55 rfl ?_
      refine aw_cV1 puI dX5_search_56 (fun o => ctX5_firstRoadOn o _) mcX5_firstRoadOn ml_X5_53 rfl rfl msX5_firstRoadOn rfl (by decide) (Nat.le_of_ble_eq_true rfl) (fun x56 => ?_)
      refine aw_istore dX5_search_59 (by decide) ?_
      refine aw_iload dX5_search_61 rfl ?_
      refine aw_iconst (-1 : Int32) dX5_search_63 rfl ?_
      refine aw_icmp_ne 69 dX5_search_64 (by decide) ?_ ?_
      · refine aw_aload_n dX5_search_69 rfl ?_
        refine aw_gA dX5_search_70 fl_X5_35 (fun x70 => ?_)
        refine aw_iload dX5_search_73 rfl ?_
        refine aw_iload dX5_search_75 rfl ?_
        refine aw_iast dX5_search_77 (fun _ => ?_)
        refine aw_aload_n dX5_search_78 rfl ?_
        refine aw_dup dX5_search_79 rfl ?_
        refine aw_gI dX5_search_80 fl_X5_38 (fun x80 => ?_)
        refine aw_iconst (1 : Int32) dX5_search_83 rfl ?_
        refine aw_iadd dX5_search_84 ?_
        refine aw_pI dX5_search_85 pl_X5_38 (fun _ => ?_)
        refine aw_aload_n dX5_search_88 rfl ?_
        refine aw_iload dX5_search_89 rfl ?_
        refine aw_iload_n dX5_search_91 rfl ?_
        refine aw_cV2 puI dX5_search_92 (fun o => ctX5_otherEnd o _ _) mcX5_otherEnd ml_X5_57 rfl rfl msX5_otherEnd rfl (by decide) (Nat.le_of_ble_eq_true rfl) (fun x92 => ?_)
        refine aw_istore_n dX5_search_95 (by decide) ?_
        refine aw_iinc (v4 + (1 : Int32)) dX5_search_96 rfl rfl (by decide) ?_
        refine aw_goto 42 dX5_search_99 (by decide) ?_
        refine aw_msk [true, false, true, true, true, false] ?_
        exact h42 t v2 x92 ((v4 + (1 : Int32)))
      · refine aw_iconst (0 : Int32) dX5_search_67 rfl ?_
        exact aw_zret dX5_search_68 rfl
theorem afX5_search_42 {C : Cx} {res : Int32 × Hp}   : ∀ (n : Nat) (t : Nat) (v2 : Int32) (v3 : Int32) (v4 : Int32), AW C cX5_search mX5_search qI res 42 [vr (some t), vu, vi v2, vi v3, vi v4, vu] [] (fX5_search_42   n t v2 v3 v4)
  | 0, _, _, _, _ => aw_fl
  | n + 1, t, v2, v3, v4 => abX5_search_42  (fun t v2 v3 v4 => afX5_search_42   n t v2 v3 v4) t v2 v3 v4
set_option maxRecDepth 20000 in
theorem ctX5_search (t : Nat) (v1 : Int32) (v2 : Int32) : Ct yX5_search cX5_search mX5_search qI [vr (some t), vi v1, vi v2] (pX5_search t v1 v2) := by
  refine ct_go rfl rfl (fun h9 => by cases h9) (Nat.le_of_ble_eq_true rfl) (fun C res => ?_)
  refine aw_aload_n dX5_search_0 rfl ?_
  refine aw_iload_n dX5_search_1 rfl ?_
  refine aw_cV1 puV dX5_search_2 (fun o => ctX5_spreadCosts o _) mcX5_spreadCosts ml_X5_48 rfl rfl msX5_spreadCosts rfl (by decide) (Nat.le_of_ble_eq_true rfl) (fun _ => ?_)
  refine aw_aload_n dX5_search_5 rfl ?_
  refine aw_iconst (0 : Int32) dX5_search_6 rfl ?_
  refine aw_pI dX5_search_7 pl_X5_38 (fun _ => ?_)
  refine aw_aload_n dX5_search_10 rfl ?_
  refine aw_aload_n dX5_search_11 rfl ?_
  refine aw_gA dX5_search_12 fl_X5_32 (fun x12 => ?_)
  refine aw_iload_n dX5_search_15 rfl ?_
  refine aw_iald dX5_search_16 (fun x16 => ?_)
  refine aw_sipush (1000 : Int32) dX5_search_17 rfl ?_
  refine aw_idiv dX5_search_20 (fun x20 => ?_)
  refine aw_pI dX5_search_21 pl_X5_41 (fun _ => ?_)
  refine aw_aload_n dX5_search_24 rfl ?_
  refine aw_gA dX5_search_25 fl_X5_32 (fun x25 => ?_)
  refine aw_iload_n dX5_search_28 rfl ?_
  refine aw_iald dX5_search_29 (fun x29 => ?_)
  refine aw_ldc dX5_search_30 cn_X5_52 ?_
  refine aw_icmp_lt 37 dX5_search_32 (by decide) ?_ ?_
  · refine aw_iload_n dX5_search_37 rfl ?_
    refine aw_istore_n dX5_search_38 (by decide) ?_
    refine aw_iconst (0 : Int32) dX5_search_39 rfl ?_
    refine aw_istore dX5_search_40 (by decide) ?_
    refine aw_msk [true, false, true, true, true, false] ?_
    exact afX5_search_42   FU t v2 v1 ((0 : Int32))
  · refine aw_iconst (0 : Int32) dX5_search_35 rfl ?_
    exact aw_zret dX5_search_36 rfl
set_option maxRecDepth 20000 in
theorem ctX10_route (t : Nat) (v1 : Int32) (v2 : Int32) (v3 : Int32) (v4 : Int32) (v5 : Int32) : Ct yX10_route cX10_route mX10_route qI [vr (some t), vi v1, vi v2, vi v3, vi v4, vi v5] (pX10_route t v1 v2 v3 v4 v5) := by
  refine ct_go rfl rfl (fun h9 => by cases h9) (Nat.le_of_ble_eq_true rfl) (fun C res => ?_)
  refine aw_aload_n dX10_route_0 rfl ?_
  refine aw_iload_n dX10_route_1 rfl ?_
  refine aw_cV1 puA dX10_route_2 (fun o => ctX10_trainAt o _) mcX10_trainAt ml_X10_163 rfl rfl msX10_trainAt rfl (by decide) (Nat.le_of_ble_eq_true rfl) (fun x2 => ?_)
  refine aw_astore dX10_route_5 (by decide) ?_
  refine aw_aload dX10_route_7 rfl ?_
  refine aw_ifnull 27 dX10_route_9 (by decide) ?_ ?_
  · refine aw_sipush (-1001 : Int32) dX10_route_27 rfl ?_
    exact aw_iret dX10_route_30 rfl
  · refine aw_iload_n dX10_route_12 rfl ?_
    refine aw_cS1 puI dX10_route_13 (ctX10_isTown _) mcX10_isTown ml_X10_245 msX10_isTown rfl (by decide) (Nat.le_of_ble_eq_true rfl) (fun x13 => ?_)
    refine aw_if_eq 27 dX10_route_16 (by decide) ?_ ?_
    · refine aw_sipush (-1001 : Int32) dX10_route_27 rfl ?_
      exact aw_iret dX10_route_30 rfl
    · refine aw_iload dX10_route_19 rfl ?_
      refine aw_cS1 puI dX10_route_21 (ctX10_isTown _) mcX10_isTown ml_X10_245 msX10_isTown rfl (by decide) (Nat.le_of_ble_eq_true rfl) (fun x21 => ?_)
      refine aw_if_ne 31 dX10_route_24 (by decide) ?_ ?_
      · refine aw_iload_n dX10_route_31 rfl ?_
        refine aw_iconst (0 : Int32) dX10_route_32 rfl ?_
        refine aw_iconst (2 : Int32) dX10_route_33 rfl ?_
        refine aw_cS3 puI dX10_route_34 (ctX10_within _ _ _) mcX10_within ml_X10_132 msX10_within rfl (by decide) (Nat.le_of_ble_eq_true rfl) (fun x34 => ?_)
        refine aw_if_eq 57 dX10_route_37 (by decide) ?_ ?_
        · refine aw_sipush (-1002 : Int32) dX10_route_57 rfl ?_
          exact aw_iret dX10_route_60 rfl
        · refine aw_iload dX10_route_40 rfl ?_
          refine aw_iconst (0 : Int32) dX10_route_42 rfl ?_
          refine aw_bipush (11 : Int32) dX10_route_43 rfl ?_
          refine aw_cS3 puI dX10_route_45 (ctX10_within _ _ _) mcX10_within ml_X10_132 msX10_within rfl (by decide) (Nat.le_of_ble_eq_true rfl) (fun x45 => ?_)
          refine aw_if_eq 57 dX10_route_48 (by decide) ?_ ?_
          · refine aw_sipush (-1002 : Int32) dX10_route_57 rfl ?_
            exact aw_iret dX10_route_60 rfl
          · refine aw_iload_n dX10_route_51 rfl ?_
            refine aw_iload dX10_route_52 rfl ?_
            refine aw_icmp_ne 61 dX10_route_54 (by decide) ?_ ?_
            · refine aw_aload_n dX10_route_61 rfl ?_
              refine aw_aload dX10_route_62 rfl ?_
              refine aw_iload_n dX10_route_64 rfl ?_
              refine aw_cV2 puV dX10_route_65 (fun o => ctX10_closeRoadsUnmet o _ _) mcX10_closeRoadsUnmet ml_X10_256 rfl rfl msX10_closeRoadsUnmet rfl (by decide) (Nat.le_of_ble_eq_true rfl) (fun _ => ?_)
              refine aw_aload_n dX10_route_68 rfl ?_
              refine aw_gA dX10_route_69 fl_X10_34 (fun x69 => ?_)
              refine aw_iload_n dX10_route_72 rfl ?_
              refine aw_iload dX10_route_73 rfl ?_
              refine aw_cV2 puI dX10_route_75 (fun o => ctX5_search o _ _) mcX5_search ml_X10_259 rfl rfl msX5_search rfl (by decide) (Nat.le_of_ble_eq_true rfl) (fun x75 => ?_)
              refine aw_if_ne 83 dX10_route_78 (by decide) ?_ ?_
              · refine aw_iload dX10_route_83 rfl ?_
                refine aw_if_ne 96 dX10_route_85 (by decide) ?_ ?_
                · refine aw_iload dX10_route_96 rfl ?_
                  refine aw_iconst (1 : Int32) dX10_route_98 rfl ?_
                  refine aw_icmp_ne 110 dX10_route_99 (by decide) ?_ ?_
                  · refine aw_aload_n dX10_route_110 rfl ?_
                    refine aw_gA dX10_route_111 fl_X10_34 (fun x111 => ?_)
                    refine aw_iload dX10_route_114 rfl ?_
                    refine aw_iconst (2 : Int32) dX10_route_116 rfl ?_
                    refine aw_isub dX10_route_117 ?_
                    refine aw_cV1 puI dX10_route_118 (fun o => ctX5_wayRoad o _) mcX5_wayRoad ml_X10_268 rfl rfl msX5_wayRoad rfl (by decide) (Nat.le_of_ble_eq_true rfl) (fun x118 => ?_)
                    exact aw_iret dX10_route_121 rfl
                  · refine aw_aload_n dX10_route_102 rfl ?_
                    refine aw_gA dX10_route_103 fl_X10_34 (fun x103 => ?_)
                    refine aw_gI dX10_route_106 fl_X10_265 (fun x106 => ?_)
                    exact aw_iret dX10_route_109 rfl
                · refine aw_aload_n dX10_route_88 rfl ?_
                  refine aw_gA dX10_route_89 fl_X10_34 (fun x89 => ?_)
                  refine aw_gI dX10_route_92 fl_X10_262 (fun x92 => ?_)
                  exact aw_iret dX10_route_95 rfl
              · refine aw_iconst (-1 : Int32) dX10_route_81 rfl ?_
                exact aw_iret dX10_route_82 rfl
            · refine aw_sipush (-1002 : Int32) dX10_route_57 rfl ?_
              exact aw_iret dX10_route_60 rfl
      · refine aw_sipush (-1001 : Int32) dX10_route_27 rfl ?_
        exact aw_iret dX10_route_30 rfl
set_option maxRecDepth 20000 in
theorem ctX10_rule (t : Nat) (v1 : Int32) (v2 : Int32) (v3 : Int32) : Ct yX10_rule cX10_rule mX10_rule qI [vr (some t), vi v1, vi v2, vi v3] (pX10_rule t v1 v2 v3) := by
  refine ct_go rfl rfl (fun h9 => by cases h9) (Nat.le_of_ble_eq_true rfl) (fun C res => ?_)
  refine aw_aload_n dX10_rule_0 rfl ?_
  refine aw_iload_n dX10_rule_1 rfl ?_
  refine aw_cV1 puA dX10_rule_2 (fun o => ctX10_bridgeAt o _) mcX10_bridgeAt ml_X10_104 rfl rfl msX10_bridgeAt rfl (by decide) (Nat.le_of_ble_eq_true rfl) (fun x2 => ?_)
  refine aw_astore dX10_rule_5 (by decide) ?_
  refine aw_aload dX10_rule_7 rfl ?_
  refine aw_ifnonnull 16 dX10_rule_9 (by decide) ?_ ?_
  · refine aw_iload_n dX10_rule_16 rfl ?_
    refine aw_iconst (0 : Int32) dX10_rule_17 rfl ?_
    refine aw_iconst (2 : Int32) dX10_rule_18 rfl ?_
    refine aw_cS3 puI dX10_rule_19 (ctX10_within _ _ _) mcX10_within ml_X10_132 msX10_within rfl (by decide) (Nat.le_of_ble_eq_true rfl) (fun x19 => ?_)
    refine aw_if_eq 42 dX10_rule_22 (by decide) ?_ ?_
    · refine aw_sipush (-1002 : Int32) dX10_rule_42 rfl ?_
      exact aw_iret dX10_rule_45 rfl
    · refine aw_iload_n dX10_rule_25 rfl ?_
      refine aw_tab (k := 0) rfl (fun _ _ h9 => h9.1) fs_X10_154 dX10_rule_26 dX10_rule_29 dX10_rule_30 (fun x26 => ?_)
      refine aw_tab (k := 0) rfl (fun _ _ h9 => h9.2) fs_X10_157 dX10_rule_31 dX10_rule_34 dX10_rule_35 (fun x31 => ?_)
      refine aw_cS3 puI dX10_rule_36 (ctX10_within _ _ _) mcX10_within ml_X10_132 msX10_within rfl (by decide) (Nat.le_of_ble_eq_true rfl) (fun x36 => ?_)
      refine aw_if_ne 46 dX10_rule_39 (by decide) ?_ ?_
      · refine aw_aload dX10_rule_46 rfl ?_
        refine aw_gA dX10_rule_48 fl_X10_120 (fun x48 => ?_)
        refine aw_iload_n dX10_rule_51 rfl ?_
        refine aw_iald dX10_rule_52 (fun x52 => ?_)
        refine aw_istore dX10_rule_53 (by decide) ?_
        refine aw_aload dX10_rule_55 rfl ?_
        refine aw_gA dX10_rule_57 fl_X10_120 (fun x57 => ?_)
        refine aw_iload_n dX10_rule_60 rfl ?_
        refine aw_iload_n dX10_rule_61 rfl ?_
        refine aw_iast dX10_rule_62 (fun _ => ?_)
        refine aw_iload dX10_rule_63 rfl ?_
        exact aw_iret dX10_rule_65 rfl
      · refine aw_sipush (-1002 : Int32) dX10_rule_42 rfl ?_
        exact aw_iret dX10_rule_45 rfl
  · refine aw_sipush (-1001 : Int32) dX10_rule_12 rfl ?_
    exact aw_iret dX10_rule_15 rfl
set_option maxRecDepth 20000 in
theorem abX8_copySpread_39 {C : Cx} {res : Unit × Hp}  {k10 : Nat → Option Nat → Int32 → Int32 → Mo Unit} (h10 : ∀ (t : Nat) (v1 : Option Nat) (v2 : Int32) (v3 : Int32), AW C cX8_copySpread mX8_copySpread qV res 10 [vr (some t), vr v1, vi v2, vi v3] [] (k10 t v1 v2 v3)) : ∀ (t : Nat) (v1 : Option Nat) (v2 : Int32) (v3 : Int32) (s0 : Option Nat) (s1 : Int32) (s2 : Int32), AW C cX8_copySpread mX8_copySpread qV res 39 [vr (some t), vr v1, vi v2, vi v3] [vi s2, vi s1, vr s0] (bX8_copySpread_39  k10 t v1 v2 v3 s0 s1 s2) := by
  intro t v1 v2 v3 s0 s1 s2
  refine aw_iast dX8_copySpread_39 (fun _ => ?_)
  refine aw_aload_n dX8_copySpread_40 rfl ?_
  refine aw_gA dX8_copySpread_41 fl_X8_9 (fun x41 => ?_)
  refine aw_iload_n dX8_copySpread_44 rfl ?_
  refine aw_aload_n dX8_copySpread_45 rfl ?_
  refine aw_gA dX8_copySpread_46 fl_X8_9 (fun x46 => ?_)
  refine aw_iload_n dX8_copySpread_49 rfl ?_
  refine aw_iald dX8_copySpread_50 (fun x50 => ?_)
  refine aw_iast dX8_copySpread_51 (fun _ => ?_)
  refine aw_iinc (v3 + (1 : Int32)) dX8_copySpread_52 rfl rfl (by decide) ?_
  refine aw_goto 10 dX8_copySpread_55 (by decide) ?_
  refine aw_msk [true, true, true, true] ?_
  exact h10 t v1 v2 ((v3 + (1 : Int32)))
set_option maxRecDepth 20000 in
theorem abX8_copySpread_10 {C : Cx} {res : Unit × Hp}  {k10 : Nat → Option Nat → Int32 → Int32 → Mo Unit} (h10 : ∀ (t : Nat) (v1 : Option Nat) (v2 : Int32) (v3 : Int32), AW C cX8_copySpread mX8_copySpread qV res 10 [vr (some t), vr v1, vi v2, vi v3] [] (k10 t v1 v2 v3)) : ∀ (t : Nat) (v1 : Option Nat) (v2 : Int32) (v3 : Int32), AW C cX8_copySpread mX8_copySpread qV res 10 [vr (some t), vr v1, vi v2, vi v3] [] (bX8_copySpread_10  k10 t v1 v2 v3) := by
  intro t v1 v2 v3
  refine aw_iload_n dX8_copySpread_10 rfl ?_
  refine aw_aload_n dX8_copySpread_11 rfl ?_
  refine aw_gI dX8_copySpread_12 fl_X8_18 (fun x12 => ?_)
  refine aw_icmp_ge 58 dX8_copySpread_15 (by decide) ?_ ?_
  · exact aw_vret dX8_copySpread_58 rfl
  · refine aw_aload_n dX8_copySpread_18 rfl ?_
    refine aw_gA dX8_copySpread_19 fl_X8_15 (fun x19 => ?_)
    refine aw_iload_n dX8_copySpread_22 rfl ?_
    refine aw_iload_n dX8_copySpread_23 rfl ?_
    refine aw_if_ne 31 dX8_copySpread_24 (by decide) ?_ ?_
    · refine aw_aload_n dX8_copySpread_31 rfl ?_
      refine aw_gA dX8_copySpread_32 fl_X8_15 (fun x32 => ?_)
      refine aw_iload_n dX8_copySpread_35 rfl ?_
      refine aw_iald dX8_copySpread_36 (fun x36 => ?_)
      refine aw_iload_n dX8_copySpread_37 rfl ?_
      refine aw_iadd dX8_copySpread_38 ?_
      refine aw_msk [true, true, true, true] ?_
      exact abX8_copySpread_39  h10 t v1 v2 v3 x19 v3 ((x36 + v2))
    · refine aw_iconst (0 : Int32) dX8_copySpread_27 rfl ?_
      refine aw_goto 39 dX8_copySpread_28 (by decide) ?_
      refine aw_msk [true, true, true, true] ?_
      exact abX8_copySpread_39  h10 t v1 v2 v3 x19 v3 ((0 : Int32))
theorem afX8_copySpread_10 {C : Cx} {res : Unit × Hp}   : ∀ (n : Nat) (t : Nat) (v1 : Option Nat) (v2 : Int32) (v3 : Int32), AW C cX8_copySpread mX8_copySpread qV res 10 [vr (some t), vr v1, vi v2, vi v3] [] (fX8_copySpread_10   n t v1 v2 v3)
  | 0, _, _, _, _ => aw_fl
  | n + 1, t, v1, v2, v3 => abX8_copySpread_10  (fun t v1 v2 v3 => afX8_copySpread_10   n t v1 v2 v3) t v1 v2 v3
set_option maxRecDepth 20000 in
theorem ctX8_copySpread (t : Nat) (v1 : Option Nat) (v2 : Int32) : Ct yX8_copySpread cX8_copySpread mX8_copySpread qV [vr (some t), vr v1, vi v2] (pX8_copySpread t v1 v2) := by
  refine ct_go rfl rfl (fun h9 => by cases h9) (Nat.le_of_ble_eq_true rfl) (fun C res => ?_)
  refine aw_aload_n dX8_copySpread_0 rfl ?_
  refine aw_aload_n dX8_copySpread_1 rfl ?_
  refine aw_gI dX8_copySpread_2 fl_X8_18 (fun x2 => ?_)
  refine aw_pI dX8_copySpread_5 pl_X8_18 (fun _ => ?_)
  refine aw_iconst (0 : Int32) dX8_copySpread_8 rfl ?_
  refine aw_istore_n dX8_copySpread_9 (by decide) ?_
  refine aw_msk [true, true, true, true] ?_
  exact afX8_copySpread_10   FU t v1 v2 ((0 : Int32))
set_option maxRecDepth 20000 in
theorem abX10_spread_62 {C : Cx} {res : Int32 × Hp}  {k62 : Nat → Option Nat → Option Nat → Int32 → Mo Int32} (h62 : ∀ (t : Nat) (v4 : Option Nat) (v5 : Option Nat) (v6 : Int32), AW C cX10_spread mX10_spread qI res 62 [vr (some t), vu, vu, vu, vr v4, vr v5, vi v6] [] (k62 t v4 v5 v6)) : ∀ (t : Nat) (v4 : Option Nat) (v5 : Option Nat) (v6 : Int32), AW C cX10_spread mX10_spread qI res 62 [vr (some t), vu, vu, vu, vr v4, vr v5, vi v6] [] (bX10_spread_62  k62 t v4 v5 v6) := by
  intro t v4 v5 v6
  refine aw_iload dX10_spread_62 rfl ?_
  refine aw_bipush (20 : Int32) dX10_spread_64 rfl ?_
  refine aw_icmp_gt 105 dX10_spread_66 (by decide) ?_ ?_
  · refine aw_iconst (-1 : Int32) dX10_spread_105 rfl ?_
    exact aw_iret dX10_spread_106 rfl
  · refine aw_aload_n dX10_spread_69 rfl ?_
    refine aw_gA dX10_spread_70 fl_X10_81 (fun x70 => ?_)
    refine aw_aload dX10_spread_73 rfl ?_
    refine aw_iload dX10_spread_75 rfl ?_
    refine aw_cV2 puV dX10_spread_77 (fun o => ctX8_copySpread o _ _) mcX8_copySpread ml_X10_242 rfl rfl msX8_copySpread rfl (by decide) (Nat.le_of_ble_eq_true rfl) (fun _ => ?_)
    refine aw_aload_n dX10_spread_80 rfl ?_
    refine aw_gA dX10_spread_81 fl_X10_69 (fun x81 => ?_)
    refine aw_aload dX10_spread_84 rfl ?_
    refine aw_aload_n dX10_spread_86 rfl ?_
    refine aw_gA dX10_spread_87 fl_X10_81 (fun x87 => ?_)
    refine aw_cV2 puI dX10_spread_90 (fun o => ctX3_allMet o _ _) mcX3_allMet ml_X10_238 rfl rfl msX3_allMet rfl (by decide) (Nat.le_of_ble_eq_true rfl) (fun x90 => ?_)
    refine aw_if_eq 99 dX10_spread_93 (by decide) ?_ ?_
    · refine aw_iinc (v6 + (1 : Int32)) dX10_spread_99 rfl rfl (by decide) ?_
      refine aw_goto 62 dX10_spread_102 (by decide) ?_
      refine aw_msk [true, false, false, false, true, true, true] ?_
      exact h62 t v4 v5 ((v6 + (1 : Int32)))
    · refine aw_iload dX10_spread_96 rfl ?_
      exact aw_iret dX10_spread_98 rfl
theorem afX10_spread_62 {C : Cx} {res : Int32 × Hp}   : ∀ (n : Nat) (t : Nat) (v4 : Option Nat) (v5 : Option Nat) (v6 : Int32), AW C cX10_spread mX10_spread qI res 62 [vr (some t), vu, vu, vu, vr v4, vr v5, vi v6] [] (fX10_spread_62   n t v4 v5 v6)
  | 0, _, _, _, _ => aw_fl
  | n + 1, t, v4, v5, v6 => abX10_spread_62  (fun t v4 v5 v6 => afX10_spread_62   n t v4 v5 v6) t v4 v5 v6
set_option maxRecDepth 20000 in
theorem ctX10_spread (t : Nat) (v1 : Int32) (v2 : Int32) (v3 : Int32) : Ct yX10_spread cX10_spread mX10_spread qI [vr (some t), vi v1, vi v2, vi v3] (pX10_spread t v1 v2 v3) := by
  refine ct_go rfl rfl (fun h9 => by cases h9) (Nat.le_of_ble_eq_true rfl) (fun C res => ?_)
  refine aw_aload_n dX10_spread_0 rfl ?_
  refine aw_iload_n dX10_spread_1 rfl ?_
  refine aw_cV1 puA dX10_spread_2 (fun o => ctX10_bridgeAt o _) mcX10_bridgeAt ml_X10_104 rfl rfl msX10_bridgeAt rfl (by decide) (Nat.le_of_ble_eq_true rfl) (fun x2 => ?_)
  refine aw_astore dX10_spread_5 (by decide) ?_
  refine aw_aload_n dX10_spread_7 rfl ?_
  refine aw_iload_n dX10_spread_8 rfl ?_
  refine aw_cV1 puA dX10_spread_9 (fun o => ctX10_trainAt o _) mcX10_trainAt ml_X10_163 rfl rfl msX10_trainAt rfl (by decide) (Nat.le_of_ble_eq_true rfl) (fun x9 => ?_)
  refine aw_astore dX10_spread_12 (by decide) ?_
  refine aw_aload dX10_spread_14 rfl ?_
  refine aw_ifnull 24 dX10_spread_16 (by decide) ?_ ?_
  · refine aw_sipush (-1001 : Int32) dX10_spread_24 rfl ?_
    exact aw_iret dX10_spread_27 rfl
  · refine aw_aload dX10_spread_19 rfl ?_
    refine aw_ifnonnull 28 dX10_spread_21 (by decide) ?_ ?_
    · refine aw_iload_n dX10_spread_28 rfl ?_
      refine aw_iconst (0 : Int32) dX10_spread_29 rfl ?_
      refine aw_iconst (2 : Int32) dX10_spread_30 rfl ?_
      refine aw_cS3 puI dX10_spread_31 (ctX10_within _ _ _) mcX10_within ml_X10_132 msX10_within rfl (by decide) (Nat.le_of_ble_eq_true rfl) (fun x31 => ?_)
      refine aw_if_ne 41 dX10_spread_34 (by decide) ?_ ?_
      · refine aw_aload_n dX10_spread_41 rfl ?_
        refine aw_gA dX10_spread_42 fl_X10_69 (fun x42 => ?_)
        refine aw_aload dX10_spread_45 rfl ?_
        refine aw_aload_n dX10_spread_47 rfl ?_
        refine aw_aload_n dX10_spread_48 rfl ?_
        refine aw_gI dX10_spread_49 fl_X10_28 (fun x49 => ?_)
        refine aw_cV1 puA dX10_spread_52 (fun o => ctX10_trainAt o _) mcX10_trainAt ml_X10_163 rfl rfl msX10_trainAt rfl (by decide) (Nat.le_of_ble_eq_true rfl) (fun x52 => ?_)
        refine aw_iload_n dX10_spread_55 rfl ?_
        refine aw_cV3 puV dX10_spread_56 (fun o => ctX3_prepare o _ _ _) mcX3_prepare ml_X10_218 rfl rfl msX3_prepare rfl (by decide) (Nat.le_of_ble_eq_true rfl) (fun _ => ?_)
        refine aw_iconst (0 : Int32) dX10_spread_59 rfl ?_
        refine aw_istore dX10_spread_60 (by decide) ?_
        refine aw_msk [true, false, false, false, true, true, true] ?_
        exact afX10_spread_62   FU t x2 x9 ((0 : Int32))
      · refine aw_sipush (-1002 : Int32) dX10_spread_37 rfl ?_
        exact aw_iret dX10_spread_40 rfl
    · refine aw_sipush (-1001 : Int32) dX10_spread_24 rfl ?_
      exact aw_iret dX10_spread_27 rfl
set_option maxRecDepth 20000 in
theorem ctX10_told (t : Nat) (v1 : Int32) (v2 : Int32) : Ct yX10_told cX10_told mX10_told qI [vr (some t), vi v1, vi v2] (pX10_told t v1 v2) := by
  refine ct_go rfl rfl (fun h9 => by cases h9) (Nat.le_of_ble_eq_true rfl) (fun C res => ?_)
  refine aw_aload_n dX10_told_0 rfl ?_
  refine aw_iload_n dX10_told_1 rfl ?_
  refine aw_cV1 puA dX10_told_2 (fun o => ctX10_bridgeAt o _) mcX10_bridgeAt ml_X10_104 rfl rfl msX10_bridgeAt rfl (by decide) (Nat.le_of_ble_eq_true rfl) (fun x2 => ?_)
  refine aw_astore_n dX10_told_5 (by decide) ?_
  refine aw_aload_n dX10_told_6 rfl ?_
  refine aw_ifnonnull 14 dX10_told_7 (by decide) ?_ ?_
  · refine aw_iload_n dX10_told_14 rfl ?_
    refine aw_sws 98 [56, 61, 67, 72, 77, 84, 91] dX10_told_15 rfl (Nat.le_of_ble_eq_true rfl) (by decide) (by decide) rfl ?_ ⟨?_, ?_, ?_, ?_, ?_, ?_, ?_, trivial⟩
    · refine aw_sipush (-1002 : Int32) dX10_told_98 rfl ?_
      exact aw_iret dX10_told_101 rfl
    · refine aw_aload_n dX10_told_56 rfl ?_
      refine aw_gI dX10_told_57 fl_X10_108 (fun x57 => ?_)
      exact aw_iret dX10_told_60 rfl
    · refine aw_aload_n dX10_told_61 rfl ?_
      refine aw_gA dX10_told_62 fl_X10_111 (fun x62 => ?_)
      refine aw_aln dX10_told_65 (fun x65 => ?_)
      exact aw_iret dX10_told_66 rfl
    · refine aw_aload_n dX10_told_67 rfl ?_
      refine aw_gI dX10_told_68 fl_X10_114 (fun x68 => ?_)
      exact aw_iret dX10_told_71 rfl
    · refine aw_aload_n dX10_told_72 rfl ?_
      refine aw_gI dX10_told_73 fl_X10_117 (fun x73 => ?_)
      exact aw_iret dX10_told_76 rfl
    · refine aw_aload_n dX10_told_77 rfl ?_
      refine aw_gA dX10_told_78 fl_X10_120 (fun x78 => ?_)
      refine aw_iconst (0 : Int32) dX10_told_81 rfl ?_
      refine aw_iald dX10_told_82 (fun x82 => ?_)
      exact aw_iret dX10_told_83 rfl
    · refine aw_aload_n dX10_told_84 rfl ?_
      refine aw_gA dX10_told_85 fl_X10_120 (fun x85 => ?_)
      refine aw_iconst (1 : Int32) dX10_told_88 rfl ?_
      refine aw_iald dX10_told_89 (fun x89 => ?_)
      exact aw_iret dX10_told_90 rfl
    · refine aw_aload_n dX10_told_91 rfl ?_
      refine aw_gA dX10_told_92 fl_X10_120 (fun x92 => ?_)
      refine aw_iconst (2 : Int32) dX10_told_95 rfl ?_
      refine aw_iald dX10_told_96 (fun x96 => ?_)
      exact aw_iret dX10_told_97 rfl
  · refine aw_sipush (-1001 : Int32) dX10_told_10 rfl ?_
    exact aw_iret dX10_told_13 rfl
set_option maxRecDepth 20000 in
theorem abX10_total_22 {C : Cx} {res : Int64 × Hp}   : ∀ (t : Nat) (v2 : Int32) (v3 : Int32) (v4 : Int32) (v5 : Int32) (v6 : Int32) (v7 : Option Nat) (s0 : Option Nat), AW C cX10_total mX10_total qL res 22 [vr (some t), vu, vi v2, vi v3, vi v4, vi v5, vi v6, vr v7, vu, vu] [vr s0] (bX10_total_22   t v2 v3 v4 v5 v6 v7 s0) := by
  intro t v2 v3 v4 v5 v6 v7 s0
  refine aw_astore dX10_total_22 (by decide) ?_
  refine aw_aload_n dX10_total_24 rfl ?_
  refine aw_iload_n dX10_total_25 rfl ?_
  refine aw_cV1 puA dX10_total_26 (fun o => ctX10_trainAt o _) mcX10_trainAt ml_X10_163 rfl rfl msX10_trainAt rfl (by decide) (Nat.le_of_ble_eq_true rfl) (fun x26 => ?_)
  refine aw_astore dX10_total_29 (by decide) ?_
  refine aw_aload dX10_total_31 rfl ?_
  refine aw_ifnull 46 dX10_total_33 (by decide) ?_ ?_
  · refine aw_ldc2 dX10_total_46 cj_X10_127 ?_
    exact aw_lret dX10_total_49 rfl
  · refine aw_aload dX10_total_36 rfl ?_
    refine aw_ifnull 46 dX10_total_38 (by decide) ?_ ?_
    · refine aw_ldc2 dX10_total_46 cj_X10_127 ?_
      exact aw_lret dX10_total_49 rfl
    · refine aw_aload dX10_total_41 rfl ?_
      refine aw_ifnonnull 50 dX10_total_43 (by decide) ?_ ?_
      · refine aw_iload dX10_total_50 rfl ?_
        refine aw_iconst (0 : Int32) dX10_total_52 rfl ?_
        refine aw_iconst (2 : Int32) dX10_total_53 rfl ?_
        refine aw_cS3 puI dX10_total_54 (ctX10_within _ _ _) mcX10_within ml_X10_132 msX10_within rfl (by decide) (Nat.le_of_ble_eq_true rfl) (fun x54 => ?_)
        refine aw_if_eq 80 dX10_total_57 (by decide) ?_ ?_
        · refine aw_ldc2 dX10_total_80 cj_X10_136 ?_
          exact aw_lret dX10_total_83 rfl
        · refine aw_iload dX10_total_60 rfl ?_
          refine aw_iconst (0 : Int32) dX10_total_62 rfl ?_
          refine aw_iconst (1 : Int32) dX10_total_63 rfl ?_
          refine aw_cS3 puI dX10_total_64 (ctX10_within _ _ _) mcX10_within ml_X10_132 msX10_within rfl (by decide) (Nat.le_of_ble_eq_true rfl) (fun x64 => ?_)
          refine aw_if_eq 80 dX10_total_67 (by decide) ?_ ?_
          · refine aw_ldc2 dX10_total_80 cj_X10_136 ?_
            exact aw_lret dX10_total_83 rfl
          · refine aw_iload dX10_total_70 rfl ?_
            refine aw_iconst (0 : Int32) dX10_total_72 rfl ?_
            refine aw_iconst (1 : Int32) dX10_total_73 rfl ?_
            refine aw_cS3 puI dX10_total_74 (ctX10_within _ _ _) mcX10_within ml_X10_132 msX10_within rfl (by decide) (Nat.le_of_ble_eq_true rfl) (fun x74 => ?_)
            refine aw_if_ne 84 dX10_total_77 (by decide) ?_ ?_
            · refine aw_aload_n dX10_total_84 rfl ?_
              refine aw_gA dX10_total_85 fl_X10_69 (fun x85 => ?_)
              refine aw_aload dX10_total_88 rfl ?_
              refine aw_aload_n dX10_total_90 rfl ?_
              refine aw_aload_n dX10_total_91 rfl ?_
              refine aw_gI dX10_total_92 fl_X10_28 (fun x92 => ?_)
              refine aw_cV1 puA dX10_total_95 (fun o => ctX10_trainAt o _) mcX10_trainAt ml_X10_163 rfl rfl msX10_trainAt rfl (by decide) (Nat.le_of_ble_eq_true rfl) (fun x95 => ?_)
              refine aw_iload dX10_total_98 rfl ?_
              refine aw_cV3 puV dX10_total_100 (fun o => ctX3_prepare o _ _ _) mcX3_prepare ml_X10_218 rfl rfl msX3_prepare rfl (by decide) (Nat.le_of_ble_eq_true rfl) (fun _ => ?_)
              refine aw_aload_n dX10_total_103 rfl ?_
              refine aw_gA dX10_total_104 fl_X10_62 (fun x104 => ?_)
              refine aw_aload dX10_total_107 rfl ?_
              refine aw_gA dX10_total_109 fl_X10_203 (fun x109 => ?_)
              refine aw_aload dX10_total_112 rfl ?_
              refine aw_aload_n dX10_total_114 rfl ?_
              refine aw_gA dX10_total_115 fl_X10_55 (fun x115 => ?_)
              refine aw_cV3 puV dX10_total_118 (fun o => ctX2_find o _ _ _) mcX2_find ml_X10_184 rfl rfl msX2_find rfl (by decide) (Nat.le_of_ble_eq_true rfl) (fun _ => ?_)
              refine aw_aload_n dX10_total_121 rfl ?_
              refine aw_gA dX10_total_122 fl_X10_69 (fun x122 => ?_)
              refine aw_iload_n dX10_total_125 rfl ?_
              refine aw_iload dX10_total_126 rfl ?_
              refine aw_aload_n dX10_total_128 rfl ?_
              refine aw_gA dX10_total_129 fl_X10_62 (fun x129 => ?_)
              refine aw_gA dX10_total_132 fl_X10_194 (fun x132 => ?_)
              refine aw_iload dX10_total_135 rfl ?_
              refine aw_lald dX10_total_137 (fun x137 => ?_)
              refine aw_cV3 puL dX10_total_138 (fun o => ctX3_totalOf o _ _ _) mcX3_totalOf ml_X10_222 rfl rfl msX3_totalOf rfl (by decide) (Nat.le_of_ble_eq_true rfl) (fun x138 => ?_)
              refine aw_aload dX10_total_141 rfl ?_
              refine aw_cV0 puL dX10_total_143 (fun o => ctX1_totalLower o ) mcX1_totalLower ml_X10_226 rfl rfl msX1_totalLower rfl (by decide) (Nat.le_of_ble_eq_true rfl) (fun x143 => ?_)
              refine aw_iload dX10_total_146 rfl ?_
              refine aw_cS3 puL dX10_total_148 (ctX10_partOf _ _ _) mcX10_partOf ml_X10_150 msX10_partOf rfl (by decide) (Nat.le_of_ble_eq_true rfl) (fun x148 => ?_)
              exact aw_lret dX10_total_151 rfl
            · refine aw_ldc2 dX10_total_80 cj_X10_136 ?_
              exact aw_lret dX10_total_83 rfl
      · refine aw_ldc2 dX10_total_46 cj_X10_127 ?_
        exact aw_lret dX10_total_49 rfl
set_option maxRecDepth 20000 in
theorem ctX10_total (t : Nat) (v1 : Int32) (v2 : Int32) (v3 : Int32) (v4 : Int32) (v5 : Int32) (v6 : Int32) : Ct yX10_total cX10_total mX10_total qL [vr (some t), vi v1, vi v2, vi v3, vi v4, vi v5, vi v6] (pX10_total t v1 v2 v3 v4 v5 v6) := by
  refine ct_go rfl rfl (fun h9 => by cases h9) (Nat.le_of_ble_eq_true rfl) (fun C res => ?_)
  refine aw_aload_n dX10_total_0 rfl ?_
  refine aw_iload_n dX10_total_1 rfl ?_
  refine aw_cV1 puA dX10_total_2 (fun o => ctX10_bridgeAt o _) mcX10_bridgeAt ml_X10_104 rfl rfl msX10_bridgeAt rfl (by decide) (Nat.le_of_ble_eq_true rfl) (fun x2 => ?_)
  refine aw_astore dX10_total_5 (by decide) ?_
  refine aw_aload dX10_total_7 rfl ?_
  refine aw_ifnonnull 16 dX10_total_9 (by decide) ?_ ?_
  · refine aw_aload dX10_total_16 rfl ?_
    refine aw_iload_n dX10_total_18 rfl ?_
    refine aw_cV1 puA dX10_total_19 (fun o => ctX0_checkAt o _) mcX0_checkAt ml_X10_208 rfl rfl msX0_checkAt rfl (by decide) (Nat.le_of_ble_eq_true rfl) (fun x19 => ?_)
    refine aw_msk [true, false, true, true, true, true, true, true, false, false] ?_
    exact abX10_total_22   t v2 v3 v4 v5 v6 x2 x19
  · refine aw_null dX10_total_12 ?_
    refine aw_goto 22 dX10_total_13 (by decide) ?_
    refine aw_msk [true, false, true, true, true, true, true, true, false, false] ?_
    exact abX10_total_22   t v2 v3 v4 v5 v6 x2 none
set_option maxRecDepth 20000 in
theorem ctX10_traffic (t : Nat) (v1 : Int32) (v2 : Int32) : Ct yX10_traffic cX10_traffic mX10_traffic qI [vr (some t), vi v1, vi v2] (pX10_traffic t v1 v2) := by
  refine ct_go rfl rfl (fun h9 => by cases h9) (Nat.le_of_ble_eq_true rfl) (fun C res => ?_)
  refine aw_aload_n dX10_traffic_0 rfl ?_
  refine aw_iload_n dX10_traffic_1 rfl ?_
  refine aw_cV1 puA dX10_traffic_2 (fun o => ctX10_trainAt o _) mcX10_trainAt ml_X10_163 rfl rfl msX10_trainAt rfl (by decide) (Nat.le_of_ble_eq_true rfl) (fun x2 => ?_)
  refine aw_astore_n dX10_traffic_5 (by decide) ?_
  refine aw_aload_n dX10_traffic_6 rfl ?_
  refine aw_ifnonnull 14 dX10_traffic_7 (by decide) ?_ ?_
  · refine aw_iload_n dX10_traffic_14 rfl ?_
    refine aw_iconst (0 : Int32) dX10_traffic_15 rfl ?_
    refine aw_sipush (1000 : Int32) dX10_traffic_16 rfl ?_
    refine aw_cS3 puI dX10_traffic_19 (ctX10_within _ _ _) mcX10_within ml_X10_132 msX10_within rfl (by decide) (Nat.le_of_ble_eq_true rfl) (fun x19 => ?_)
    refine aw_if_ne 29 dX10_traffic_22 (by decide) ?_ ?_
    · refine aw_aload_n dX10_traffic_29 rfl ?_
      refine aw_gI dX10_traffic_30 fl_X10_295 (fun x30 => ?_)
      refine aw_istore dX10_traffic_33 (by decide) ?_
      refine aw_aload_n dX10_traffic_35 rfl ?_
      refine aw_iload_n dX10_traffic_36 rfl ?_
      refine aw_pI dX10_traffic_37 pl_X10_295 (fun _ => ?_)
      refine aw_iload dX10_traffic_40 rfl ?_
      exact aw_iret dX10_traffic_42 rfl
    · refine aw_sipush (-1002 : Int32) dX10_traffic_25 rfl ?_
      exact aw_iret dX10_traffic_28 rfl
  · refine aw_sipush (-1001 : Int32) dX10_traffic_10 rfl ?_
    exact aw_iret dX10_traffic_13 rfl
set_option maxRecDepth 20000 in
theorem ctX10_train (t : Nat) (v1 : Int32) : Ct yX10_train cX10_train mX10_train qI [vr (some t), vi v1] (pX10_train t v1) := by
  refine ct_go rfl rfl (fun h9 => by cases h9) (Nat.le_of_ble_eq_true rfl) (fun C res => ?_)
  refine aw_iload_n dX10_train_0 rfl ?_
  refine aw_iconst (1 : Int32) dX10_train_1 rfl ?_
  refine aw_sipush (200 : Int32) dX10_train_2 rfl ?_
  refine aw_cS3 puI dX10_train_5 (ctX10_within _ _ _) mcX10_within ml_X10_132 msX10_within rfl (by decide) (Nat.le_of_ble_eq_true rfl) (fun x5 => ?_)
  refine aw_if_ne 15 dX10_train_8 (by decide) ?_ ?_
  · refine aw_aload_n dX10_train_15 rfl ?_
    refine aw_gI dX10_train_16 fl_X10_25 (fun x16 => ?_)
    refine aw_bipush (8 : Int32) dX10_train_19 rfl ?_
    refine aw_icmp_lt 28 dX10_train_21 (by decide) ?_ ?_
    · refine aw_new dX10_train_28 rfl rfl cl_X10_19 (by decide +kernel) (fun x28 => ?_)
      refine aw_dup dX10_train_31 rfl ?_
      refine aw_cI0 dX10_train_32 (fun o => ctX8_init o ) mcX8_init ml_X10_80 rfl rfl msX8_init rfl (by decide) (Nat.le_of_ble_eq_true rfl) (fun _ => ?_)
      refine aw_astore_n dX10_train_35 (by decide) ?_
      refine aw_aload_n dX10_train_36 rfl ?_
      refine aw_iconst (0 : Int32) dX10_train_37 rfl ?_
      refine aw_iload_n dX10_train_38 rfl ?_
      refine aw_cV2 puI dX10_train_39 (fun o => ctX8_couple o _ _) mcX8_couple ml_X10_160 rfl rfl msX8_couple rfl (by decide) (Nat.le_of_ble_eq_true rfl) (fun x39 => ?_)
      refine aw_pop dX10_train_42 rfl ?_
      refine aw_aload_n dX10_train_43 rfl ?_
      refine aw_gA dX10_train_44 fl_X10_21 (fun x44 => ?_)
      refine aw_aload_n dX10_train_47 rfl ?_
      refine aw_gI dX10_train_48 fl_X10_25 (fun x48 => ?_)
      refine aw_aload_n dX10_train_51 rfl ?_
      refine aw_aast 5 8 (fun _ => rfl) rfl dX10_train_52 (fun _ => ?_)
      refine aw_aload_n dX10_train_53 rfl ?_
      refine aw_dup dX10_train_54 rfl ?_
      refine aw_gI dX10_train_55 fl_X10_25 (fun x55 => ?_)
      refine aw_iconst (1 : Int32) dX10_train_58 rfl ?_
      refine aw_iadd dX10_train_59 ?_
      refine aw_pI dX10_train_60 pl_X10_25 (fun _ => ?_)
      refine aw_aload_n dX10_train_63 rfl ?_
      refine aw_gI dX10_train_64 fl_X10_25 (fun x64 => ?_)
      refine aw_iconst (1 : Int32) dX10_train_67 rfl ?_
      refine aw_isub dX10_train_68 ?_
      exact aw_iret dX10_train_69 rfl
    · refine aw_sipush (-1004 : Int32) dX10_train_24 rfl ?_
      exact aw_iret dX10_train_27 rfl
  · refine aw_sipush (-1002 : Int32) dX10_train_11 rfl ?_
    exact aw_iret dX10_train_14 rfl
set_option maxRecDepth 20000 in
theorem abX10_usual_17 {C : Cx} {res : Int32 × Hp}   : ∀ (t : Nat) (v1 : Int32), AW C cX10_usual mX10_usual qI res 17 [vr (some t), vi v1, vu] [] (bX10_usual_17   t v1) := by
  intro t v1
  refine aw_aload_n dX10_usual_17 rfl ?_
  refine aw_gI dX10_usual_18 fl_X10_28 (fun x18 => ?_)
  refine aw_istore_n dX10_usual_21 (by decide) ?_
  refine aw_aload_n dX10_usual_22 rfl ?_
  refine aw_iload_n dX10_usual_23 rfl ?_
  refine aw_pI dX10_usual_24 pl_X10_28 (fun _ => ?_)
  refine aw_iload_n dX10_usual_27 rfl ?_
  exact aw_iret dX10_usual_28 rfl
set_option maxRecDepth 20000 in
theorem ctX10_usual (t : Nat) (v1 : Int32) : Ct yX10_usual cX10_usual mX10_usual qI [vr (some t), vi v1] (pX10_usual t v1) := by
  refine ct_go rfl rfl (fun h9 => by cases h9) (Nat.le_of_ble_eq_true rfl) (fun C res => ?_)
  refine aw_iload_n dX10_usual_0 rfl ?_
  refine aw_iconst (-1 : Int32) dX10_usual_1 rfl ?_
  refine aw_icmp_eq 17 dX10_usual_2 (by decide) ?_ ?_
  · refine aw_msk [true, true, false] ?_
    exact abX10_usual_17   t v1
  · refine aw_aload_n dX10_usual_5 rfl ?_
    refine aw_iload_n dX10_usual_6 rfl ?_
    refine aw_cV1 puA dX10_usual_7 (fun o => ctX10_trainAt o _) mcX10_trainAt ml_X10_163 rfl rfl msX10_trainAt rfl (by decide) (Nat.le_of_ble_eq_true rfl) (fun x7 => ?_)
    refine aw_ifnonnull 17 dX10_usual_10 (by decide) ?_ ?_
    · refine aw_msk [true, true, false] ?_
      exact abX10_usual_17   t v1
    · refine aw_sipush (-1001 : Int32) dX10_usual_13 rfl ?_
      exact aw_iret dX10_usual_16 rfl
set_option maxRecDepth 20000 in
theorem ctX9_liesBetween (v0 : Int64) (v2 : Int64) (v4 : Int64) : Ct yX9_liesBetween cX9_liesBetween mX9_liesBetween qI [vl v0, vl v2, vl v4] (pX9_liesBetween v0 v2 v4) := by
  refine ct_go rfl rfl (fun h9 => by cases h9) (Nat.le_of_ble_eq_true rfl) (fun C res => ?_)
  refine aw_lload_n dX9_liesBetween_0 rfl ?_
  refine aw_lload_n dX9_liesBetween_1 rfl ?_
  refine aw_lload dX9_liesBetween_2 rfl ?_
  refine aw_mminL dX9_liesBetween_4 mk_X9_52 (by decide) (by decide) (Nat.le_of_ble_eq_true rfl) ?_
  refine aw_llt 26 dX9_liesBetween_7 dX9_liesBetween_8 (by decide) ?_ ?_
  · refine aw_iconst (0 : Int32) dX9_liesBetween_26 rfl ?_
    exact aw_zret dX9_liesBetween_27 rfl
  · refine aw_lload_n dX9_liesBetween_11 rfl ?_
    refine aw_lload_n dX9_liesBetween_12 rfl ?_
    refine aw_lload dX9_liesBetween_13 rfl ?_
    refine aw_mmaxL dX9_liesBetween_15 mk_X9_58 (by decide) (by decide) (Nat.le_of_ble_eq_true rfl) ?_
    refine aw_lgt 26 dX9_liesBetween_18 dX9_liesBetween_19 (by decide) ?_ ?_
    · refine aw_iconst (0 : Int32) dX9_liesBetween_26 rfl ?_
      exact aw_zret dX9_liesBetween_27 rfl
    · refine aw_iconst (1 : Int32) dX9_liesBetween_22 rfl ?_
      refine aw_goto 27 dX9_liesBetween_23 (by decide) ?_
      exact aw_zret dX9_liesBetween_27 rfl
set_option maxRecDepth 20000 in
theorem abX9_push_50 {C : Cx} {res : Unit × Hp}   : ∀ (t : Nat) (v1 : Int64), AW C cX9_push mX9_push qV res 50 [vr (some t), vl v1, vu] [] (bX9_push_50   t v1) := by
  intro t v1
  refine aw_aload_n dX9_push_50 rfl ?_
  refine aw_gI dX9_push_51 fl_X9_15 (fun x51 => ?_)
  refine aw_aload_n dX9_push_54 rfl ?_
  refine aw_gA dX9_push_55 fl_X9_9 (fun x55 => ?_)
  refine aw_aln dX9_push_58 (fun x58 => ?_)
  refine aw_icmp_ge 82 dX9_push_59 (by decide) ?_ ?_
  · exact aw_vret dX9_push_82 rfl
  · refine aw_aload_n dX9_push_62 rfl ?_
    refine aw_gA dX9_push_63 fl_X9_9 (fun x63 => ?_)
    refine aw_aload_n dX9_push_66 rfl ?_
    refine aw_gI dX9_push_67 fl_X9_15 (fun x67 => ?_)
    refine aw_lload_n dX9_push_70 rfl ?_
    refine aw_last dX9_push_71 (fun _ => ?_)
    refine aw_aload_n dX9_push_72 rfl ?_
    refine aw_dup dX9_push_73 rfl ?_
    refine aw_gI dX9_push_74 fl_X9_15 (fun x74 => ?_)
    refine aw_iconst (1 : Int32) dX9_push_77 rfl ?_
    refine aw_iadd dX9_push_78 ?_
    refine aw_pI dX9_push_79 pl_X9_15 (fun _ => ?_)
    exact aw_vret dX9_push_82 rfl
set_option maxRecDepth 20000 in
theorem abX9_push_0 {C : Cx} {res : Unit × Hp}  {k0 : Nat → Int64 → Mo Unit} (h0 : ∀ (t : Nat) (v1 : Int64), AW C cX9_push mX9_push qV res 0 [vr (some t), vl v1, vu] [] (k0 t v1)) : ∀ (t : Nat) (v1 : Int64), AW C cX9_push mX9_push qV res 0 [vr (some t), vl v1, vu] [] (bX9_push_0  k0 t v1) := by
  intro t v1
  refine aw_aload_n dX9_push_0 rfl ?_
  refine aw_gI dX9_push_1 fl_X9_15 (fun x1 => ?_)
  refine aw_iconst (2 : Int32) dX9_push_4 rfl ?_
  refine aw_icmp_lt 50 dX9_push_5 (by decide) ?_ ?_
  · refine aw_msk [true, true, false] ?_
    exact abX9_push_50   t v1
  · refine aw_aload_n dX9_push_8 rfl ?_
    refine aw_gA dX9_push_9 fl_X9_9 (fun x9 => ?_)
    refine aw_aload_n dX9_push_12 rfl ?_
    refine aw_gI dX9_push_13 fl_X9_15 (fun x13 => ?_)
    refine aw_iconst (1 : Int32) dX9_push_16 rfl ?_
    refine aw_isub dX9_push_17 ?_
    refine aw_lald dX9_push_18 (fun x18 => ?_)
    refine aw_aload_n dX9_push_19 rfl ?_
    refine aw_gA dX9_push_20 fl_X9_9 (fun x20 => ?_)
    refine aw_aload_n dX9_push_23 rfl ?_
    refine aw_gI dX9_push_24 fl_X9_15 (fun x24 => ?_)
    refine aw_iconst (2 : Int32) dX9_push_27 rfl ?_
    refine aw_isub dX9_push_28 ?_
    refine aw_lald dX9_push_29 (fun x29 => ?_)
    refine aw_lload_n dX9_push_30 rfl ?_
    refine aw_cS3 puI dX9_push_31 (ctX9_liesBetween _ _ _) mcX9_liesBetween ml_X9_48 msX9_liesBetween rfl (by decide) (Nat.le_of_ble_eq_true rfl) (fun x31 => ?_)
    refine aw_if_eq 50 dX9_push_34 (by decide) ?_ ?_
    · refine aw_msk [true, true, false] ?_
      exact abX9_push_50   t v1
    · refine aw_aload_n dX9_push_37 rfl ?_
      refine aw_dup dX9_push_38 rfl ?_
      refine aw_gI dX9_push_39 fl_X9_15 (fun x39 => ?_)
      refine aw_iconst (1 : Int32) dX9_push_42 rfl ?_
      refine aw_isub dX9_push_43 ?_
      refine aw_pI dX9_push_44 pl_X9_15 (fun _ => ?_)
      refine aw_goto 0 dX9_push_47 (by decide) ?_
      refine aw_msk [true, true, false] ?_
      exact h0 t v1
theorem afX9_push_0 {C : Cx} {res : Unit × Hp}   : ∀ (n : Nat) (t : Nat) (v1 : Int64), AW C cX9_push mX9_push qV res 0 [vr (some t), vl v1, vu] [] (fX9_push_0   n t v1)
  | 0, _, _ => aw_fl
  | n + 1, t, v1 => abX9_push_0  (fun t v1 => afX9_push_0   n t v1) t v1
set_option maxRecDepth 20000 in
theorem ctX9_push (t : Nat) (v1 : Int64) : Ct yX9_push cX9_push mX9_push qV [vr (some t), vl v1] (pX9_push t v1) := by
  refine ct_go rfl rfl (fun h9 => by cases h9) (Nat.le_of_ble_eq_true rfl) (fun C res => ?_)
  refine aw_msk [true, true, false] ?_
  exact afX9_push_0   FU t v1
set_option maxRecDepth 20000 in
theorem ctX4_cut (t : Nat) (v1 : Int64) : Ct yX4_cut cX4_cut mX4_cut qL [vr (some t), vl v1] (pX4_cut t v1) := by
  refine ct_go rfl rfl (fun h9 => by cases h9) (Nat.le_of_ble_eq_true rfl) (fun C res => ?_)
  refine aw_aload_n dX4_cut_0 rfl ?_
  refine aw_gL dX4_cut_1 fl_X4_15 (fun x1 => ?_)
  refine aw_lconst (0 : Int64) dX4_cut_4 rfl ?_
  refine aw_lne 13 dX4_cut_5 dX4_cut_6 (by decide) ?_ ?_
  · refine aw_lload_n dX4_cut_13 rfl ?_
    refine aw_aload_n dX4_cut_14 rfl ?_
    refine aw_gL dX4_cut_15 fl_X4_15 (fun x15 => ?_)
    refine aw_ldiv dX4_cut_18 (fun x18 => ?_)
    exact aw_lret dX4_cut_19 rfl
  · refine aw_lconst (0 : Int64) dX4_cut_9 rfl ?_
    refine aw_goto 19 dX4_cut_10 (by decide) ?_
    exact aw_lret dX4_cut_19 rfl
set_option maxRecDepth 20000 in
theorem ctX9_cube (v0 : Int64) : Ct yX9_cube cX9_cube mX9_cube qL [vl v0] (pX9_cube v0) := by
  refine ct_go rfl rfl (fun h9 => by cases h9) (Nat.le_of_ble_eq_true rfl) (fun C res => ?_)
  refine aw_lload_n dX9_cube_0 rfl ?_
  refine aw_lload_n dX9_cube_1 rfl ?_
  refine aw_lmul dX9_cube_2 ?_
  refine aw_lload_n dX9_cube_3 rfl ?_
  refine aw_lmul dX9_cube_4 ?_
  exact aw_lret dX9_cube_5 rfl
set_option maxRecDepth 20000 in
theorem ctX9_step (t : Nat) (v1 : Int32) : Ct yX9_step cX9_step mX9_step qL [vr (some t), vi v1] (pX9_step t v1) := by
  refine ct_go rfl rfl (fun h9 => by cases h9) (Nat.le_of_ble_eq_true rfl) (fun C res => ?_)
  refine aw_aload_n dX9_step_0 rfl ?_
  refine aw_gA dX9_step_1 fl_X9_9 (fun x1 => ?_)
  refine aw_iload_n dX9_step_4 rfl ?_
  refine aw_iconst (1 : Int32) dX9_step_5 rfl ?_
  refine aw_iadd dX9_step_6 ?_
  refine aw_lald dX9_step_7 (fun x7 => ?_)
  refine aw_aload_n dX9_step_8 rfl ?_
  refine aw_gA dX9_step_9 fl_X9_9 (fun x9 => ?_)
  refine aw_iload_n dX9_step_12 rfl ?_
  refine aw_lald dX9_step_13 (fun x13 => ?_)
  refine aw_lsub dX9_step_14 ?_
  refine aw_mabsL dX9_step_15 mk_X9_80 (by decide) (by decide) (Nat.le_of_ble_eq_true rfl) ?_
  exact aw_lret dX9_step_18 rfl
set_option maxRecDepth 20000 in
theorem abX9_takeHalfTurns_2 {C : Cx} {res : Unit × Hp}  {k2 : Nat → Option Nat → Int32 → Mo Unit} (h2 : ∀ (t : Nat) (v1 : Option Nat) (v2 : Int32), AW C cX9_takeHalfTurns mX9_takeHalfTurns qV res 2 [vr (some t), vr v1, vi v2] [] (k2 t v1 v2)) : ∀ (t : Nat) (v1 : Option Nat) (v2 : Int32), AW C cX9_takeHalfTurns mX9_takeHalfTurns qV res 2 [vr (some t), vr v1, vi v2] [] (bX9_takeHalfTurns_2  k2 t v1 v2) := by
  intro t v1 v2
  refine aw_iload_n dX9_takeHalfTurns_2 rfl ?_
  refine aw_iconst (1 : Int32) dX9_takeHalfTurns_3 rfl ?_
  refine aw_iadd dX9_takeHalfTurns_4 ?_
  refine aw_aload_n dX9_takeHalfTurns_5 rfl ?_
  refine aw_gI dX9_takeHalfTurns_6 fl_X9_15 (fun x6 => ?_)
  refine aw_icmp_ge 49 dX9_takeHalfTurns_9 (by decide) ?_ ?_
  · exact aw_vret dX9_takeHalfTurns_49 rfl
  · refine aw_aload_n dX9_takeHalfTurns_12 rfl ?_
    refine aw_dup dX9_takeHalfTurns_13 rfl ?_
    refine aw_gI dX9_takeHalfTurns_14 fl_X9_22 (fun x14 => ?_)
    refine aw_iconst (1 : Int32) dX9_takeHalfTurns_17 rfl ?_
    refine aw_iadd dX9_takeHalfTurns_18 ?_
    refine aw_pI dX9_takeHalfTurns_19 pl_X9_22 (fun _ => ?_)
    refine aw_aload_n dX9_takeHalfTurns_22 rfl ?_
    refine aw_dup dX9_takeHalfTurns_23 rfl ?_
    refine aw_gL dX9_takeHalfTurns_24 fl_X9_25 (fun x24 => ?_)
    refine aw_aload_n dX9_takeHalfTurns_27 rfl ?_
    refine aw_aload_n dX9_takeHalfTurns_28 rfl ?_
    refine aw_iload_n dX9_takeHalfTurns_29 rfl ?_
    refine aw_cV1 puL dX9_takeHalfTurns_30 (fun o => ctX9_step o _) mcX9_step ml_X9_67 rfl rfl msX9_step rfl (by decide) (Nat.le_of_ble_eq_true rfl) (fun x30 => ?_)
    refine aw_cV1 puL dX9_takeHalfTurns_33 (fun o => ctX4_cut o _) mcX4_cut ml_X9_71 rfl rfl msX4_cut rfl (by decide) (Nat.le_of_ble_eq_true rfl) (fun x33 => ?_)
    refine aw_cS1 puL dX9_takeHalfTurns_36 (ctX9_cube _) mcX9_cube ml_X9_77 msX9_cube rfl (by decide) (Nat.le_of_ble_eq_true rfl) (fun x36 => ?_)
    refine aw_ladd dX9_takeHalfTurns_39 ?_
    refine aw_pL dX9_takeHalfTurns_40 pl_X9_25 (fun _ => ?_)
    refine aw_iinc (v2 + (1 : Int32)) dX9_takeHalfTurns_43 rfl rfl (by decide) ?_
    refine aw_goto 2 dX9_takeHalfTurns_46 (by decide) ?_
    refine aw_msk [true, true, true] ?_
    exact h2 t v1 ((v2 + (1 : Int32)))
theorem afX9_takeHalfTurns_2 {C : Cx} {res : Unit × Hp}   : ∀ (n : Nat) (t : Nat) (v1 : Option Nat) (v2 : Int32), AW C cX9_takeHalfTurns mX9_takeHalfTurns qV res 2 [vr (some t), vr v1, vi v2] [] (fX9_takeHalfTurns_2   n t v1 v2)
  | 0, _, _, _ => aw_fl
  | n + 1, t, v1, v2 => abX9_takeHalfTurns_2  (fun t v1 v2 => afX9_takeHalfTurns_2   n t v1 v2) t v1 v2
set_option maxRecDepth 20000 in
theorem ctX9_takeHalfTurns (t : Nat) (v1 : Option Nat) : Ct yX9_takeHalfTurns cX9_takeHalfTurns mX9_takeHalfTurns qV [vr (some t), vr v1] (pX9_takeHalfTurns t v1) := by
  refine ct_go rfl rfl (fun h9 => by cases h9) (Nat.le_of_ble_eq_true rfl) (fun C res => ?_)
  refine aw_iconst (0 : Int32) dX9_takeHalfTurns_0 rfl ?_
  refine aw_istore_n dX9_takeHalfTurns_1 (by decide) ?_
  refine aw_msk [true, true, true] ?_
  exact afX9_takeHalfTurns_2   FU t v1 ((0 : Int32))
set_option maxRecDepth 20000 in
theorem ctX9_innerStepIsLeast (t : Nat) (v1 : Int32) : Ct yX9_innerStepIsLeast cX9_innerStepIsLeast mX9_innerStepIsLeast qI [vr (some t), vi v1] (pX9_innerStepIsLeast t v1) := by
  refine ct_go rfl rfl (fun h9 => by cases h9) (Nat.le_of_ble_eq_true rfl) (fun C res => ?_)
  refine aw_aload_n dX9_innerStepIsLeast_0 rfl ?_
  refine aw_iload_n dX9_innerStepIsLeast_1 rfl ?_
  refine aw_iconst (1 : Int32) dX9_innerStepIsLeast_2 rfl ?_
  refine aw_iadd dX9_innerStepIsLeast_3 ?_
  refine aw_cV1 puL dX9_innerStepIsLeast_4 (fun o => ctX9_step o _) mcX9_step ml_X9_67 rfl rfl msX9_step rfl (by decide) (Nat.le_of_ble_eq_true rfl) (fun x4 => ?_)
  refine aw_lstore_n dX9_innerStepIsLeast_7 (by decide) ?_
  refine aw_lload_n dX9_innerStepIsLeast_8 rfl ?_
  refine aw_aload_n dX9_innerStepIsLeast_9 rfl ?_
  refine aw_iload_n dX9_innerStepIsLeast_10 rfl ?_
  refine aw_cV1 puL dX9_innerStepIsLeast_11 (fun o => ctX9_step o _) mcX9_step ml_X9_67 rfl rfl msX9_step rfl (by decide) (Nat.le_of_ble_eq_true rfl) (fun x11 => ?_)
  refine aw_lgt 34 dX9_innerStepIsLeast_14 dX9_innerStepIsLeast_15 (by decide) ?_ ?_
  · refine aw_iconst (0 : Int32) dX9_innerStepIsLeast_34 rfl ?_
    exact aw_zret dX9_innerStepIsLeast_35 rfl
  · refine aw_lload_n dX9_innerStepIsLeast_18 rfl ?_
    refine aw_aload_n dX9_innerStepIsLeast_19 rfl ?_
    refine aw_iload_n dX9_innerStepIsLeast_20 rfl ?_
    refine aw_iconst (2 : Int32) dX9_innerStepIsLeast_21 rfl ?_
    refine aw_iadd dX9_innerStepIsLeast_22 ?_
    refine aw_cV1 puL dX9_innerStepIsLeast_23 (fun o => ctX9_step o _) mcX9_step ml_X9_67 rfl rfl msX9_step rfl (by decide) (Nat.le_of_ble_eq_true rfl) (fun x23 => ?_)
    refine aw_lgt 34 dX9_innerStepIsLeast_26 dX9_innerStepIsLeast_27 (by decide) ?_ ?_
    · refine aw_iconst (0 : Int32) dX9_innerStepIsLeast_34 rfl ?_
      exact aw_zret dX9_innerStepIsLeast_35 rfl
    · refine aw_iconst (1 : Int32) dX9_innerStepIsLeast_30 rfl ?_
      refine aw_goto 35 dX9_innerStepIsLeast_31 (by decide) ?_
      exact aw_zret dX9_innerStepIsLeast_35 rfl
set_option maxRecDepth 20000 in
theorem abX9_takeWholeTurns_27 {C : Cx} {res : Unit × Hp}  {k4 : Nat → Option Nat → Int32 → Int32 → Mo Unit} (h4 : ∀ (t : Nat) (v1 : Option Nat) (v2 : Int32) (v3 : Int32), AW C cX9_takeWholeTurns mX9_takeWholeTurns qV res 4 [vr (some t), vr v1, vi v2, vi v3] [] (k4 t v1 v2 v3)) {k27 : Nat → Option Nat → Int32 → Int32 → Mo Unit} (h27 : ∀ (t : Nat) (v1 : Option Nat) (v2 : Int32) (v3 : Int32), AW C cX9_takeWholeTurns mX9_takeWholeTurns qV res 27 [vr (some t), vr v1, vi v2, vi v3] [] (k27 t v1 v2 v3)) : ∀ (t : Nat) (v1 : Option Nat) (v2 : Int32) (v3 : Int32), AW C cX9_takeWholeTurns mX9_takeWholeTurns qV res 27 [vr (some t), vr v1, vi v2, vi v3] [] (bX9_takeWholeTurns_27  k4 k27 t v1 v2 v3) := by
  intro t v1 v2 v3
  refine aw_iload_n dX9_takeWholeTurns_27 rfl ?_
  refine aw_iconst (4 : Int32) dX9_takeWholeTurns_28 rfl ?_
  refine aw_icmp_lt 101 dX9_takeWholeTurns_29 (by decide) ?_ ?_
  · refine aw_iinc (v3 + (1 : Int32)) dX9_takeWholeTurns_101 rfl rfl (by decide) ?_
    refine aw_goto 4 dX9_takeWholeTurns_104 (by decide) ?_
    refine aw_msk [true, true, true, true] ?_
    exact h4 t v1 v2 ((v3 + (1 : Int32)))
  · refine aw_aload_n dX9_takeWholeTurns_32 rfl ?_
    refine aw_iload_n dX9_takeWholeTurns_33 rfl ?_
    refine aw_iconst (4 : Int32) dX9_takeWholeTurns_34 rfl ?_
    refine aw_isub dX9_takeWholeTurns_35 ?_
    refine aw_cV1 puI dX9_takeWholeTurns_36 (fun o => ctX9_innerStepIsLeast o _) mcX9_innerStepIsLeast ml_X9_61 rfl rfl msX9_innerStepIsLeast rfl (by decide) (Nat.le_of_ble_eq_true rfl) (fun x36 => ?_)
    refine aw_if_eq 101 dX9_takeWholeTurns_39 (by decide) ?_ ?_
    · refine aw_iinc (v3 + (1 : Int32)) dX9_takeWholeTurns_101 rfl rfl (by decide) ?_
      refine aw_goto 4 dX9_takeWholeTurns_104 (by decide) ?_
      refine aw_msk [true, true, true, true] ?_
      exact h4 t v1 v2 ((v3 + (1 : Int32)))
    · refine aw_aload_n dX9_takeWholeTurns_42 rfl ?_
      refine aw_dup dX9_takeWholeTurns_43 rfl ?_
      refine aw_gI dX9_takeWholeTurns_44 fl_X9_19 (fun x44 => ?_)
      refine aw_iconst (1 : Int32) dX9_takeWholeTurns_47 rfl ?_
      refine aw_iadd dX9_takeWholeTurns_48 ?_
      refine aw_pI dX9_takeWholeTurns_49 pl_X9_19 (fun _ => ?_)
      refine aw_aload_n dX9_takeWholeTurns_52 rfl ?_
      refine aw_dup dX9_takeWholeTurns_53 rfl ?_
      refine aw_gL dX9_takeWholeTurns_54 fl_X9_25 (fun x54 => ?_)
      refine aw_ldc2 dX9_takeWholeTurns_57 cj_X9_65 ?_
      refine aw_aload_n dX9_takeWholeTurns_60 rfl ?_
      refine aw_aload_n dX9_takeWholeTurns_61 rfl ?_
      refine aw_iload_n dX9_takeWholeTurns_62 rfl ?_
      refine aw_iconst (3 : Int32) dX9_takeWholeTurns_63 rfl ?_
      refine aw_isub dX9_takeWholeTurns_64 ?_
      refine aw_cV1 puL dX9_takeWholeTurns_65 (fun o => ctX9_step o _) mcX9_step ml_X9_67 rfl rfl msX9_step rfl (by decide) (Nat.le_of_ble_eq_true rfl) (fun x65 => ?_)
      refine aw_cV1 puL dX9_takeWholeTurns_68 (fun o => ctX4_cut o _) mcX4_cut ml_X9_71 rfl rfl msX4_cut rfl (by decide) (Nat.le_of_ble_eq_true rfl) (fun x68 => ?_)
      refine aw_cS1 puL dX9_takeWholeTurns_71 (ctX9_cube _) mcX9_cube ml_X9_77 msX9_cube rfl (by decide) (Nat.le_of_ble_eq_true rfl) (fun x71 => ?_)
      refine aw_lmul dX9_takeWholeTurns_74 ?_
      refine aw_ladd dX9_takeWholeTurns_75 ?_
      refine aw_pL dX9_takeWholeTurns_76 pl_X9_25 (fun _ => ?_)
      refine aw_aload_n dX9_takeWholeTurns_79 rfl ?_
      refine aw_gA dX9_takeWholeTurns_80 fl_X9_9 (fun x80 => ?_)
      refine aw_iload_n dX9_takeWholeTurns_83 rfl ?_
      refine aw_iconst (3 : Int32) dX9_takeWholeTurns_84 rfl ?_
      refine aw_isub dX9_takeWholeTurns_85 ?_
      refine aw_aload_n dX9_takeWholeTurns_86 rfl ?_
      refine aw_gA dX9_takeWholeTurns_87 fl_X9_9 (fun x87 => ?_)
      refine aw_iload_n dX9_takeWholeTurns_90 rfl ?_
      refine aw_iconst (1 : Int32) dX9_takeWholeTurns_91 rfl ?_
      refine aw_isub dX9_takeWholeTurns_92 ?_
      refine aw_lald dX9_takeWholeTurns_93 (fun x93 => ?_)
      refine aw_last dX9_takeWholeTurns_94 (fun _ => ?_)
      refine aw_iinc (v2 + (-2 : Int32)) dX9_takeWholeTurns_95 rfl rfl (by decide) ?_
      refine aw_goto 27 dX9_takeWholeTurns_98 (by decide) ?_
      refine aw_msk [true, true, true, true] ?_
      exact h27 t v1 ((v2 + (-2 : Int32))) v3
theorem afX9_takeWholeTurns_27 {C : Cx} {res : Unit × Hp}  {k4 : Nat → Option Nat → Int32 → Int32 → Mo Unit} (h4 : ∀ (t : Nat) (v1 : Option Nat) (v2 : Int32) (v3 : Int32), AW C cX9_takeWholeTurns mX9_takeWholeTurns qV res 4 [vr (some t), vr v1, vi v2, vi v3] [] (k4 t v1 v2 v3)) : ∀ (n : Nat) (t : Nat) (v1 : Option Nat) (v2 : Int32) (v3 : Int32), AW C cX9_takeWholeTurns mX9_takeWholeTurns qV res 27 [vr (some t), vr v1, vi v2, vi v3] [] (fX9_takeWholeTurns_27  k4 n t v1 v2 v3)
  | 0, _, _, _, _ => aw_fl
  | n + 1, t, v1, v2, v3 => abX9_takeWholeTurns_27  h4 (fun t v1 v2 v3 => afX9_takeWholeTurns_27  h4 n t v1 v2 v3) t v1 v2 v3
set_option maxRecDepth 20000 in
theorem abX9_takeWholeTurns_4 {C : Cx} {res : Unit × Hp}  {k4 : Nat → Option Nat → Int32 → Int32 → Mo Unit} (h4 : ∀ (t : Nat) (v1 : Option Nat) (v2 : Int32) (v3 : Int32), AW C cX9_takeWholeTurns mX9_takeWholeTurns qV res 4 [vr (some t), vr v1, vi v2, vi v3] [] (k4 t v1 v2 v3)) : ∀ (t : Nat) (v1 : Option Nat) (v2 : Int32) (v3 : Int32), AW C cX9_takeWholeTurns mX9_takeWholeTurns qV res 4 [vr (some t), vr v1, vi v2, vi v3] [] (bX9_takeWholeTurns_4  k4 t v1 v2 v3) := by
  intro t v1 v2 v3
  refine aw_iload_n dX9_takeWholeTurns_4 rfl ?_
  refine aw_aload_n dX9_takeWholeTurns_5 rfl ?_
  refine aw_gI dX9_takeWholeTurns_6 fl_X9_15 (fun x6 => ?_)
  refine aw_icmp_ge 107 dX9_takeWholeTurns_9 (by decide) ?_ ?_
  · refine aw_aload_n dX9_takeWholeTurns_107 rfl ?_
    refine aw_iload_n dX9_takeWholeTurns_108 rfl ?_
    refine aw_pI dX9_takeWholeTurns_109 pl_X9_15 (fun _ => ?_)
    exact aw_vret dX9_takeWholeTurns_112 rfl
  · refine aw_aload_n dX9_takeWholeTurns_12 rfl ?_
    refine aw_gA dX9_takeWholeTurns_13 fl_X9_9 (fun x13 => ?_)
    refine aw_iload_n dX9_takeWholeTurns_16 rfl ?_
    refine aw_aload_n dX9_takeWholeTurns_17 rfl ?_
    refine aw_gA dX9_takeWholeTurns_18 fl_X9_9 (fun x18 => ?_)
    refine aw_iload_n dX9_takeWholeTurns_21 rfl ?_
    refine aw_lald dX9_takeWholeTurns_22 (fun x22 => ?_)
    refine aw_last dX9_takeWholeTurns_23 (fun _ => ?_)
    refine aw_iinc (v2 + (1 : Int32)) dX9_takeWholeTurns_24 rfl rfl (by decide) ?_
    refine aw_msk [true, true, true, true] ?_
    exact afX9_takeWholeTurns_27  h4 FU t v1 ((v2 + (1 : Int32))) v3
theorem afX9_takeWholeTurns_4 {C : Cx} {res : Unit × Hp}   : ∀ (n : Nat) (t : Nat) (v1 : Option Nat) (v2 : Int32) (v3 : Int32), AW C cX9_takeWholeTurns mX9_takeWholeTurns qV res 4 [vr (some t), vr v1, vi v2, vi v3] [] (fX9_takeWholeTurns_4   n t v1 v2 v3)
  | 0, _, _, _, _ => aw_fl
  | n + 1, t, v1, v2, v3 => abX9_takeWholeTurns_4  (fun t v1 v2 v3 => afX9_takeWholeTurns_4   n t v1 v2 v3) t v1 v2 v3
set_option maxRecDepth 20000 in
theorem ctX9_takeWholeTurns (t : Nat) (v1 : Option Nat) : Ct yX9_takeWholeTurns cX9_takeWholeTurns mX9_takeWholeTurns qV [vr (some t), vr v1] (pX9_takeWholeTurns t v1) := by
  refine ct_go rfl rfl (fun h9 => by cases h9) (Nat.le_of_ble_eq_true rfl) (fun C res => ?_)
  refine aw_iconst (0 : Int32) dX9_takeWholeTurns_0 rfl ?_
  refine aw_istore_n dX9_takeWholeTurns_1 (by decide) ?_
  refine aw_iconst (0 : Int32) dX9_takeWholeTurns_2 rfl ?_
  refine aw_istore_n dX9_takeWholeTurns_3 (by decide) ?_
  refine aw_msk [true, true, true, true] ?_
  exact afX9_takeWholeTurns_4   FU t v1 ((0 : Int32)) ((0 : Int32))
set_option maxRecDepth 20000 in
theorem abX9_take_27 {C : Cx} {res : Unit × Hp}  {k27 : Nat → Option Nat → Option Nat → Int32 → Mo Unit} (h27 : ∀ (t : Nat) (v1 : Option Nat) (v2 : Option Nat) (v3 : Int32), AW C cX9_take mX9_take qV res 27 [vr (some t), vr v1, vr v2, vi v3] [] (k27 t v1 v2 v3)) : ∀ (t : Nat) (v1 : Option Nat) (v2 : Option Nat) (v3 : Int32), AW C cX9_take mX9_take qV res 27 [vr (some t), vr v1, vr v2, vi v3] [] (bX9_take_27  k27 t v1 v2 v3) := by
  intro t v1 v2 v3
  refine aw_iload_n dX9_take_27 rfl ?_
  refine aw_aload_n dX9_take_28 rfl ?_
  refine aw_gI dX9_take_29 fl_X9_33 (fun x29 => ?_)
  refine aw_icmp_ge 51 dX9_take_32 (by decide) ?_ ?_
  · refine aw_aload_n dX9_take_51 rfl ?_
    refine aw_lconst (0 : Int64) dX9_take_52 rfl ?_
    refine aw_cV1 puV dX9_take_53 (fun o => ctX9_push o _) mcX9_push ml_X9_29 rfl rfl msX9_push rfl (by decide) (Nat.le_of_ble_eq_true rfl) (fun _ => ?_)
    refine aw_aload_n dX9_take_56 rfl ?_
    refine aw_aload_n dX9_take_57 rfl ?_
    refine aw_cV1 puV dX9_take_58 (fun o => ctX9_takeWholeTurns o _) mcX9_takeWholeTurns ml_X9_41 rfl rfl msX9_takeWholeTurns rfl (by decide) (Nat.le_of_ble_eq_true rfl) (fun _ => ?_)
    refine aw_aload_n dX9_take_61 rfl ?_
    refine aw_aload_n dX9_take_62 rfl ?_
    refine aw_cV1 puV dX9_take_63 (fun o => ctX9_takeHalfTurns o _) mcX9_takeHalfTurns ml_X9_45 rfl rfl msX9_takeHalfTurns rfl (by decide) (Nat.le_of_ble_eq_true rfl) (fun _ => ?_)
    exact aw_vret dX9_take_66 rfl
  · refine aw_aload_n dX9_take_35 rfl ?_
    refine aw_aload_n dX9_take_36 rfl ?_
    refine aw_gA dX9_take_37 fl_X9_38 (fun x37 => ?_)
    refine aw_iload_n dX9_take_40 rfl ?_
    refine aw_lald dX9_take_41 (fun x41 => ?_)
    refine aw_cV1 puV dX9_take_42 (fun o => ctX9_push o _) mcX9_push ml_X9_29 rfl rfl msX9_push rfl (by decide) (Nat.le_of_ble_eq_true rfl) (fun _ => ?_)
    refine aw_iinc (v3 + (1 : Int32)) dX9_take_45 rfl rfl (by decide) ?_
    refine aw_goto 27 dX9_take_48 (by decide) ?_
    refine aw_msk [true, true, true, true] ?_
    exact h27 t v1 v2 ((v3 + (1 : Int32)))
theorem afX9_take_27 {C : Cx} {res : Unit × Hp}   : ∀ (n : Nat) (t : Nat) (v1 : Option Nat) (v2 : Option Nat) (v3 : Int32), AW C cX9_take mX9_take qV res 27 [vr (some t), vr v1, vr v2, vi v3] [] (fX9_take_27   n t v1 v2 v3)
  | 0, _, _, _, _ => aw_fl
  | n + 1, t, v1, v2, v3 => abX9_take_27  (fun t v1 v2 v3 => afX9_take_27   n t v1 v2 v3) t v1 v2 v3
set_option maxRecDepth 20000 in
theorem ctX9_take (t : Nat) (v1 : Option Nat) (v2 : Option Nat) : Ct yX9_take cX9_take mX9_take qV [vr (some t), vr v1, vr v2] (pX9_take t v1 v2) := by
  refine ct_go rfl rfl (fun h9 => by cases h9) (Nat.le_of_ble_eq_true rfl) (fun C res => ?_)
  refine aw_aload_n dX9_take_0 rfl ?_
  refine aw_iconst (0 : Int32) dX9_take_1 rfl ?_
  refine aw_pI dX9_take_2 pl_X9_19 (fun _ => ?_)
  refine aw_aload_n dX9_take_5 rfl ?_
  refine aw_iconst (0 : Int32) dX9_take_6 rfl ?_
  refine aw_pI dX9_take_7 pl_X9_22 (fun _ => ?_)
  refine aw_aload_n dX9_take_10 rfl ?_
  refine aw_lconst (0 : Int64) dX9_take_11 rfl ?_
  refine aw_pL dX9_take_12 pl_X9_25 (fun _ => ?_)
  refine aw_aload_n dX9_take_15 rfl ?_
  refine aw_iconst (0 : Int32) dX9_take_16 rfl ?_
  refine aw_pI dX9_take_17 pl_X9_15 (fun _ => ?_)
  refine aw_aload_n dX9_take_20 rfl ?_
  refine aw_lconst (0 : Int64) dX9_take_21 rfl ?_
  refine aw_cV1 puV dX9_take_22 (fun o => ctX9_push o _) mcX9_push ml_X9_29 rfl rfl msX9_push rfl (by decide) (Nat.le_of_ble_eq_true rfl) (fun _ => ?_)
  refine aw_iconst (0 : Int32) dX9_take_25 rfl ?_
  refine aw_istore_n dX9_take_26 (by decide) ?_
  refine aw_msk [true, true, true, true] ?_
  exact afX9_take_27   FU t v1 v2 ((0 : Int32))
set_option maxRecDepth 20000 in
theorem ctX10_wear (t : Nat) (v1 : Int32) (v2 : Int32) (v3 : Int32) (v4 : Int32) (v5 : Int32) : Ct yX10_wear cX10_wear mX10_wear qL [vr (some t), vi v1, vi v2, vi v3, vi v4, vi v5] (pX10_wear t v1 v2 v3 v4 v5) := by
  refine ct_go rfl rfl (fun h9 => by cases h9) (Nat.le_of_ble_eq_true rfl) (fun C res => ?_)
  refine aw_aload_n dX10_wear_0 rfl ?_
  refine aw_iload_n dX10_wear_1 rfl ?_
  refine aw_cV1 puA dX10_wear_2 (fun o => ctX10_bridgeAt o _) mcX10_bridgeAt ml_X10_104 rfl rfl msX10_bridgeAt rfl (by decide) (Nat.le_of_ble_eq_true rfl) (fun x2 => ?_)
  refine aw_astore dX10_wear_5 (by decide) ?_
  refine aw_aload_n dX10_wear_7 rfl ?_
  refine aw_iload dX10_wear_8 rfl ?_
  refine aw_cV1 puA dX10_wear_10 (fun o => ctX10_trainAt o _) mcX10_trainAt ml_X10_163 rfl rfl msX10_trainAt rfl (by decide) (Nat.le_of_ble_eq_true rfl) (fun x10 => ?_)
  refine aw_astore dX10_wear_13 (by decide) ?_
  refine aw_aload dX10_wear_15 rfl ?_
  refine aw_ifnull 35 dX10_wear_17 (by decide) ?_ ?_
  · refine aw_ldc2 dX10_wear_35 cj_X10_127 ?_
    exact aw_lret dX10_wear_38 rfl
  · refine aw_aload dX10_wear_20 rfl ?_
    refine aw_iload_n dX10_wear_22 rfl ?_
    refine aw_iload_n dX10_wear_23 rfl ?_
    refine aw_cV2 puI dX10_wear_24 (fun o => ctX0_lacksSupport o _ _) mcX0_lacksSupport ml_X10_123 rfl rfl msX0_lacksSupport rfl (by decide) (Nat.le_of_ble_eq_true rfl) (fun x24 => ?_)
    refine aw_if_ne 35 dX10_wear_27 (by decide) ?_ ?_
    · refine aw_ldc2 dX10_wear_35 cj_X10_127 ?_
      exact aw_lret dX10_wear_38 rfl
    · refine aw_aload dX10_wear_30 rfl ?_
      refine aw_ifnonnull 39 dX10_wear_32 (by decide) ?_ ?_
      · refine aw_aload dX10_wear_39 rfl ?_
        refine aw_iload_n dX10_wear_41 rfl ?_
        refine aw_iload_n dX10_wear_42 rfl ?_
        refine aw_cV2 puI dX10_wear_43 (fun o => ctX0_hasResponse o _ _) mcX0_hasResponse ml_X10_129 rfl rfl msX0_hasResponse rfl (by decide) (Nat.le_of_ble_eq_true rfl) (fun x43 => ?_)
        refine aw_if_eq 59 dX10_wear_46 (by decide) ?_ ?_
        · refine aw_ldc2 dX10_wear_59 cj_X10_136 ?_
          exact aw_lret dX10_wear_62 rfl
        · refine aw_iload dX10_wear_49 rfl ?_
          refine aw_iconst (0 : Int32) dX10_wear_51 rfl ?_
          refine aw_iconst (2 : Int32) dX10_wear_52 rfl ?_
          refine aw_cS3 puI dX10_wear_53 (ctX10_within _ _ _) mcX10_within ml_X10_132 msX10_within rfl (by decide) (Nat.le_of_ble_eq_true rfl) (fun x53 => ?_)
          refine aw_if_ne 63 dX10_wear_56 (by decide) ?_ ?_
          · refine aw_aload_n dX10_wear_63 rfl ?_
            refine aw_gA dX10_wear_64 fl_X10_48 (fun x64 => ?_)
            refine aw_aload dX10_wear_67 rfl ?_
            refine aw_iload_n dX10_wear_69 rfl ?_
            refine aw_iload_n dX10_wear_70 rfl ?_
            refine aw_cV3 puV dX10_wear_71 (fun o => ctX4_draw o _ _ _) mcX4_draw ml_X10_138 rfl rfl msX4_draw rfl (by decide) (Nat.le_of_ble_eq_true rfl) (fun _ => ?_)
            refine aw_aload_n dX10_wear_74 rfl ?_
            refine aw_gA dX10_wear_75 fl_X10_55 (fun x75 => ?_)
            refine aw_aload_n dX10_wear_78 rfl ?_
            refine aw_gA dX10_wear_79 fl_X10_48 (fun x79 => ?_)
            refine aw_aload dX10_wear_82 rfl ?_
            refine aw_iconst (0 : Int32) dX10_wear_84 rfl ?_
            refine aw_cV3 puV dX10_wear_85 (fun o => ctX7_roll o _ _ _) mcX7_roll ml_X10_278 rfl rfl msX7_roll rfl (by decide) (Nat.le_of_ble_eq_true rfl) (fun _ => ?_)
            refine aw_aload_n dX10_wear_88 rfl ?_
            refine aw_gA dX10_wear_89 fl_X10_76 (fun x89 => ?_)
            refine aw_aload_n dX10_wear_92 rfl ?_
            refine aw_gA dX10_wear_93 fl_X10_55 (fun x93 => ?_)
            refine aw_aload_n dX10_wear_96 rfl ?_
            refine aw_gA dX10_wear_97 fl_X10_48 (fun x97 => ?_)
            refine aw_cV2 puV dX10_wear_100 (fun o => ctX9_take o _ _) mcX9_take ml_X10_282 rfl rfl msX9_take rfl (by decide) (Nat.le_of_ble_eq_true rfl) (fun _ => ?_)
            refine aw_iload dX10_wear_103 rfl ?_
            refine aw_if_ne 116 dX10_wear_105 (by decide) ?_ ?_
            · refine aw_iload dX10_wear_116 rfl ?_
              refine aw_iconst (1 : Int32) dX10_wear_118 rfl ?_
              refine aw_icmp_ne 133 dX10_wear_119 (by decide) ?_ ?_
              · refine aw_aload_n dX10_wear_133 rfl ?_
                refine aw_gA dX10_wear_134 fl_X10_76 (fun x134 => ?_)
                refine aw_gI dX10_wear_137 fl_X10_292 (fun x137 => ?_)
                refine aw_i2l dX10_wear_140 ?_
                exact aw_lret dX10_wear_141 rfl
              · refine aw_aload_n dX10_wear_122 rfl ?_
                refine aw_gA dX10_wear_123 fl_X10_76 (fun x123 => ?_)
                refine aw_gI dX10_wear_126 fl_X10_289 (fun x126 => ?_)
                refine aw_i2l dX10_wear_129 ?_
                refine aw_goto 141 dX10_wear_130 (by decide) ?_
                exact aw_lret dX10_wear_141 rfl
            · refine aw_aload_n dX10_wear_108 rfl ?_
              refine aw_gA dX10_wear_109 fl_X10_76 (fun x109 => ?_)
              refine aw_gL dX10_wear_112 fl_X10_286 (fun x112 => ?_)
              exact aw_lret dX10_wear_115 rfl
          · refine aw_ldc2 dX10_wear_59 cj_X10_136 ?_
            exact aw_lret dX10_wear_62 rfl
      · refine aw_ldc2 dX10_wear_35 cj_X10_127 ?_
        exact aw_lret dX10_wear_38 rfl
set_option maxRecDepth 20000 in
theorem ctX10_why (t : Nat) (v1 : Int32) (v2 : Int32) (v3 : Int32) (v4 : Int32) : Ct yX10_why cX10_why mX10_why qI [vr (some t), vi v1, vi v2, vi v3, vi v4] (pX10_why t v1 v2 v3 v4) := by
  refine ct_go rfl rfl (fun h9 => by cases h9) (Nat.le_of_ble_eq_true rfl) (fun C res => ?_)
  refine aw_aload_n dX10_why_0 rfl ?_
  refine aw_iload_n dX10_why_1 rfl ?_
  refine aw_cV1 puA dX10_why_2 (fun o => ctX10_trainAt o _) mcX10_trainAt ml_X10_163 rfl rfl msX10_trainAt rfl (by decide) (Nat.le_of_ble_eq_true rfl) (fun x2 => ?_)
  refine aw_astore dX10_why_5 (by decide) ?_
  refine aw_aload dX10_why_7 rfl ?_
  refine aw_ifnull 27 dX10_why_9 (by decide) ?_ ?_
  · refine aw_sipush (-1001 : Int32) dX10_why_27 rfl ?_
    exact aw_iret dX10_why_30 rfl
  · refine aw_iload_n dX10_why_12 rfl ?_
    refine aw_cS1 puI dX10_why_13 (ctX10_isTown _) mcX10_isTown ml_X10_245 msX10_isTown rfl (by decide) (Nat.le_of_ble_eq_true rfl) (fun x13 => ?_)
    refine aw_if_eq 27 dX10_why_16 (by decide) ?_ ?_
    · refine aw_sipush (-1001 : Int32) dX10_why_27 rfl ?_
      exact aw_iret dX10_why_30 rfl
    · refine aw_iload dX10_why_19 rfl ?_
      refine aw_cS1 puI dX10_why_21 (ctX10_isTown _) mcX10_isTown ml_X10_245 msX10_isTown rfl (by decide) (Nat.le_of_ble_eq_true rfl) (fun x21 => ?_)
      refine aw_if_ne 31 dX10_why_24 (by decide) ?_ ?_
      · refine aw_iload_n dX10_why_31 rfl ?_
        refine aw_iconst (0 : Int32) dX10_why_32 rfl ?_
        refine aw_iconst (2 : Int32) dX10_why_33 rfl ?_
        refine aw_cS3 puI dX10_why_34 (ctX10_within _ _ _) mcX10_within ml_X10_132 msX10_within rfl (by decide) (Nat.le_of_ble_eq_true rfl) (fun x34 => ?_)
        refine aw_if_eq 46 dX10_why_37 (by decide) ?_ ?_
        · refine aw_sipush (-1002 : Int32) dX10_why_46 rfl ?_
          exact aw_iret dX10_why_49 rfl
        · refine aw_iload_n dX10_why_40 rfl ?_
          refine aw_iload dX10_why_41 rfl ?_
          refine aw_icmp_ne 50 dX10_why_43 (by decide) ?_ ?_
          · refine aw_aload_n dX10_why_50 rfl ?_
            refine aw_aload dX10_why_51 rfl ?_
            refine aw_iload_n dX10_why_53 rfl ?_
            refine aw_cV2 puV dX10_why_54 (fun o => ctX10_closeRoadsUnmet o _ _) mcX10_closeRoadsUnmet ml_X10_256 rfl rfl msX10_closeRoadsUnmet rfl (by decide) (Nat.le_of_ble_eq_true rfl) (fun _ => ?_)
            refine aw_aload_n dX10_why_57 rfl ?_
            refine aw_gA dX10_why_58 fl_X10_34 (fun x58 => ?_)
            refine aw_iload_n dX10_why_61 rfl ?_
            refine aw_iload dX10_why_62 rfl ?_
            refine aw_cV2 puI dX10_why_64 (fun o => ctX5_search o _ _) mcX5_search ml_X10_259 rfl rfl msX5_search rfl (by decide) (Nat.le_of_ble_eq_true rfl) (fun x64 => ?_)
            refine aw_if_eq 72 dX10_why_67 (by decide) ?_ ?_
            · refine aw_aload_n dX10_why_72 rfl ?_
              refine aw_gA dX10_why_73 fl_X10_34 (fun x73 => ?_)
              refine aw_cV0 puV dX10_why_76 (fun o => ctX5_openAll o ) mcX5_openAll ml_X10_272 rfl rfl msX5_openAll rfl (by decide) (Nat.le_of_ble_eq_true rfl) (fun _ => ?_)
              refine aw_aload_n dX10_why_79 rfl ?_
              refine aw_gA dX10_why_80 fl_X10_34 (fun x80 => ?_)
              refine aw_iload_n dX10_why_83 rfl ?_
              refine aw_iload dX10_why_84 rfl ?_
              refine aw_cV2 puI dX10_why_86 (fun o => ctX5_search o _ _) mcX5_search ml_X10_259 rfl rfl msX5_search rfl (by decide) (Nat.le_of_ble_eq_true rfl) (fun x86 => ?_)
              refine aw_if_ne 94 dX10_why_89 (by decide) ?_ ?_
              · refine aw_aload_n dX10_why_94 rfl ?_
                refine aw_cV0 puI dX10_why_95 (fun o => ctX10_firstUnmetOnWay o ) mcX10_firstUnmetOnWay ml_X10_275 rfl rfl msX10_firstUnmetOnWay rfl (by decide) (Nat.le_of_ble_eq_true rfl) (fun x95 => ?_)
                exact aw_iret dX10_why_98 rfl
              · refine aw_iconst (-1 : Int32) dX10_why_92 rfl ?_
                exact aw_iret dX10_why_93 rfl
            · refine aw_iconst (-1 : Int32) dX10_why_70 rfl ?_
              exact aw_iret dX10_why_71 rfl
          · refine aw_sipush (-1002 : Int32) dX10_why_46 rfl ?_
            exact aw_iret dX10_why_49 rfl
      · refine aw_sipush (-1001 : Int32) dX10_why_27 rfl ?_
        exact aw_iret dX10_why_30 rfl
set_option maxRecDepth 20000 in
theorem abX10_worn_57 {C : Cx} {res : Int64 × Hp}  {k57 : Nat → Int64 → Int32 → Mo Int64} (h57 : ∀ (t : Nat) (v5 : Int64) (v7 : Int32), AW C cX10_worn mX10_worn qL res 57 [vr (some t), vu, vu, vu, vu, vl v5, vu, vi v7, vu] [] (k57 t v5 v7)) : ∀ (t : Nat) (v5 : Int64) (v7 : Int32), AW C cX10_worn mX10_worn qL res 57 [vr (some t), vu, vu, vu, vu, vl v5, vu, vi v7, vu] [] (bX10_worn_57  k57 t v5 v7) := by
  intro t v5 v7
  refine aw_iload dX10_worn_57 rfl ?_
  refine aw_aload_n dX10_worn_59 rfl ?_
  refine aw_gI dX10_worn_60 fl_X10_25 (fun x60 => ?_)
  refine aw_icmp_ge 141 dX10_worn_63 (by decide) ?_ ?_
  · refine aw_lload dX10_worn_141 rfl ?_
    exact aw_lret dX10_worn_143 rfl
  · refine aw_aload_n dX10_worn_66 rfl ?_
    refine aw_iload dX10_worn_67 rfl ?_
    refine aw_cV1 puA dX10_worn_69 (fun o => ctX10_trainAt o _) mcX10_trainAt ml_X10_163 rfl rfl msX10_trainAt rfl (by decide) (Nat.le_of_ble_eq_true rfl) (fun x69 => ?_)
    refine aw_astore dX10_worn_72 (by decide) ?_
    refine aw_aload dX10_worn_74 rfl ?_
    refine aw_ifnull 135 dX10_worn_76 (by decide) ?_ ?_
    · refine aw_iinc (v7 + (1 : Int32)) dX10_worn_135 rfl rfl (by decide) ?_
      refine aw_goto 57 dX10_worn_138 (by decide) ?_
      refine aw_msk [true, false, false, false, false, true, false, true, false] ?_
      exact h57 t v5 ((v7 + (1 : Int32)))
    · refine aw_aload dX10_worn_79 rfl ?_
      refine aw_gI dX10_worn_81 fl_X10_295 (fun x81 => ?_)
      refine aw_if_le 135 dX10_worn_84 (by decide) ?_ ?_
      · refine aw_iinc (v7 + (1 : Int32)) dX10_worn_135 rfl rfl (by decide) ?_
        refine aw_goto 57 dX10_worn_138 (by decide) ?_
        refine aw_msk [true, false, false, false, false, true, false, true, false] ?_
        exact h57 t v5 ((v7 + (1 : Int32)))
      · refine aw_aload_n dX10_worn_87 rfl ?_
        refine aw_gA dX10_worn_88 fl_X10_55 (fun x88 => ?_)
        refine aw_aload_n dX10_worn_91 rfl ?_
        refine aw_gA dX10_worn_92 fl_X10_48 (fun x92 => ?_)
        refine aw_aload dX10_worn_95 rfl ?_
        refine aw_iconst (0 : Int32) dX10_worn_97 rfl ?_
        refine aw_cV3 puV dX10_worn_98 (fun o => ctX7_roll o _ _ _) mcX7_roll ml_X10_278 rfl rfl msX7_roll rfl (by decide) (Nat.le_of_ble_eq_true rfl) (fun _ => ?_)
        refine aw_aload_n dX10_worn_101 rfl ?_
        refine aw_gA dX10_worn_102 fl_X10_76 (fun x102 => ?_)
        refine aw_aload_n dX10_worn_105 rfl ?_
        refine aw_gA dX10_worn_106 fl_X10_55 (fun x106 => ?_)
        refine aw_aload_n dX10_worn_109 rfl ?_
        refine aw_gA dX10_worn_110 fl_X10_48 (fun x110 => ?_)
        refine aw_cV2 puV dX10_worn_113 (fun o => ctX9_take o _ _) mcX9_take ml_X10_282 rfl rfl msX9_take rfl (by decide) (Nat.le_of_ble_eq_true rfl) (fun _ => ?_)
        refine aw_lload dX10_worn_116 rfl ?_
        refine aw_aload dX10_worn_118 rfl ?_
        refine aw_gI dX10_worn_120 fl_X10_295 (fun x120 => ?_)
        refine aw_i2l dX10_worn_123 ?_
        refine aw_aload_n dX10_worn_124 rfl ?_
        refine aw_gA dX10_worn_125 fl_X10_76 (fun x125 => ?_)
        refine aw_gL dX10_worn_128 fl_X10_286 (fun x128 => ?_)
        refine aw_lmul dX10_worn_131 ?_
        refine aw_ladd dX10_worn_132 ?_
        refine aw_lstore dX10_worn_133 (by decide) ?_
        refine aw_iinc (v7 + (1 : Int32)) dX10_worn_135 rfl rfl (by decide) ?_
        refine aw_goto 57 dX10_worn_138 (by decide) ?_
        refine aw_msk [true, false, false, false, false, true, false, true, false] ?_
        exact h57 t ((v5 + ((Int32.toInt64 x120) * x128))) ((v7 + (1 : Int32)))
theorem afX10_worn_57 {C : Cx} {res : Int64 × Hp}   : ∀ (n : Nat) (t : Nat) (v5 : Int64) (v7 : Int32), AW C cX10_worn mX10_worn qL res 57 [vr (some t), vu, vu, vu, vu, vl v5, vu, vi v7, vu] [] (fX10_worn_57   n t v5 v7)
  | 0, _, _, _ => aw_fl
  | n + 1, t, v5, v7 => abX10_worn_57  (fun t v5 v7 => afX10_worn_57   n t v5 v7) t v5 v7
set_option maxRecDepth 20000 in
theorem ctX10_worn (t : Nat) (v1 : Int32) (v2 : Int32) (v3 : Int32) : Ct yX10_worn cX10_worn mX10_worn qL [vr (some t), vi v1, vi v2, vi v3] (pX10_worn t v1 v2 v3) := by
  refine ct_go rfl rfl (fun h9 => by cases h9) (Nat.le_of_ble_eq_true rfl) (fun C res => ?_)
  refine aw_aload_n dX10_worn_0 rfl ?_
  refine aw_iload_n dX10_worn_1 rfl ?_
  refine aw_cV1 puA dX10_worn_2 (fun o => ctX10_bridgeAt o _) mcX10_bridgeAt ml_X10_104 rfl rfl msX10_bridgeAt rfl (by decide) (Nat.le_of_ble_eq_true rfl) (fun x2 => ?_)
  refine aw_astore dX10_worn_5 (by decide) ?_
  refine aw_aload dX10_worn_7 rfl ?_
  refine aw_ifnull 22 dX10_worn_9 (by decide) ?_ ?_
  · refine aw_ldc2 dX10_worn_22 cj_X10_127 ?_
    exact aw_lret dX10_worn_25 rfl
  · refine aw_aload dX10_worn_12 rfl ?_
    refine aw_iload_n dX10_worn_14 rfl ?_
    refine aw_iload_n dX10_worn_15 rfl ?_
    refine aw_cV2 puI dX10_worn_16 (fun o => ctX0_lacksSupport o _ _) mcX0_lacksSupport ml_X10_123 rfl rfl msX0_lacksSupport rfl (by decide) (Nat.le_of_ble_eq_true rfl) (fun x16 => ?_)
    refine aw_if_eq 26 dX10_worn_19 (by decide) ?_ ?_
    · refine aw_aload dX10_worn_26 rfl ?_
      refine aw_iload_n dX10_worn_28 rfl ?_
      refine aw_iload_n dX10_worn_29 rfl ?_
      refine aw_cV2 puI dX10_worn_30 (fun o => ctX0_hasResponse o _ _) mcX0_hasResponse ml_X10_129 rfl rfl msX0_hasResponse rfl (by decide) (Nat.le_of_ble_eq_true rfl) (fun x30 => ?_)
      refine aw_if_ne 40 dX10_worn_33 (by decide) ?_ ?_
      · refine aw_aload_n dX10_worn_40 rfl ?_
        refine aw_gA dX10_worn_41 fl_X10_48 (fun x41 => ?_)
        refine aw_aload dX10_worn_44 rfl ?_
        refine aw_iload_n dX10_worn_46 rfl ?_
        refine aw_iload_n dX10_worn_47 rfl ?_
        refine aw_cV3 puV dX10_worn_48 (fun o => ctX4_draw o _ _ _) mcX4_draw ml_X10_138 rfl rfl msX4_draw rfl (by decide) (Nat.le_of_ble_eq_true rfl) (fun _ => ?_)
        refine aw_lconst (0 : Int64) dX10_worn_51 rfl ?_
        refine aw_lstore dX10_worn_52 (by decide) ?_
        refine aw_iconst (0 : Int32) dX10_worn_54 rfl ?_
        refine aw_istore dX10_worn_55 (by decide) ?_
        refine aw_msk [true, false, false, false, false, true, false, true, false] ?_
        exact afX10_worn_57   FU t ((0 : Int64)) ((0 : Int32))
      · refine aw_ldc2 dX10_worn_36 cj_X10_136 ?_
        exact aw_lret dX10_worn_39 rfl
    · refine aw_ldc2 dX10_worn_22 cj_X10_127 ?_
      exact aw_lret dX10_worn_25 rfl
set_option maxRecDepth 20000 in
theorem ctX10_worst (t : Nat) (v1 : Int32) (v2 : Int32) (v3 : Int32) (v4 : Int32) (v5 : Int32) (v6 : Int32) : Ct yX10_worst cX10_worst mX10_worst qL [vr (some t), vi v1, vi v2, vi v3, vi v4, vi v5, vi v6] (pX10_worst t v1 v2 v3 v4 v5 v6) := by
  refine ct_go rfl rfl (fun h9 => by cases h9) (Nat.le_of_ble_eq_true rfl) (fun C res => ?_)
  refine aw_aload_n dX10_worst_0 rfl ?_
  refine aw_iload_n dX10_worst_1 rfl ?_
  refine aw_cV1 puA dX10_worst_2 (fun o => ctX10_bridgeAt o _) mcX10_bridgeAt ml_X10_104 rfl rfl msX10_bridgeAt rfl (by decide) (Nat.le_of_ble_eq_true rfl) (fun x2 => ?_)
  refine aw_astore dX10_worst_5 (by decide) ?_
  refine aw_aload_n dX10_worst_7 rfl ?_
  refine aw_iload dX10_worst_8 rfl ?_
  refine aw_cV1 puA dX10_worst_10 (fun o => ctX10_trainAt o _) mcX10_trainAt ml_X10_163 rfl rfl msX10_trainAt rfl (by decide) (Nat.le_of_ble_eq_true rfl) (fun x10 => ?_)
  refine aw_astore dX10_worst_13 (by decide) ?_
  refine aw_aload dX10_worst_15 rfl ?_
  refine aw_ifnull 35 dX10_worst_17 (by decide) ?_ ?_
  · refine aw_ldc2 dX10_worst_35 cj_X10_127 ?_
    exact aw_lret dX10_worst_38 rfl
  · refine aw_aload dX10_worst_20 rfl ?_
    refine aw_iload_n dX10_worst_22 rfl ?_
    refine aw_iload_n dX10_worst_23 rfl ?_
    refine aw_cV2 puI dX10_worst_24 (fun o => ctX0_lacksSupport o _ _) mcX0_lacksSupport ml_X10_123 rfl rfl msX0_lacksSupport rfl (by decide) (Nat.le_of_ble_eq_true rfl) (fun x24 => ?_)
    refine aw_if_ne 35 dX10_worst_27 (by decide) ?_ ?_
    · refine aw_ldc2 dX10_worst_35 cj_X10_127 ?_
      exact aw_lret dX10_worst_38 rfl
    · refine aw_aload dX10_worst_30 rfl ?_
      refine aw_ifnonnull 39 dX10_worst_32 (by decide) ?_ ?_
      · refine aw_aload dX10_worst_39 rfl ?_
        refine aw_iload_n dX10_worst_41 rfl ?_
        refine aw_iload_n dX10_worst_42 rfl ?_
        refine aw_cV2 puI dX10_worst_43 (fun o => ctX0_hasResponse o _ _) mcX0_hasResponse ml_X10_129 rfl rfl msX0_hasResponse rfl (by decide) (Nat.le_of_ble_eq_true rfl) (fun x43 => ?_)
        refine aw_if_eq 69 dX10_worst_46 (by decide) ?_ ?_
        · refine aw_ldc2 dX10_worst_69 cj_X10_136 ?_
          exact aw_lret dX10_worst_72 rfl
        · refine aw_iload dX10_worst_49 rfl ?_
          refine aw_iconst (0 : Int32) dX10_worst_51 rfl ?_
          refine aw_iconst (1 : Int32) dX10_worst_52 rfl ?_
          refine aw_cS3 puI dX10_worst_53 (ctX10_within _ _ _) mcX10_within ml_X10_132 msX10_within rfl (by decide) (Nat.le_of_ble_eq_true rfl) (fun x53 => ?_)
          refine aw_if_eq 69 dX10_worst_56 (by decide) ?_ ?_
          · refine aw_ldc2 dX10_worst_69 cj_X10_136 ?_
            exact aw_lret dX10_worst_72 rfl
          · refine aw_iload dX10_worst_59 rfl ?_
            refine aw_iconst (0 : Int32) dX10_worst_61 rfl ?_
            refine aw_iconst (3 : Int32) dX10_worst_62 rfl ?_
            refine aw_cS3 puI dX10_worst_63 (ctX10_within _ _ _) mcX10_within ml_X10_132 msX10_within rfl (by decide) (Nat.le_of_ble_eq_true rfl) (fun x63 => ?_)
            refine aw_if_ne 73 dX10_worst_66 (by decide) ?_ ?_
            · refine aw_aload_n dX10_worst_73 rfl ?_
              refine aw_gA dX10_worst_74 fl_X10_48 (fun x74 => ?_)
              refine aw_aload dX10_worst_77 rfl ?_
              refine aw_iload_n dX10_worst_79 rfl ?_
              refine aw_iload_n dX10_worst_80 rfl ?_
              refine aw_cV3 puV dX10_worst_81 (fun o => ctX4_draw o _ _ _) mcX4_draw ml_X10_138 rfl rfl msX4_draw rfl (by decide) (Nat.le_of_ble_eq_true rfl) (fun _ => ?_)
              refine aw_aload_n dX10_worst_84 rfl ?_
              refine aw_gA dX10_worst_85 fl_X10_62 (fun x85 => ?_)
              refine aw_aload_n dX10_worst_88 rfl ?_
              refine aw_gA dX10_worst_89 fl_X10_48 (fun x89 => ?_)
              refine aw_aload dX10_worst_92 rfl ?_
              refine aw_aload_n dX10_worst_94 rfl ?_
              refine aw_gA dX10_worst_95 fl_X10_55 (fun x95 => ?_)
              refine aw_cV3 puV dX10_worst_98 (fun o => ctX2_find o _ _ _) mcX2_find ml_X10_184 rfl rfl msX2_find rfl (by decide) (Nat.le_of_ble_eq_true rfl) (fun _ => ?_)
              refine aw_iload dX10_worst_101 rfl ?_
              refine aw_iconst (2 : Int32) dX10_worst_103 rfl ?_
              refine aw_icmp_ne 119 dX10_worst_104 (by decide) ?_ ?_
              · refine aw_iload dX10_worst_119 rfl ?_
                refine aw_iconst (3 : Int32) dX10_worst_121 rfl ?_
                refine aw_icmp_ne 137 dX10_worst_122 (by decide) ?_ ?_
                · refine aw_aload_n dX10_worst_137 rfl ?_
                  refine aw_gA dX10_worst_138 fl_X10_62 (fun x138 => ?_)
                  refine aw_gA dX10_worst_141 fl_X10_194 (fun x141 => ?_)
                  refine aw_iload dX10_worst_144 rfl ?_
                  refine aw_lald dX10_worst_146 (fun x146 => ?_)
                  refine aw_aload_n dX10_worst_147 rfl ?_
                  refine aw_gA dX10_worst_148 fl_X10_48 (fun x148 => ?_)
                  refine aw_gL dX10_worst_151 fl_X10_146 (fun x151 => ?_)
                  refine aw_iload dX10_worst_154 rfl ?_
                  refine aw_cS3 puL dX10_worst_156 (ctX10_partOf _ _ _) mcX10_partOf ml_X10_150 msX10_partOf rfl (by decide) (Nat.le_of_ble_eq_true rfl) (fun x156 => ?_)
                  exact aw_lret dX10_worst_159 rfl
                · refine aw_aload_n dX10_worst_125 rfl ?_
                  refine aw_gA dX10_worst_126 fl_X10_62 (fun x126 => ?_)
                  refine aw_gA dX10_worst_129 fl_X10_191 (fun x129 => ?_)
                  refine aw_iload dX10_worst_132 rfl ?_
                  refine aw_iald dX10_worst_134 (fun x134 => ?_)
                  refine aw_i2l dX10_worst_135 ?_
                  exact aw_lret dX10_worst_136 rfl
              · refine aw_aload_n dX10_worst_107 rfl ?_
                refine aw_gA dX10_worst_108 fl_X10_62 (fun x108 => ?_)
                refine aw_gA dX10_worst_111 fl_X10_188 (fun x111 => ?_)
                refine aw_iload dX10_worst_114 rfl ?_
                refine aw_iald dX10_worst_116 (fun x116 => ?_)
                refine aw_i2l dX10_worst_117 ?_
                exact aw_lret dX10_worst_118 rfl
            · refine aw_ldc2 dX10_worst_69 cj_X10_136 ?_
              exact aw_lret dX10_worst_72 rfl
      · refine aw_ldc2 dX10_worst_35 cj_X10_127 ?_
        exact aw_lret dX10_worst_38 rfl
