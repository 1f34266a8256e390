/-! Contracts of methods, and calls. -/
/-- the method y, called with av, does as P says -/
def Ct (y : MethodName) (cc : ByteArray) (mt : Mt) {R : Type} (q : R → Option Value) (av : List TV) (P : Mo R) : Prop :=
  (∀ (_ : Cx) (h : Hp) (res : R × Hp), P h = some res → Mn h res.2) ∧
  ∀ (l : Launch) (D : va_G) (K : Nat → ClassId) (A : Nat → Prop) (h : Hp) (res : R × Hp), P h = some res → Met l y (Cond.code y cc mt.2.1 mt.2.2.1 :: TBg) (rmOf mt h res.2) (va_Pc (av.map toV) (fun U => Rep D K A h U.heap ∧ Knw D K A U ∧ Stt A U)) (Qe D K A (q res.1) res.2) (res.2.2.1 - h.2.1) (res.2.2.2 - h.2.2) A
theorem ct_of {y : MethodName} {cc : ByteArray} {mt : Mt} {R : Type} {q : R → Option Value} {av : List TV} {P : Mo R} (hy : plainName y.cls = true) (ho : mt.1 = y.cls) (hin : mt.2.2.2.2.2 = true → y.name = "<init>") (hl : (lg_sl (av.map toV)).length ≤ mt.2.1)
    (kk : ∀ (C : Cx) (res : R × Hp), AW C cc mt q res 0 (entL av ++ List.replicate (mt.2.1 - (entL av).length) vu) [] P) : Ct y cc mt q av P := by
  refine ⟨fun C h res hP => (kk C res h hP).1, fun l D K A h res hP => ?_⟩
  refine Met.ofW (cc := cc) (maxL := mt.2.1) (ret := mt.2.2.1) hy rfl ?_
  intro p e s m args below meth c s₁ B hml hv
  obtain ⟨rfl, hR, hKn, hSt⟩ := hv
  have hts := atoms_spec (ws := Cond.code y cc mt.2.1 mt.2.2.1 :: TBg) B.pre
  have hown : s.vm.findClass y.cls = some m.cls := findClass_of_methodNamed B.named
  have hsz : s.heap.size = h.2.1 := hR.1
  have hle := lv_entry (av.map toV) (n := mt.2.1) hl
  have hLV : LV ((lg_sl (av.map toV) ++ List.replicate (mt.2.1 - (lg_sl (av.map toV)).length) Slot.unset).toArray) mt.2.1 (entL av ++ List.replicate (mt.2.1 - (entL av).length) vu) := ⟨hle.1, hle.2.1, fun w hw => hle.2.2 w (ent_mem av 0 _ w hw)⟩
  have G : Gd (p, l, e, rmOf mt h res.2, s, m, (av.map toV).toArray, below, meth, c, D, K, A, h.2.2) cc mt res.2 := ⟨B.exec, B.bytes, hml, by rw [ho]; exact hown, fun w hw => hts w (List.mem_cons_of_mem _ hw), B.returns, B.notSynchronized, fun hi => (name_of_methodNamed B.named B.method).1.trans (hin hi), hKn, hSt, Nat.le_refl _, Nat.le_refl _, by show res.2.2.1 - s.heap.size ≤ res.2.2.1 - h.2.1; rw [hsz]; exact Nat.le_refl _, Nat.le_refl _⟩
  have k := (kk (p, l, e, rmOf mt h res.2, s, m, (av.map toV).toArray, below, meth, c, D, K, A, h.2.2) res h hP).2 s.heap [] _ G hR (Nat.le_refl _) va_S.rf hLV
  rw [lg_entry_eq]
  have e1 : h.2.1 - s.heap.size = 0 := by omega
  have e2 : h.2.2 - h.2.2 = 0 := by omega
  have k' : W p l e (rmOf mt h res.2) s m (av.map toV).toArray below meth c s.heap [] (h.2.1 - s.heap.size) (h.2.2 - h.2.2) (MQ below (Qe D K A (q res.1) res.2) (av.map toV).toArray s (res.2.2.1 - s.heap.size) (res.2.2.2 - h.2.2) A) (F0 m 0 ((lg_sl (av.map toV) ++ List.replicate (mt.2.1 - (lg_sl (av.map toV)).length) Slot.unset).toArray) []) := k
  rw [e1, e2, hsz] at k'
  exact k'
/-- what the tables say of a method that is called -/
def MC (y : MethodName) (cc : ByteArray) (mt : Mt) (n : Nat) : Prop := Cond.code y cc mt.2.1 mt.2.2.1 ∈ TBg ∧ Cond.initialized y.cls ∈ TBg ∧ y.cls ≠ "java/lang/invoke/MethodHandle" ∧ y.cls ≠ "java/lang/invoke/VarHandle" ∧ (parseMethodDescriptor y.desc).map (fun d => d.parameters.length) = some n
def ML (own : String) (idx : Nat) (y : MethodName) : Prop := Cond.methodLink own idx y ∈ TBg ∨ ∃ host, Cond.methodLinkNest own idx y host ∈ TBn
theorem good_tb {y : MethodName} {cc : ByteArray} {mt : Mt} {n : Nat} (h : MC y cc mt n) : GoodIn TBg (Cond.code y cc mt.2.1 mt.2.2.1 :: TBg) := by
  intro w hw
  have h1 : w ∈ TBg := by
    rcases List.mem_cons.mp hw with rfl | h2
    · exact h.1
    · exact h2
  exact ⟨h1, good_of_word (List.mem_filter.mp h1).2⟩
section AWe
variable {C : Cx} {cc cc' : ByteArray} {mt mt' : Mt} {R R' : Type} {q : R → Option Value} {q' : R' → Option Value} {res : R × Hp} {pc pc' tgt : Nat} {ls ls' st st' : List TV} {y : MethodName} {n idx : Nat}
theorem w_ran {h' : Hp} {H : Heap} {locs : List Loc} {cells slots mc ms : Nat} {la : Array Slot} {Q : State → Prop} {st0 rest : List Value} {v : Option Value} {a : Array Value} (hr : va_Run C.p C.l C.e C.R C.s C.m C.args C.below C.meth C.c H locs cells slots mc ms (F0 C.m pc la st0) rest (Qe C.D C.K C.A v h' a) C.A) (hS : va_S C.A C.s.heap H locs)
    (kk : ∀ (H1 : Heap) (locs1 : List Loc), Rep C.D C.K C.A h' H1 → va_S C.A C.s.heap H1 locs1 → WC C H1 locs1 (cells + mc) (slots + ms) Q (F0 C.m (pc + 3) la (v.toList ++ rest))) : WC C H locs cells slots Q (F0 C.m pc la st0) := by
  intro T hT X
  obtain ⟨v', st₀, t, T', L, h0, X', hL, e1, e2, ⟨hv, hR, hz, hk⟩, st⟩ := hr T hT X
  cases hv
  rw [h0] at hz hk
  obtain ⟨t2, a1, b1⟩ := kk T'.heap (locs ++ L) (by rw [e1]; exact hR) ⟨Nat.le_trans hS.1 (by rw [e1]; exact hz), fun x h1 h2 => by rw [e1, hk x (Nat.lt_of_lt_of_le h1 hS.1) h2]; exact hS.2.1 x h1 h2, fun x hx => by
      rcases List.mem_append.mp hx with h | h
      · exact hS.2.2 x h
      · exact hL x h⟩ T' rfl X'
  exact ⟨t2, st t2 a1, b1⟩
theorem cat_sum (st : List TV) (h : (st.map catT).sum ≤ 8) : ((st.map toV).map fun v => v.category).sum ≤ 8 := by
  rw [List.map_map]
  rw [show ((fun v : Value => v.category) ∘ toV) = catT from funext cat_toV]
  exact h
theorem pc_blind (av : List Value) {D : va_G} {K : Nat → ClassId} {A : Nat → Prop} {h : Hp} : FrameBlind (va_Pc av (fun U => Rep D K A h U.heap ∧ Knw D K A U ∧ Stt A U)) :=
  fun _ U _ _ hq => ⟨hq.1, hq.2.1, hq.2.2.1.same (s := U) rfl rfl, hq.2.2.2.moved (u := U) (Vm.Alike.refl U.vm) (fun _ _ _ => rfl)⟩
theorem pc_at {av : List Value} {h h' : Hp} {H : Heap} {locs : List Loc} (G : Gd C cc mt h') (hR : Rep C.D C.K C.A h H) (hS : va_S C.A C.s.heap H locs) (U : State) (hU : U.heap = H) (hW : C.s.WarmedH U.vm) : va_Pc av (fun U => Rep C.D C.K C.A h U.heap ∧ Knw C.D C.K C.A U ∧ Stt C.A U) av.toArray U :=
  ⟨rfl, by rw [hU]; exact hR, G.2.2.2.2.2.2.2.2.1.warm hW (by rw [hU]; exact hS.1), G.2.2.2.2.2.2.2.2.2.1.moved hW.alike (by rw [hU]; exact hS.2.1)⟩
theorem aw_cS {av : List TV} {F : Mo R'} {kk : R' → Mo R} (pu : R' → List TV) (hq : ∀ r, (q' r).toList = (pu r).map toV) (hd : decode cc pc = .ok (.invokestatic idx, 3)) (hCt : Ct y cc' mt' q' av F) (hM : MC y cc' mt' n) (hL : ML mt.1 idx y) (hst : Cond.static y ∈ TBg) (hav : av.length = n) (hrm : mt'.2.2.2.1 + 1 ≤ mt.2.2.2.1 ∧ 8 + (mt'.2.1 + 11) + mt'.2.2.2.2.1 ≤ mt.2.2.2.2.1) (hc : (st.map catT).sum ≤ 8)
    (kn : ∀ r, AW C cc mt q res (pc + 3) ls (pu r ++ st) (kk r)) : AW C cc mt q res pc ls (av.reverse ++ st) (bd F kk) :=
  aw_op (fun h b h' ho => by
    have m1 := hCt.1 C h (b, h') ho
    refine ⟨m1, fun H locs la Q G hR hu hS hl k2 => ?_⟩
    have hMet := hCt.2 C.l C.D C.K C.A h (b, h') ho
    have hsz := sz_of hR hS
    have r1 : mt.2.2.2.1 ≤ C.R.frames := G.2.2.2.2.2.2.2.2.2.2.1
    have r2 : mt.2.2.2.2.1 ≤ C.R.locals := G.2.2.2.2.2.2.2.2.2.2.2.1
    have r3 : h'.2.1 - C.s.heap.size ≤ C.R.cells := G.2.2.2.2.2.2.2.2.2.2.2.2.1
    have r4 : h'.2.2 - C.u ≤ C.R.slots := G.2.2.2.2.2.2.2.2.2.2.2.2.2
    have m2 := m1.1
    have m3 := m1.2
    have e1 : h'.2.1 - C.s.heap.size = h.2.1 - C.s.heap.size + (h'.2.1 - h.2.1) := by simp only at m2 m3; omega
    have e2 : h'.2.2 - C.u = h.2.2 - C.u + (h'.2.2 - h.2.2) := by simp only at m2 m3; omega
    rw [e1] at r3
    rw [e2] at r4
    have S : CallFix C.p C.m C.c cc mt.2.1 C.s C.args TBg mt.1 := ⟨G.1, G.2.1, G.2.2.1, G.2.2.2.1, G.2.2.2.2.1⟩
    have hstk : (av.reverse ++ st).map toV = (av.map toV).reverse ++ st.map toV := by simp
    have hrm2 : (rmOf mt' h h').frames + 1 ≤ C.R.frames ∧ 8 + (mt'.2.1 + 11) + (rmOf mt' h h').locals ≤ C.R.locals := ⟨Nat.le_trans hrm.1 r1, Nat.le_trans hrm.2 r2⟩
    have fin : va_Run C.p C.l C.e C.R C.s C.m C.args C.below C.meth C.c H locs (h.2.1 - C.s.heap.size) (h.2.2 - C.u) (h'.2.1 - h.2.1) (h'.2.2 - h.2.2) (F0 C.m pc la ((av.reverse ++ st).map toV)) (st.map toV) (Qe C.D C.K C.A (q' b) h' (av.map toV).toArray) C.A := by
      rcases hL with hL | ⟨host, hL⟩
      · exact va_runS (As := av.map toV) S hMet ⟨callB_of n G.2.2.2.2.1 (good_tb hM) rfl rfl rfl (G.2.2.2.2.1 _ hM.2.1) (G.2.2.2.2.1 _ hL) hM.2.2 hrm2, G.2.2.2.2.1 _ hst⟩ ⟨pc_blind _, pc_at G hR hS⟩ rfl (by simpa using hav) hl.1 hstk (lv_room (cat_sum st hc)) hd ⟨r3, r4⟩
      · exact va_runSN (As := av.map toV) S hMet ⟨va_cnB n G.2.2.2.2.1 (good_tb hM) rfl rfl rfl (G.2.2.2.2.2.2.2.2.1.2.1 _ hL) (G.2.2.2.2.1 _ hM.2.1) hM.2.2 hrm2, G.2.2.2.2.1 _ hst, trivial⟩ ⟨pc_blind _, pc_at G hR hS⟩ rfl (by simpa using hav) hl.1 hstk (lv_room (cat_sum st hc)) hd ⟨r3, r4⟩
    refine w_ran fin hS fun H1 locs1 hR1 hS1 => ?_
    have k3 := k2 H1 locs1 hR1 hS1
    rw [e1, e2] at k3
    rw [hq, ← List.map_append]
    exact k3) kn
theorem aw_cI {as : List TV} {r : Option Nat} {F : Nat → Mo Unit} {kk : Unit → Mo R} (hd : decode cc pc = .ok (.invokespecial idx, 3)) (hCt : ∀ a, Ct y cc' mt' (fun _ => none) (vr (some a) :: as) (F a)) (hM : MC y cc' mt' n) (hL : ML mt.1 idx y) (hrt : mt'.2.2.1 = none) (hin : y.name = "<init>") (hst : Cond.instanceMethod y ∈ TBg) (hav : as.length = n) (hrm : mt'.2.2.2.1 + 1 ≤ mt.2.2.2.1 ∧ 8 + (mt'.2.1 + 11) + mt'.2.2.2.2.1 ≤ mt.2.2.2.2.1) (hc : (st.map catT).sum ≤ 8)
    (kn : ∀ u, AW C cc mt q res (pc + 3) ls st (kk u)) : AW C cc mt q res pc ls (as.reverse ++ vr r :: st) (bd (vn r F) kk) :=
  aw_op (st' := fun _ => st) (fun h b h' ho => by
    cases r with
    | none => cases ho
    | some a =>
    have m1 := (hCt a).1 C h (b, h') ho
    refine ⟨m1, fun H locs la Q G hR hu hS hl k2 => ?_⟩
    have hMet := (hCt a).2 C.l C.D C.K C.A h (b, h') ho
    have hsz := sz_of hR hS
    have r1 : mt.2.2.2.1 ≤ C.R.frames := G.2.2.2.2.2.2.2.2.2.2.1
    have r2 : mt.2.2.2.2.1 ≤ C.R.locals := G.2.2.2.2.2.2.2.2.2.2.2.1
    have r3 : h'.2.1 - C.s.heap.size ≤ C.R.cells := G.2.2.2.2.2.2.2.2.2.2.2.2.1
    have r4 : h'.2.2 - C.u ≤ C.R.slots := G.2.2.2.2.2.2.2.2.2.2.2.2.2
    have m2 := m1.1
    have m3 := m1.2
    have e1 : h'.2.1 - C.s.heap.size = h.2.1 - C.s.heap.size + (h'.2.1 - h.2.1) := by simp only at m2 m3; omega
    have e2 : h'.2.2 - C.u = h.2.2 - C.u + (h'.2.2 - h.2.2) := by simp only at m2 m3; omega
    rw [e1] at r3
    rw [e2] at r4
    have S : CallFix C.p C.m C.c cc mt.2.1 C.s C.args TBg mt.1 := ⟨G.1, G.2.1, G.2.2.1, G.2.2.2.1, G.2.2.2.2.1⟩
    have hstk : (as.reverse ++ vr (some a) :: st).map toV = (as.map toV).reverse ++ .ref a :: st.map toV := by simp [toV, va_rf]
    have hrm2 : (rmOf mt' h h').frames + 1 ≤ C.R.frames ∧ 8 + (mt'.2.1 + 11) + (rmOf mt' h h').locals ≤ C.R.locals := ⟨Nat.le_trans hrm.1 r1, Nat.le_trans hrm.2 r2⟩
    have hG := good_tb hM
    have hM1 := hM.1
    rw [hrt] at hMet hG hM1
    have fin : va_Run C.p C.l C.e C.R C.s C.m C.args C.below C.meth C.c H locs (h.2.1 - C.s.heap.size) (h.2.2 - C.u) (h'.2.1 - h.2.1) (h'.2.2 - h.2.2) (F0 C.m pc la ((as.reverse ++ vr (some a) :: st).map toV)) (st.map toV) (Qe C.D C.K C.A none h' (Value.ref a :: as.map toV).toArray) C.A := by
      rcases hL with hL | ⟨host, hL⟩
      · exact va_runI (As := as.map toV) S hMet ⟨callB_of n G.2.2.2.2.1 hG rfl rfl rfl (G.2.2.2.2.1 _ hM.2.1) (G.2.2.2.2.1 _ hL) hM.2.2 hrm2, hin, G.2.2.2.2.1 _ hst⟩ ⟨pc_blind _, pc_at G hR hS⟩ rfl (by simpa using hav) hl.1 hstk (lv_room (cat_sum st hc)) hd ⟨r3, r4⟩
      · exact va_runIN (As := as.map toV) S hMet ⟨va_cnB n G.2.2.2.2.1 hG rfl rfl rfl (G.2.2.2.2.2.2.2.2.1.2.1 _ hL) (G.2.2.2.2.1 _ hM.2.1) hM.2.2 hrm2, hin, G.2.2.2.2.1 _ hst⟩ ⟨pc_blind _, pc_at G hR hS⟩ rfl (by simpa using hav) hl.1 hstk (lv_room (cat_sum st hc)) hd ⟨r3, r4⟩
    refine w_ran fin hS fun H1 locs1 hR1 hS1 => ?_
    have k3 := k2 H1 locs1 hR1 hS1
    rw [e1, e2] at k3
    exact k3) kn
theorem aw_cV {as : List TV} {r : Option Nat} {ci : Nat} {r0 : vw_C} {F : Nat → Mo R'} {kk : R' → Mo R} (pu : R' → List TV) (hq : ∀ r, (q' r).toList = (pu r).map toV) (hd : decode cc pc = .ok (.invokevirtual idx, 3)) (hCt : ∀ a, Ct y cc' mt' q' (vr (some a) :: as) (F a)) (hM : MC y cc' mt' n) (hL : ML mt.1 idx y) (hc0 : vwCl[ci]? = some r0) (hcl : y.cls = r0.1) (hst : Cond.instanceMethod y ∈ TBg ∧ Cond.selects y.cls y y ∈ TBg) (hav : as.length = n) (hrm : mt'.2.2.2.1 + 1 ≤ mt.2.2.2.1 ∧ 8 + (mt'.2.1 + 11) + mt'.2.2.2.2.1 ≤ mt.2.2.2.2.1) (hc : (st.map catT).sum ≤ 8)
    (kn : ∀ r, AW C cc mt q res (pc + 3) ls (pu r ++ st) (kk r)) : AW C cc mt q res pc ls (as.reverse ++ vr r :: st) (bd (vc ci r F) kk) :=
  aw_op (fun h b h' ho => by
    unfold vc at ho
    split at ho
    case h_2 => cases ho
    case h_1 a fs e =>
    obtain ⟨rfl, ha⟩ := obOf_some e
    have m1 := (hCt a).1 C h (b, h') ho
    refine ⟨m1, fun H locs la Q G hR hu hS hl k2 => ?_⟩
    have hMet := (hCt a).2 C.l C.D C.K C.A h (b, h') ho
    have hsz := sz_of hR hS
    have r1 : mt.2.2.2.1 ≤ C.R.frames := G.2.2.2.2.2.2.2.2.2.2.1
    have r2 : mt.2.2.2.2.1 ≤ C.R.locals := G.2.2.2.2.2.2.2.2.2.2.2.1
    have r3 : h'.2.1 - C.s.heap.size ≤ C.R.cells := G.2.2.2.2.2.2.2.2.2.2.2.2.1
    have r4 : h'.2.2 - C.u ≤ C.R.slots := G.2.2.2.2.2.2.2.2.2.2.2.2.2
    have m2 := m1.1
    have m3 := m1.2
    have e1 : h'.2.1 - C.s.heap.size = h.2.1 - C.s.heap.size + (h'.2.1 - h.2.1) := by simp only at m2 m3; omega
    have e2 : h'.2.2 - C.u = h.2.2 - C.u + (h'.2.2 - h.2.2) := by simp only at m2 m3; omega
    rw [e1] at r3
    rw [e2] at r4
    have S : CallFix C.p C.m C.c cc mt.2.1 C.s C.args TBg mt.1 := ⟨G.1, G.2.1, G.2.2.1, G.2.2.2.1, G.2.2.2.2.1⟩
    have hstk : (as.reverse ++ vr (some a) :: st).map toV = (as.map toV).reverse ++ .ref a :: st.map toV := by simp [toV, va_rf]
    have hrm2 : (rmOf mt' h h').frames + 1 ≤ C.R.frames ∧ 8 + (mt'.2.1 + 11) + (rmOf mt' h h').locals ≤ C.R.locals := ⟨Nat.le_trans hrm.1 r1, Nat.le_trans hrm.2 r2⟩
    have hrecv : ∃ cellB : Cell, H[a]? = some cellB ∧ cellB.vm.isStatics = false ∧ C.s.vm.findClass y.cls = some cellB.cls := by
      obtain ⟨⟨r', hr', -, cell, c1, c2, c3, -⟩, -⟩ := hR.2 a _ ha
      cases hc0.symm.trans hr'
      exact ⟨cell, c1, by rw [c3]; rfl, by rw [hcl, c2]; exact (G.2.2.2.2.2.2.2.2.1.1.1 ci _ hc0).2.1⟩
    have fin : va_Run C.p C.l C.e C.R C.s C.m C.args C.below C.meth C.c H locs (h.2.1 - C.s.heap.size) (h.2.2 - C.u) (h'.2.1 - h.2.1) (h'.2.2 - h.2.2) (F0 C.m pc la ((as.reverse ++ vr (some a) :: st).map toV)) (st.map toV) (Qe C.D C.K C.A (q' b) h' (Value.ref a :: as.map toV).toArray) C.A := by
      rcases hL with hL | ⟨host, hL⟩
      · exact va_runV (As := as.map toV) S hMet ⟨callB_of n G.2.2.2.2.1 (good_tb hM) rfl rfl rfl (G.2.2.2.2.1 _ hM.2.1) (G.2.2.2.2.1 _ hL) hM.2.2 hrm2, G.2.2.2.2.1 _ hst.1, G.2.2.2.2.1 _ hst.2⟩ ⟨pc_blind _, hrecv, pc_at G hR hS⟩ rfl (by simpa using hav) hl.1 hstk (lv_room (cat_sum st hc)) hd ⟨r3, r4⟩
      · exact va_runVN (As := as.map toV) S hMet ⟨va_cnB n G.2.2.2.2.1 (good_tb hM) rfl rfl rfl (G.2.2.2.2.2.2.2.2.1.2.1 _ hL) (G.2.2.2.2.1 _ hM.2.1) hM.2.2 hrm2, G.2.2.2.2.1 _ hst.1, G.2.2.2.2.1 _ hst.2⟩ ⟨pc_blind _, hrecv, pc_at G hR hS⟩ rfl (by simpa using hav) hl.1 hstk (lv_room (cat_sum st hc)) hd ⟨r3, r4⟩
    refine w_ran fin hS fun H1 locs1 hR1 hS1 => ?_
    have k3 := k2 H1 locs1 hR1 hS1
    rw [e1, e2] at k3
    rw [hq, ← List.map_append]
    exact k3) kn
end AWe
