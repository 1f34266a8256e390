/-! What the heap of the machine has to do with a heap of the pure machine; the context of a method; AW: from here the bytecode does as the program says. -/
def arC (cA : ClassId) (l : List Value) : Cell := { cls := cA, slots := l.toArray, vm := .none }
def AT (D : va_G) (K : Nat → ClassId) (a : Nat) (H : Heap) : AC → Prop
  | .inl (ci, fs) => ∃ r : vw_C, vwCl[ci]? = some r ∧ fs.length = r.2.2 ∧ t_OB a (D.1 ci) r.2.2 (D.2 ci) H (fun k => toV (fs.getD k vu))
  | .inr (.inl (t, xs)) => H[a]? = some (arC (K t) (xs.map Value.int))
  | .inr (.inr (.inl xs)) => H[a]? = some (arC (K 1) (xs.map Value.long))
  | .inr (.inr (.inr (t, xs))) => H[a]? = some (arC (K t) (xs.map va_rf))
theorem AT.kept {D : va_G} {K : Nat → ClassId} {a : Nat} {H H1 : Heap} {c : AC} (h : AT D K a H c) (hq : H1[a]? = H[a]?) : AT D K a H1 c := by
  rcases c with ⟨ci, fs⟩ | ⟨t, xs⟩ | xs | ⟨t, xs⟩
  · obtain ⟨r, h1, h2, h3⟩ := h
    exact ⟨r, h1, h2, h3.kept hq⟩
  · exact hq.trans h
  · exact hq.trans h
  · exact hq.trans h
theorem AT.lt {D : va_G} {K : Nat → ClassId} {a : Nat} {H : Heap} {c : AC} (h : AT D K a H c) : a < H.size := by
  rcases c with ⟨ci, fs⟩ | ⟨t, xs⟩ | xs | ⟨t, xs⟩
  · obtain ⟨r, h1, h2, cell, h3, -⟩ := h
    exact (Array.getElem?_eq_some_iff.mp h3).1
  · exact (Array.getElem?_eq_some_iff.mp h).1
  · exact (Array.getElem?_eq_some_iff.mp h).1
  · exact (Array.getElem?_eq_some_iff.mp h).1
/-- the machine's heap H holds what h says, and h's cells are all of the kind A -/
def Rep (D : va_G) (K : Nat → ClassId) (A : Nat → Prop) (h : Hp) (H : Heap) : Prop := H.size = h.2.1 ∧ ∀ (a : Nat) (c : AC), h.1 a = some c → AT D K a H c ∧ A a
theorem Rep.up {D : va_G} {K : Nat → ClassId} {A : Nat → Prop} {h : Hp} {H H1 : Heap} (hR : Rep D K A h H) {a : Nat} {c : AC} (hA : A a) (z : H1.size = H.size) (he : AT D K a H1 c) (oq : ∀ q : Nat, q ≠ a → H1[q]? = H[q]?) : Rep D K A (up h a c) H1 := by
  refine ⟨by rw [z]; exact hR.1, fun b d hb => ?_⟩
  by_cases e : b = a
  · subst e
    simp [_root_.Jvm.Pilot.@@N@@.up] at hb
    subst hb
    exact ⟨he, hA⟩
  · simp [_root_.Jvm.Pilot.@@N@@.up, e] at hb
    obtain ⟨h1, h2⟩ := hR.2 b d hb
    exact ⟨h1.kept (oq b e), h2⟩
theorem Rep.mk {D : va_G} {K : Nat → ClassId} {A : Nat → Prop} {h : Hp} {H H1 : Heap} (hR : Rep D K A h H) {c : AC} {n : Nat} (hA : A H.size) (z : H1.size = H.size + 1) (he : AT D K H.size H1 c) (oq : ∀ q : Nat, q < H.size → H1[q]? = H[q]?) : Rep D K A (mk h c n) H1 := by
  refine ⟨by rw [z, hR.1]; rfl, fun b d hb => ?_⟩
  by_cases e : b = h.2.1
  · subst e
    simp [_root_.Jvm.Pilot.@@N@@.mk] at hb
    subst hb
    rw [← hR.1]
    exact ⟨he, hA⟩
  · simp [_root_.Jvm.Pilot.@@N@@.mk, e] at hb
    obtain ⟨h1, h2⟩ := hR.2 b d hb
    exact ⟨h1.kept (oq b h1.lt), h2⟩
/-- the kinds of arrays -/
def tyl (K : Nat → ClassId) : List (ClassId × FieldType) := [(K 0, .int), (K 1, .long), (K 2, .boolean), (K 3, .object RX0), (K 4, .object RX1), (K 5, .object RX8), (K 6, .array .long)]
def isNest : Cond → Bool
  | .fieldLinkNest .. => true
  | .methodLinkNest .. => true
  | _ => false
def TBg : List Cond := lw_tbl.filter goodWord
def TBn : List Cond := lw_tbl.filter isNest
/-- a static int array of three, that nobody writes -/
def Sta (nm : String) (xs : List Int32) (A : Nat → Prop) (U : State) (H : Heap) : Prop := ∃ t : Nat, va_Z RX10 nm "[I" (.ref t) A U H ∧ va_T .int t xs.length (fun j => .int (xs.getD j 0)) A U H
def least : List Int32 := [0, 1, 0]
def most : List Int32 := [60, 4, 100]
/-- what stays the same all along, at a state -/
def Knw (D : va_G) (K : Nat → ClassId) (A : Nat → Prop) (U : State) : Prop :=
  va_K D vwCl (tyl K) U ∧ (∀ w ∈ TBn, va_Nw w U) ∧ va_AO RX0 U ∧ va_AO RX1 U ∧ va_AO RX8 U ∧ (Cond.arrayOver (.array .long)).before #[] U = true ∧ (∀ q, U.heap.size ≤ q → A q)
def Stt (A : Nat → Prop) (U : State) : Prop := Sta "RULE_LEAST" least A U U.heap ∧ Sta "RULE_MOST" most A U U.heap
/-- own class, size of the locals, what it returns, frames and locals that its calls need, a constructor -/
abbrev Mt : Type := String × Nat × Option FieldType × Nat × Nat × Bool
abbrev Cx : Type := Program × Launch × Env × Room × State × MethodId × Array Value × List Frame × Method × Code × va_G × (Nat → ClassId) × (Nat → Prop) × Nat
abbrev Cx.p (C : Cx) : Program := C.1
abbrev Cx.l (C : Cx) : Launch := C.2.1
abbrev Cx.e (C : Cx) : Env := C.2.2.1
abbrev Cx.R (C : Cx) : Room := C.2.2.2.1
abbrev Cx.s (C : Cx) : State := C.2.2.2.2.1
abbrev Cx.m (C : Cx) : MethodId := C.2.2.2.2.2.1
abbrev Cx.args (C : Cx) : Array Value := C.2.2.2.2.2.2.1
abbrev Cx.below (C : Cx) : List Frame := C.2.2.2.2.2.2.2.1
abbrev Cx.meth (C : Cx) : Method := C.2.2.2.2.2.2.2.2.1
abbrev Cx.c (C : Cx) : Code := C.2.2.2.2.2.2.2.2.2.1
abbrev Cx.D (C : Cx) : va_G := C.2.2.2.2.2.2.2.2.2.2.1
abbrev Cx.K (C : Cx) : Nat → ClassId := C.2.2.2.2.2.2.2.2.2.2.2.1
abbrev Cx.A (C : Cx) : Nat → Prop := C.2.2.2.2.2.2.2.2.2.2.2.2.1
abbrev Cx.u (C : Cx) : Nat := C.2.2.2.2.2.2.2.2.2.2.2.2.2
abbrev WC (C : Cx) (H : Heap) (locs : List Loc) (cells slots : Nat) (Q : State → Prop) (g : JFrame) : Prop := W C.p C.l C.e C.R C.s C.m C.args C.below C.meth C.c H locs cells slots Q g
def Mn (h h' : Hp) : Prop := h.2.1 ≤ h'.2.1 ∧ h.2.2 ≤ h'.2.2
theorem Mn.rf (h : Hp) : Mn h h := ⟨Nat.le_refl _, Nat.le_refl _⟩
theorem Mn.tr {a b c : Hp} (h1 : Mn a b) (h2 : Mn b c) : Mn a c := ⟨Nat.le_trans h1.1 h2.1, Nat.le_trans h1.2 h2.2⟩
/-- what is known of a method's context; its end is at the heap h' -/
def Gd (C : Cx) (cc : ByteArray) (mt : Mt) (h' : Hp) : Prop :=
  C.p.tables.exec = Jvm.exec ∧ C.c.code = cc ∧ C.c.maxLocals = mt.2.1 ∧ C.s.vm.findClass mt.1 = some C.m.cls ∧ (∀ w ∈ TBg, w.before C.args C.s = true) ∧ C.meth.sig.returnType = mt.2.2.1 ∧ C.meth.locks = false ∧
  (mt.2.2.2.2.2 = true → C.meth.name = "<init>") ∧ Knw C.D C.K C.A C.s ∧ Stt C.A C.s ∧ mt.2.2.2.1 ≤ C.R.frames ∧ mt.2.2.2.2.1 ≤ C.R.locals ∧ h'.2.1 - C.s.heap.size ≤ C.R.cells ∧ h'.2.2 - C.u ≤ C.R.slots
/-- how a method ends -/
def Qe (D : va_G) (K : Nat → ClassId) (A : Nat → Prop) (v : Option Value) (h' : Hp) : Array Value → State → Outcome → State → Prop := fun _ st o t => o = .returned v ∧ Rep D K A h' t.heap ∧ va_F A st t
def QC (C : Cx) (v : Option Value) (h' : Hp) : State → Prop := MQ C.below (Qe C.D C.K C.A v h') C.args C.s (h'.2.1 - C.s.heap.size) (h'.2.2 - C.u) C.A
def AW (C : Cx) (cc : ByteArray) (mt : Mt) {R : Type} (q : R → Option Value) (res : R × Hp) (pc : Nat) (ls st : List TV) (P : Mo R) : Prop :=
  ∀ h : Hp, P h = some res → Mn h res.2 ∧ ∀ (H : Heap) (locs : List Loc) (la : Array Slot), Gd C cc mt res.2 → Rep C.D C.K C.A h H → C.u ≤ h.2.2 → va_S C.A C.s.heap H locs → LV la mt.2.1 ls →
    WC C H locs (h.2.1 - C.s.heap.size) (h.2.2 - C.u) (QC C (q res.1) res.2) (F0 C.m pc la (st.map toV))
section AWr
variable {C : Cx} {cc : ByteArray} {mt : Mt} {R : Type} {q : R → Option Value} {res : R × Hp} {pc pc' : Nat} {ls ls' st st' : List TV} {P : Mo R}
/-- an instruction that leaves the heap alone -/
theorem aw_of (hW : ∀ (H : Heap) (locs : List Loc) (cells slots : Nat) (Q : State → Prop) (la : Array Slot), Gd C cc mt res.2 → LV la mt.2.1 ls → (∀ la' : Array Slot, LV la' mt.2.1 ls' → WC C H locs cells slots Q (F0 C.m pc' la' (st'.map toV))) → WC C H locs cells slots Q (F0 C.m pc la (st.map toV)))
    (kk : AW C cc mt q res pc' ls' st' P) : AW C cc mt q res pc ls st P := by
  intro h hP
  obtain ⟨k1, k2⟩ := kk h hP
  exact ⟨k1, fun H locs la G hR hu hS hl => hW H locs _ _ _ la G hl (fun la' hl' => k2 H locs la' G hR hu hS hl')⟩
theorem aw_msk (bs : List Bool) (kk : AW C cc mt q res pc (msk bs ls) st P) : AW C cc mt q res pc ls st P := aw_of (fun _ _ _ _ _ la _ hl k => k la (hl.msk bs)) kk
theorem aw_fl : AW C cc mt q res pc ls st fl := fun h hP => by simp [fl] at hP
theorem aw_iconst {n : Int} (v : Int32) (hd : decode cc pc = .ok (.iconst n, 1)) (hv : Int32.ofInt n = v) (kk : AW C cc mt q res (pc + 1) ls (vi v :: st) P) : AW C cc mt q res pc ls st P :=
  aw_of (fun _ _ _ _ _ la G hl k => lv_iconst G.1 G.2.1 hd hv (k la hl)) kk
theorem aw_bipush {n : Int} (v : Int32) (hd : decode cc pc = .ok (.bipush n, 2)) (hv : (Int8.ofInt n).toInt32 = v) (kk : AW C cc mt q res (pc + 2) ls (vi v :: st) P) : AW C cc mt q res pc ls st P :=
  aw_of (fun _ _ _ _ _ la G hl k => lv_bipush G.1 G.2.1 hd hv (k la hl)) kk
theorem aw_sipush {n : Int} (v : Int32) (hd : decode cc pc = .ok (.sipush n, 3)) (hv : (Int16.ofInt n).toInt32 = v) (kk : AW C cc mt q res (pc + 3) ls (vi v :: st) P) : AW C cc mt q res pc ls st P :=
  aw_of (fun _ _ _ _ _ la G hl k => lv_sipush G.1 G.2.1 hd hv (k la hl)) kk
theorem aw_lconst {n : Fin 2} (v : Int64) (hd : decode cc pc = .ok (.lconst n, 1)) (hv : Int64.ofNat (n : Nat) = v) (kk : AW C cc mt q res (pc + 1) ls (vl v :: st) P) : AW C cc mt q res pc ls st P :=
  aw_of (fun _ _ _ _ _ la G hl k => lv_lconst G.1 G.2.1 hd hv (k la hl)) kk
theorem aw_null (hd : decode cc pc = .ok (.aconst_null, 1)) (kk : AW C cc mt q res (pc + 1) ls (vr none :: st) P) : AW C cc mt q res pc ls st P :=
  aw_of (fun _ _ _ _ _ la G hl k => lv_null G.1 G.2.1 hd (k la hl)) kk
theorem aw_ldc {v : Int32} {i : Nat} (hd : decode cc pc = .ok (.ldc i, 2)) (hw : Cond.constant mt.1 i v ∈ TBg) (kk : AW C cc mt q res (pc + 2) ls (vi v :: st) P) : AW C cc mt q res pc ls st P :=
  aw_of (fun _ _ _ _ _ la G hl k => lv_ldc G.1 G.2.1 G.2.2.2.1 (G.2.2.2.2.1 _ hw) hd (k la hl)) kk
theorem aw_ldcw {v : Int32} {i : Nat} (hd : decode cc pc = .ok (.ldc_w i, 3)) (hw : Cond.constant mt.1 i v ∈ TBg) (kk : AW C cc mt q res (pc + 3) ls (vi v :: st) P) : AW C cc mt q res pc ls st P :=
  aw_of (fun _ _ _ _ _ la G hl k => lv_ldcw G.1 G.2.1 G.2.2.2.1 (G.2.2.2.2.1 _ hw) hd (k la hl)) kk
theorem aw_ldc2 {v : Int64} {i : Nat} (hd : decode cc pc = .ok (.ldc2_w i, 3)) (hw : Cond.constantLong mt.1 i v ∈ TBg) (kk : AW C cc mt q res (pc + 3) ls (vl v :: st) P) : AW C cc mt q res pc ls st P :=
  aw_of (fun _ _ _ _ _ la G hl k => lv_ldc2 G.1 G.2.1 G.2.2.2.1 (G.2.2.2.2.1 _ hw) hd (k la hl)) kk
theorem aw_iload_n {k : Fin 4} {x : Int32} (hd : decode cc pc = .ok (.iload_n k, 1)) (hi : ls[(k : Nat)]? = some (vi x)) (kk : AW C cc mt q res (pc + 1) ls (vi x :: st) P) : AW C cc mt q res pc ls st P :=
  aw_of (fun _ _ _ _ _ la G hl k => lv_iload_n G.1 G.2.1 hd rfl (hl.at hi rfl) (k la hl)) kk
theorem aw_iload {i : Nat} {x : Int32} (hd : decode cc pc = .ok (.iload i, 2)) (hi : ls[i]? = some (vi x)) (kk : AW C cc mt q res (pc + 2) ls (vi x :: st) P) : AW C cc mt q res pc ls st P :=
  aw_of (fun _ _ _ _ _ la G hl k => lv_iload G.1 G.2.1 hd (hl.at hi rfl) (k la hl)) kk
theorem aw_lload_n {k : Fin 4} {x : Int64} (hd : decode cc pc = .ok (.lload_n k, 1)) (hi : ls[(k : Nat)]? = some (vl x)) (kk : AW C cc mt q res (pc + 1) ls (vl x :: st) P) : AW C cc mt q res pc ls st P :=
  aw_of (fun _ _ _ _ _ la G hl k => lv_lload_n G.1 G.2.1 hd rfl (hl.at hi rfl) (k la hl)) kk
theorem aw_lload {i : Nat} {x : Int64} (hd : decode cc pc = .ok (.lload i, 2)) (hi : ls[i]? = some (vl x)) (kk : AW C cc mt q res (pc + 2) ls (vl x :: st) P) : AW C cc mt q res pc ls st P :=
  aw_of (fun _ _ _ _ _ la G hl k => lv_lload G.1 G.2.1 hd (hl.at hi rfl) (k la hl)) kk
theorem aw_aload_n {k : Fin 4} {x : Option Nat} (hd : decode cc pc = .ok (.aload_n k, 1)) (hi : ls[(k : Nat)]? = some (vr x)) (kk : AW C cc mt q res (pc + 1) ls (vr x :: st) P) : AW C cc mt q res pc ls st P :=
  aw_of (fun _ _ _ _ _ la G hl k => by
    cases x with
    | none => exact lv_aload_nN G.1 G.2.1 hd rfl (hl.at hi rfl) (k la hl)
    | some a => exact lv_aload_n G.1 G.2.1 hd rfl (hl.at hi rfl) (k la hl)) kk
theorem aw_aload {i : Nat} {x : Option Nat} (hd : decode cc pc = .ok (.aload i, 2)) (hi : ls[i]? = some (vr x)) (kk : AW C cc mt q res (pc + 2) ls (vr x :: st) P) : AW C cc mt q res pc ls st P :=
  aw_of (fun _ _ _ _ _ la G hl k => by
    cases x with
    | none => exact lv_aloadN G.1 G.2.1 hd (hl.at hi rfl) (k la hl)
    | some a => exact lv_aload G.1 G.2.1 hd (hl.at hi rfl) (k la hl)) kk
theorem aw_istore_n {k : Fin 4} {x : Int32} (hd : decode cc pc = .ok (.istore_n k, 1)) (hn : (k : Nat) < mt.2.1) (kk : AW C cc mt q res (pc + 1) (set1 ls k (vi x)) st P) : AW C cc mt q res pc ls (vi x :: st) P :=
  aw_of (fun _ _ _ _ _ la G hl k => lv_istore_n G.1 G.2.1 hd rfl hl hn rfl (fun la' h => k la' (LV.of1 (v := vi x) h))) kk
theorem aw_istore {i : Nat} {x : Int32} (hd : decode cc pc = .ok (.istore i, 2)) (hn : i < mt.2.1) (kk : AW C cc mt q res (pc + 2) (set1 ls i (vi x)) st P) : AW C cc mt q res pc ls (vi x :: st) P :=
  aw_of (fun _ _ _ _ _ la G hl k => lv_istore G.1 G.2.1 hd hl hn rfl (fun la' h => k la' (LV.of1 (v := vi x) h))) kk
theorem aw_lstore_n {k : Fin 4} {x : Int64} (hd : decode cc pc = .ok (.lstore_n k, 1)) (hn : (k : Nat) + 1 < mt.2.1) (kk : AW C cc mt q res (pc + 1) (set2 ls k (vl x)) st P) : AW C cc mt q res pc ls (vl x :: st) P :=
  aw_of (fun _ _ _ _ _ la G hl k => lv_lstore_n G.1 G.2.1 hd rfl hl hn rfl (fun la' h => k la' (LV.of2 (v := vl x) h))) kk
theorem aw_lstore {i : Nat} {x : Int64} (hd : decode cc pc = .ok (.lstore i, 2)) (hn : i + 1 < mt.2.1) (kk : AW C cc mt q res (pc + 2) (set2 ls i (vl x)) st P) : AW C cc mt q res pc ls (vl x :: st) P :=
  aw_of (fun _ _ _ _ _ la G hl k => lv_lstore G.1 G.2.1 hd hl hn rfl (fun la' h => k la' (LV.of2 (v := vl x) h))) kk
theorem aw_astore_n {k : Fin 4} {x : Option Nat} (hd : decode cc pc = .ok (.astore_n k, 1)) (hn : (k : Nat) < mt.2.1) (kk : AW C cc mt q res (pc + 1) (set1 ls k (vr x)) st P) : AW C cc mt q res pc ls (vr x :: st) P :=
  aw_of (fun _ _ _ _ _ la G hl k => by
    cases x with
    | none => exact lv_astore_nN G.1 G.2.1 hd rfl hl hn rfl (fun la' h => k la' (LV.of1 (v := vr none) h))
    | some a => exact lv_astore_n G.1 G.2.1 hd rfl hl hn rfl (fun la' h => k la' (LV.of1 (v := vr (some a)) h))) kk
theorem aw_astore {i : Nat} {x : Option Nat} (hd : decode cc pc = .ok (.astore i, 2)) (hn : i < mt.2.1) (kk : AW C cc mt q res (pc + 2) (set1 ls i (vr x)) st P) : AW C cc mt q res pc ls (vr x :: st) P :=
  aw_of (fun _ _ _ _ _ la G hl k => by
    cases x with
    | none => exact lv_astoreN G.1 G.2.1 hd hl hn rfl (fun la' h => k la' (LV.of1 (v := vr none) h))
    | some a => exact lv_astore G.1 G.2.1 hd hl hn rfl (fun la' h => k la' (LV.of1 (v := vr (some a)) h))) kk
theorem aw_iinc {i : Nat} {n : Int} {x : Int32} (v : Int32) (hd : decode cc pc = .ok (.iinc i n, 3)) (hi : ls[i]? = some (vi x)) (hv : x + Int32.ofInt n = v) (hn : i < mt.2.1) (kk : AW C cc mt q res (pc + 3) (set1 ls i (vi v)) st P) : AW C cc mt q res pc ls st P :=
  aw_of (fun _ _ _ _ _ la G hl k => by
    obtain ⟨j, hj⟩ := List.getElem?_of_mem (asc_in ls 0 i (vi x) hi rfl)
    rw [Nat.zero_add] at hj
    exact lv_iinc G.1 G.2.1 hd hl hj hv hn rfl (fun la' h => k la' (LV.of1 (v := vi v) h))) kk
theorem aw_iadd {x y : Int32} (hd : decode cc pc = .ok (.iadd, 1)) (kk : AW C cc mt q res (pc + 1) ls (vi (x + y) :: st) P) : AW C cc mt q res pc ls (vi y :: vi x :: st) P := aw_of (fun _ _ _ _ _ la G hl k => lv_iadd G.1 G.2.1 hd (k la hl)) kk
theorem aw_isub {x y : Int32} (hd : decode cc pc = .ok (.isub, 1)) (kk : AW C cc mt q res (pc + 1) ls (vi (x - y) :: st) P) : AW C cc mt q res pc ls (vi y :: vi x :: st) P := aw_of (fun _ _ _ _ _ la G hl k => lv_isub G.1 G.2.1 hd (k la hl)) kk
theorem aw_imul {x y : Int32} (hd : decode cc pc = .ok (.imul, 1)) (kk : AW C cc mt q res (pc + 1) ls (vi (x * y) :: st) P) : AW C cc mt q res pc ls (vi y :: vi x :: st) P := aw_of (fun _ _ _ _ _ la G hl k => lv_imul G.1 G.2.1 hd (k la hl)) kk
theorem aw_iand {x y : Int32} (hd : decode cc pc = .ok (.iand, 1)) (kk : AW C cc mt q res (pc + 1) ls (vi (x &&& y) :: st) P) : AW C cc mt q res pc ls (vi y :: vi x :: st) P := aw_of (fun _ _ _ _ _ la G hl k => lv_iand G.1 G.2.1 hd (k la hl)) kk
theorem aw_ladd {x y : Int64} (hd : decode cc pc = .ok (.ladd, 1)) (kk : AW C cc mt q res (pc + 1) ls (vl (x + y) :: st) P) : AW C cc mt q res pc ls (vl y :: vl x :: st) P := aw_of (fun _ _ _ _ _ la G hl k => lv_ladd G.1 G.2.1 hd (k la hl)) kk
theorem aw_lsub {x y : Int64} (hd : decode cc pc = .ok (.lsub, 1)) (kk : AW C cc mt q res (pc + 1) ls (vl (x - y) :: st) P) : AW C cc mt q res pc ls (vl y :: vl x :: st) P := aw_of (fun _ _ _ _ _ la G hl k => lv_lsub G.1 G.2.1 hd (k la hl)) kk
theorem aw_lmul {x y : Int64} (hd : decode cc pc = .ok (.lmul, 1)) (kk : AW C cc mt q res (pc + 1) ls (vl (x * y) :: st) P) : AW C cc mt q res pc ls (vl y :: vl x :: st) P := aw_of (fun _ _ _ _ _ la G hl k => lv_lmul G.1 G.2.1 hd (k la hl)) kk
theorem aw_land {x y : Int64} (hd : decode cc pc = .ok (.land, 1)) (kk : AW C cc mt q res (pc + 1) ls (vl (x &&& y) :: st) P) : AW C cc mt q res pc ls (vl y :: vl x :: st) P := aw_of (fun _ _ _ _ _ la G hl k => lv_land G.1 G.2.1 hd (k la hl)) kk
theorem aw_lor {x y : Int64} (hd : decode cc pc = .ok (.lor, 1)) (kk : AW C cc mt q res (pc + 1) ls (vl (x ||| y) :: st) P) : AW C cc mt q res pc ls (vl y :: vl x :: st) P := aw_of (fun _ _ _ _ _ la G hl k => lv_lor G.1 G.2.1 hd (k la hl)) kk
theorem aw_lxor {x y : Int64} (hd : decode cc pc = .ok (.lxor, 1)) (kk : AW C cc mt q res (pc + 1) ls (vl (x ^^^ y) :: st) P) : AW C cc mt q res pc ls (vl y :: vl x :: st) P := aw_of (fun _ _ _ _ _ la G hl k => lv_lxor G.1 G.2.1 hd (k la hl)) kk
theorem aw_lneg {x : Int64} (hd : decode cc pc = .ok (.lneg, 1)) (kk : AW C cc mt q res (pc + 1) ls (vl (-x) :: st) P) : AW C cc mt q res pc ls (vl x :: st) P := aw_of (fun _ _ _ _ _ la G hl k => lv_lneg G.1 G.2.1 hd (k la hl)) kk
theorem aw_i2l {x : Int32} (hd : decode cc pc = .ok (.i2l, 1)) (kk : AW C cc mt q res (pc + 1) ls (vl x.toInt64 :: st) P) : AW C cc mt q res pc ls (vi x :: st) P := aw_of (fun _ _ _ _ _ la G hl k => lv_i2l G.1 G.2.1 hd rfl (k la hl)) kk
theorem aw_l2i {x : Int64} (hd : decode cc pc = .ok (.l2i, 1)) (kk : AW C cc mt q res (pc + 1) ls (vi x.toInt32 :: st) P) : AW C cc mt q res pc ls (vl x :: st) P := aw_of (fun _ _ _ _ _ la G hl k => lv_l2i G.1 G.2.1 hd rfl (k la hl)) kk
/-- x >>> k, x << k, x >> k of longs -/
def usr (x : Int64) (y : Int32) : Int64 := (x.toUInt64 >>> (y.toInt64.toUInt64 &&& Int64.toUInt64 63)).toInt64
def slL (x : Int64) (y : Int32) : Int64 := x <<< (y.toInt64 &&& 63)
def srL (x : Int64) (y : Int32) : Int64 := x >>> (y.toInt64 &&& 63)
theorem aw_lushr {x : Int64} {y : Int32} (hd : decode cc pc = .ok (.lushr, 1)) (kk : AW C cc mt q res (pc + 1) ls (vl (usr x y) :: st) P) : AW C cc mt q res pc ls (vi y :: vl x :: st) P := aw_of (fun _ _ _ _ _ la G hl k => lv_lushr G.1 G.2.1 hd rfl (k la hl)) kk
theorem aw_lshl {x : Int64} {y : Int32} (hd : decode cc pc = .ok (.lshl, 1)) (kk : AW C cc mt q res (pc + 1) ls (vl (slL x y) :: st) P) : AW C cc mt q res pc ls (vi y :: vl x :: st) P := aw_of (fun _ _ _ _ _ la G hl k => lv_lshl G.1 G.2.1 hd rfl (k la hl)) kk
theorem aw_lshr {x : Int64} {y : Int32} (hd : decode cc pc = .ok (.lshr, 1)) (kk : AW C cc mt q res (pc + 1) ls (vl (srL x y) :: st) P) : AW C cc mt q res pc ls (vi y :: vl x :: st) P := aw_of (fun _ _ _ _ _ la G hl k => lv_lshr G.1 G.2.1 hd rfl (k la hl)) kk
theorem aw_dup {v : TV} (hd : decode cc pc = .ok (.dup, 1)) (hc : catT v = 1) (kk : AW C cc mt q res (pc + 1) ls (v :: v :: st) P) : AW C cc mt q res pc ls (v :: st) P := aw_of (fun _ _ _ _ _ la G hl k => lv_dup G.1 G.2.1 hd ((cat_toV v).trans hc) (k la hl)) kk
theorem aw_pop {v : TV} (hd : decode cc pc = .ok (.pop, 1)) (hc : catT v = 1) (kk : AW C cc mt q res (pc + 1) ls st P) : AW C cc mt q res pc ls (v :: st) P := aw_of (fun _ _ _ _ _ la G hl k => lv_pop G.1 G.2.1 hd ((cat_toV v).trans hc) (k la hl)) kk
theorem aw_dup2 {v w : TV} (hd : decode cc pc = .ok (.dup2, 1)) (hc : catT v = 1) (hc2 : catT w = 1) (kk : AW C cc mt q res (pc + 1) ls (v :: w :: v :: w :: st) P) : AW C cc mt q res pc ls (v :: w :: st) P := aw_of (fun _ _ _ _ _ la G hl k => lv_dup2_11 G.1 G.2.1 hd ((cat_toV v).trans hc) ((cat_toV w).trans hc2) (k la hl)) kk
theorem aw_goto {off : Int} (tgt : Nat) (hd : decode cc pc = .ok (.goto off, 3)) (ht : (pc : Int) + off = (tgt : Int)) (kk : AW C cc mt q res tgt ls st P) : AW C cc mt q res pc ls st P := aw_of (fun _ _ _ _ _ la G hl k => lv_goto G.1 G.2.1 hd ht (k la hl)) kk
end AWr
