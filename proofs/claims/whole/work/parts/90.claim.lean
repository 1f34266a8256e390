/-! THE CLAIM OUT OF ONE WALK OF THE LAW'S BODY. Your part is whole_start (and what it stands on); all else here is the same for every law, but numbers. -/
def R_law : String := "RollingLoadsLaw"
def lw_P (b : Addr) (xs : List Int32) (args : Array Value) (s : State) : Prop := args = #[.ref b] ∧ s.IntsAt b xs ∧ xs.length ≤ 4096 ∧ (Jvm.Cond.and given_1 narrow_1).before args s = true
def lw_Q (_ : Array Value) (s : State) (o : Outcome) (t : State) : Prop := o = .returned (some (.int 1)) ∧ Framed s o t [] 600000 7302250
def lw_Z (below : List Frame) (a : Array Value) (s : State) : State → Prop := fun t => ∃ o, t.status = .running ∧ Ended t below o ∧ lw_Q a s o t
/-- the law's own end, with 1 on the stack, nothing written that was there before, its room as the claim has it -/
theorem lw_ret {p : Program} {l : Launch} {e : Env} {s : State} {m : MethodId} {below : List Frame} {meth : Method} {c : Code} {b : Nat} (hx : p.tables.exec = Jvm.exec) (hb : c.code = code) (hr : meth.sig.returnType = ret) (hlocks : meth.locks = false) {pc : Nat} {H : Heap} {ls : Array Slot} (hdg : decode code pc = .ok (.ireturn, 1)) : W p l e room_1 s m #[Value.ref b] below meth c H [] 600000 7302250 (lw_Z below #[Value.ref b] s) (F0 m pc ls [.int 1]) := by
  intro T hT X
  obtain ⟨fs, hret, hrun, hended, hW, hframe⟩ := X.leave (v := some (.int 1)) (hlocks := hlocks) (fun h => by rw [hr] at h; cases h)
  have hmeth' : T.vm.method? m = some meth := X.method'
  refine ⟨T.setFrames fs, ?_, .returned (some (.int 1)), hrun, hended, rfl, ⟨_, rfl⟩, hW, hframe⟩
  jvm_step X.here [X.here.top, hx, hb, hdg, hmeth', hr, ret, narrow_b1]
  (try refine ⟨rfl, ?_⟩); (try refine ⟨rfl, ?_⟩)
  first | (intro acts; rw [hret _ acts rfl rfl rfl]) | rw [hret _ _ rfl rfl rfl]
  exact Steps.refl _
/-- what holds at the law's entry: the machine, the code, the tables' words (any of lw_tbl by 'hts w (by decide +kernel)'), the script of L ints xs at the cell b, what the Statement gives of the start (any of its parts by flat_of_before) -/
def lw_At (p : Program) (s : State) (m : MethodId) (meth : Method) (c : Code) (b L : Nat) (xs : Nat → Int32) : Prop :=
  p.tables.exec = Jvm.exec ∧ c.code = code ∧ meth.sig.returnType = ret ∧ c.maxLocals = 4 ∧ s.vm.findClass R_law = some m.cls ∧ (∀ w ∈ lw_tbl, w.before #[Value.ref b] s = true) ∧ va_X b L xs s s.heap ∧ b < s.heap.size ∧ meth.locks = false ∧ (Jvm.Cond.and given_1 narrow_1).before #[Value.ref b] s = true
theorem wh_K {s : State} {args : Array Value} (hts : ∀ w ∈ TBg, w.before args s = true) : ∃ D : va_G, ∀ (k : Nat) (q : vw_C), vwCl[k]? = some q → u_Kn s q.1 q.2.1 q.2.2 (D.1 k) (D.2 k) := by
  have h : ∀ k : Nat, ∃ y : ClassId × (Nat → Nat), ∀ q : vw_C, vwCl[k]? = some q → u_Kn s q.1 q.2.1 q.2.2 y.1 y.2 := by
    intro k
    cases hk : vwCl[k]? with
    | none => exact ⟨(0, fun _ => 0), fun q h => by cases h⟩
    | some r =>
      obtain ⟨c, i, h⟩ := u_known (ws := TBg) hts (cls_in k r hk) (hts _ (cls_new k r hk).1)
      exact ⟨(c, i), fun q hq => by cases hq; exact h⟩
  obtain ⟨f, hf⟩ := Classical.axiomOfChoice h
  exact ⟨(fun k => (f k).1, fun k => (f k).2), hf⟩
theorem wh_A1 {s : State} {args : Array Value} {ty : FieldType} (h : (Cond.arrayClass ty).before args s = true) : ∃ c : ClassId, s.vm.findClass ("[" ++ ty.toString) = some c ∧ ArrOfT s c ty := by
  obtain ⟨c, k, comp, h1, h2, h3⟩ := Cond.arrayClass_spec h
  exact ⟨c, h1, fun _ _ => ⟨(fun _ h => by cases h), k, h2, comp, h3⟩⟩
theorem wh_A2 {s : State} {C : String} (h : va_AO C s) : ∃ c : ClassId, ArrOfT s c (.object C) ∧ va_RA s c (.object C) := by
  obtain ⟨comp, c, k, h1, -, h3, h4, h5⟩ := Cond.arrayOver_spec h
  exact ⟨c, fun _ _ => ⟨(fun _ h => by cases h), k, h3, comp, h4⟩, k, comp, h3, h4, h1, h5⟩
theorem wh_A3 {s : State} (h : (Cond.arrayOver (.array .long)).before #[] s = true) : ∃ c : ClassId, ArrOfT s c (.array .long) ∧ va_RA s c (.array .long) := by
  obtain ⟨comp, c, k, h1, -, h3, h4, h5⟩ := arrayOverA_spec h
  exact ⟨c, fun _ _ => ⟨(fun _ h => by cases h), k, h3, comp, h4⟩, h5⟩
theorem wh_tb {s : State} {args : Array Value} {nm : String} {xs : List Int32} (hlen : xs.length = 3) (hl : (Cond.laysStatic "RollingLoads" nm "[I").before args s = true) (hini : (Cond.initialized "RollingLoads").before args s = true) (harr : (Cond.arrayOf (.static "RollingLoads" nm "[I") .int).before args s = true) (h3 : (Cond.eq (.length (.static "RollingLoads" nm "[I")) (.int 3)).before args s = true) (h0 : (Cond.eq (.elem (.static "RollingLoads" nm "[I") (.int 0)) (.int (xs.getD 0 0))).before args s = true) (h1 : (Cond.eq (.elem (.static "RollingLoads" nm "[I") (.int 1)) (.int (xs.getD 1 0))).before args s = true) (h2 : (Cond.eq (.elem (.static "RollingLoads" nm "[I") (.int 2)) (.int (xs.getD 2 0))).before args s = true) : Sta nm xs (fun q => s.heap.size ≤ q) s s.heap := by
  have hA : ∀ a : Nat, a < s.heap.size → ¬ (fun q => s.heap.size ≤ q) a := fun a h => Nat.not_le.mpr h
  obtain ⟨t, ht, hT⟩ := va_Tof (tm := .static "RollingLoads" nm "[I") (ty := .int) (N := xs.length) (f := fun j => .int (xs.getD j 0)) (by omega) harr (by rw [hlen]; exact va_eqt h3) (fun j hj => by
    rw [hlen] at hj
    match j, hj with
    | 0, _ => exact va_eqt h0
    | 1, _ => exact va_eqt h1
    | 2, _ => exact va_eqt h2
    | j + 3, hj => omega) hA
  exact ⟨t, va_Zof hl hini ht hA, hT⟩
set_option maxHeartbeats 4000000 in
set_option maxRecDepth 100000 in
theorem whole_start {p : Program} {e : Env} {s : State} {m : MethodId} {below : List Frame} {meth : Method} {c : Code} (l : Launch) {b L : Nat} {xs : Nat → Int32} (hL : L ≤ 4096) (C0 : lw_At p s m meth c b L xs) : W p l e room_1 s m #[Value.ref b] below meth c s.heap [] 0 0 (lw_Z below #[Value.ref b] s) (entryFrame m ([Value.ref b] : List Value).toArray 4) := by
  obtain ⟨hx, hb, hr, hml, hown, hts, hX, hbl, hlocks, hgv⟩ := id C0
  have htg : ∀ w ∈ TBg, w.before #[Value.ref b] s = true := fun w hw => hts w (List.mem_filter.mp hw).1
  have htn : ∀ w ∈ TBn, va_Nw w s := fun w hw => by
    have h1 := hts w (List.mem_filter.mp hw).1
    have h2 : isNest w = true := (List.mem_filter.mp hw).2
    cases w <;> first | exact va_Nw.of rfl h1 | cases h2
  obtain ⟨D, hD⟩ := wh_K htg
  have ao0 : va_AO RX0 s := va_AO.of (hts (.arrayOver (.object RX0)) (by decide +kernel))
  have ao1 : va_AO RX1 s := va_AO.of (hts (.arrayOver (.object RX1)) (by decide +kernel))
  have ao8 : va_AO RX8 s := va_AO.of (hts (.arrayOver (.object RX8)) (by decide +kernel))
  have aoL : (Cond.arrayOver (.array .long)).before #[] s = true := over_moved (Vm.Alike.refl s.vm) (hts (.arrayOver (.array .long)) (by decide +kernel))
  obtain ⟨k0, a0, b0⟩ := wh_A1 (hts (.arrayClass .int) (by decide +kernel))
  obtain ⟨k1, a1, b1⟩ := wh_A1 (hts (.arrayClass .long) (by decide +kernel))
  obtain ⟨k2, a2, b2⟩ := wh_A1 (hts (.arrayClass .boolean) (by decide +kernel))
  obtain ⟨k3, a3, b3⟩ := wh_A2 ao0
  obtain ⟨k4, a4, b4⟩ := wh_A2 ao1
  obtain ⟨k5, a5, b5⟩ := wh_A2 ao8
  obtain ⟨k6, a6, b6⟩ := wh_A3 aoL
  obtain ⟨K, e0, e1, e2, e3, e4, e5, e6⟩ : ∃ K : Nat → ClassId, K 0 = k0 ∧ K 1 = k1 ∧ K 2 = k2 ∧ K 3 = k3 ∧ K 4 = k4 ∧ K 5 = k5 ∧ K 6 = k6 := ⟨fun i => [k0, k1, k2, k3, k4, k5, k6].getD i 0, rfl, rfl, rfl, rfl, rfl, rfl, rfl⟩
  subst e0 e1 e2 e3 e4 e5 e6
  have hK : va_K D vwCl (tyl K) s := ⟨hD, fun k q hq => by
    match k, hq with
    | 0, hq => cases hq; exact ⟨b0, a0⟩
    | 1, hq => cases hq; exact ⟨b1, a1⟩
    | 2, hq => cases hq; exact ⟨b2, a2⟩
    | 3, hq => cases hq; exact ⟨a3, b3⟩
    | 4, hq => cases hq; exact ⟨a4, b4⟩
    | 5, hq => cases hq; exact ⟨a5, b5⟩
    | 6, hq => cases hq; exact ⟨a6, b6⟩
    | k + 7, hq => simp [tyl] at hq⟩
  have hgs := flat_of_before _ hgv
  have hini : (Cond.initialized "RollingLoads").before #[Value.ref b] s = true := hts _ (by decide +kernel)
  have hS1 : Sta "RULE_LEAST" least (fun q => s.heap.size ≤ q) s s.heap := wh_tb rfl (hts (.laysStatic "RollingLoads" "RULE_LEAST" "[I") (by decide +kernel)) hini (hgs _ (by decide +kernel)) (hgs _ (by decide +kernel)) (hgs _ (by decide +kernel)) (hgs _ (by decide +kernel)) (hgs _ (by decide +kernel))
  have hS2 : Sta "RULE_MOST" most (fun q => s.heap.size ≤ q) s s.heap := wh_tb rfl (hts (.laysStatic "RollingLoads" "RULE_MOST" "[I") (by decide +kernel)) hini (hgs _ (by decide +kernel)) (hgs _ (by decide +kernel)) (hgs _ (by decide +kernel)) (hgs _ (by decide +kernel)) (hgs _ (by decide +kernel))
  obtain ⟨h', hP, z1, z2⟩ := law_pure L xs s.heap.size hL
  have hbA : ¬ (fun q => s.heap.size ≤ q) b := Nat.not_le.mpr hbl
  have G : Gd (p, l, e, room_1, s, m, #[Value.ref b], below, meth, c, D, K, (fun q => s.heap.size ≤ q), 0) cL_law mL_law h' := ⟨hx, hb, hml, hown, htg, hr, hlocks, (fun h => by cases h), ⟨hK, htn, ao0, ao1, ao8, aoL, fun _ h => h⟩, ⟨hS1, hS2⟩, (Nat.le_of_ble_eq_true rfl), (Nat.le_of_ble_eq_true rfl), (by show h'.2.1 - s.heap.size ≤ 600000; omega), (by show h'.2.2 - 0 ≤ 7302250; omega)⟩
  have hR : Rep D K (fun q => s.heap.size ≤ q) (fun _ => none, s.heap.size, 0) s.heap := ⟨rfl, fun a c h => by cases h⟩
  have hle := lv_entry ([.ref b]) (n := 4) (Nat.le_of_ble_eq_true rfl)
  have hLV : LV ((lg_sl [Value.ref b] ++ List.replicate (4 - (lg_sl [Value.ref b]).length) Slot.unset).toArray) 4 [vr (some b), vu, vu, vu] := ⟨hle.1, hle.2.1, fun w hw => hle.2.2 w hw⟩
  have k := (awL_law (C := (p, l, e, room_1, s, m, #[Value.ref b], below, meth, c, D, K, (fun q => s.heap.size ≤ q), 0)) (res := (1, h')) hX hbl hbA _ hP).2 s.heap [] _ G hR (Nat.le_refl _) va_S.rf hLV
  rw [lg_entry_eq]
  intro T hT X
  have e1 : s.heap.size - s.heap.size = 0 := Nat.sub_self _
  have k' : W p l e room_1 s m #[Value.ref b] below meth c s.heap [] (s.heap.size - s.heap.size) (0 - 0) (MQ below (Qe D K (fun q => s.heap.size ≤ q) (some (.int 1)) h') #[Value.ref b] s (h'.2.1 - s.heap.size) (h'.2.2 - 0) (fun q => s.heap.size ≤ q)) (F0 m 0 ((lg_sl [Value.ref b] ++ List.replicate (4 - (lg_sl [Value.ref b]).length) Slot.unset).toArray) []) := k
  rw [e1] at k'
  obtain ⟨t, st, o, hrun, hend, ⟨ho, -, -⟩, Lc, ⟨g1, g2, g3⟩, hLc⟩ := k' T hT X
  exact ⟨t, st, o, hrun, hend, ho, g1, g2, g3.weaken (fun y hy hlt => absurd hlt (Nat.not_lt.mpr (hLc y hy))) (by omega) (by omega)⟩
-- ===== YOUR PART ENDS =====
set_option maxHeartbeats 4000000 in
theorem lw_walk (l : Launch) (b : Addr) (xs : List Int32) : MetFree l x (headSpec (Jvm.Cond.code x code maxLocals ret :: tables_1) room_1) (lw_P b xs) (fun _ _ _ _ _ => True) lw_Q := by
  refine MetFree.of_bodyS (code := code) (maxLocals := maxLocals) (ret := ret) (by decide) ?_ ?_
  · intro args s m h hn
    obtain ⟨meth, c, h1, h2, h3, h4, h5, h6, -, -⟩ := Cond.code_spec hn (atoms_spec (ws := Jvm.Cond.code x code maxLocals ret :: tables_1) h _ List.mem_cons_self)
    exact ⟨meth, c, h1, h2, h3, h4, h5, h6⟩
  · intro p e s m args below meth c s₁ B hml0 hP _
    obtain ⟨rfl, hx, hbd, hgv⟩ := hP
    obtain ⟨scr, harrAt, hlist, hof, hsmall⟩ := hx
    obtain ⟨hcb, hkn, -, -⟩ := State.arrayAt?_spec harrAt
    have hown : s.vm.findClass R_law = some m.cls := findClass_of_methodNamed B.named
    have hts0 : ∀ c ∈ (Jvm.Cond.code x code maxLocals ret :: tables_1), c.before #[Value.ref b] s = true := atoms_spec (ws := Jvm.Cond.code x code maxLocals ret :: tables_1) B.pre
    have hts : ∀ w ∈ lw_tbl, w.before #[Value.ref b] s = true := k2_hts_sels lw_privs (fun w hw => hts0 w (List.mem_cons_of_mem _ hw)) lw_privs_ok
    have hml : c.maxLocals = 4 := B.maxLocals_eq (hts0 _ List.mem_cons_self)
    have X₀ : Stand p l e room_1 s m #[Value.ref b] below meth c s₁ [] 0 0 := Stand.of_body B
    have hh0 : s₁.heap = s.heap := by rw [B.state]; rfl
    have hsz : scr.slots.size = xs.length := by rw [← Array.length_toList, hlist, List.length_map]
    have hval : ∀ j : Nat, j < xs.length → scr.slots[j]? = some (.int (xs.getD j 0)) := fun j hj => by
      rw [← Array.getElem?_toList, hlist]
      simp [hj]
    have hbl : b < s.heap.size := (Array.getElem?_eq_some_iff.mp hcb).1
    have hX : va_X b xs.length (fun j => xs.getD j 0) s s.heap := ⟨scr, hcb, hof, hkn, hsz, hval⟩
    have K : W p l e room_1 s m #[Value.ref b] below meth c s₁.heap [] 0 0 (lw_Z below #[Value.ref b] s) (entryFrame m ([Value.ref b] : List Value).toArray 4) := by
      rw [hh0]
      exact whole_start l hbd ⟨B.exec, B.bytes, B.returns, hml, hown, hts, hX, hbl, B.notSynchronized, hgv⟩
    obtain ⟨t, a1, o, b1, b2, b3⟩ := K s₁ rfl X₀
    exact ⟨t, o, a1, b1, b2, b3⟩
theorem lw_pre_spec {args : Array Value} {s : State} (h : (Jvm.Cond.and given_1 narrow_1).before args s = true) (hr : rest_1_c.before args s = true) : ∃ (b : Addr) (xs : List Int32), lw_P b xs args s := by
  have hs := flat_of_before _ h
  have hq := flat_of_before _ hr
  have hc : (Cond.count 1).before args s = true := hs _ (by decide +kernel)
  have harr : (Cond.arrayOf (.arg 0) .int).before args s = true := hs _ (by decide +kernel)
  have hle : (Cond.le (.length (.arg 0)) (.int 4096)).before args s = true := hs _ (by decide +kernel)
  have hlen : (Cond.isInt (.length (.arg 0))).before args s = true := hq _ (by decide +kernel)
  have hall : (Cond.all (.arg 0) (.isInt (.elem (.arg 0) (.index 0)))).before args s = true := hq _ (by decide +kernel)
  obtain ⟨b, xs, hb, hx⟩ := State.ints_of_pre rfl harr hlen hall
  have hsm : xs.length < 2 ^ 31 := hx.choose_spec.2.2.2
  have hev : (Term.length (.arg 0)).eval args s none [] s = some (.int xs.length.toInt32) := hx.length_eval hb
  have hv := Cond.le_ints hev (show (Term.int 4096).eval args s none [] s = some (.int 4096) from rfl)
  have hd : xs.length.toInt32 ≤ 4096 := by
    simpa [Cond.before, Cond.holds, hv] using hle
  have hN : xs.length ≤ 4096 := (Int32.ofNat_le_ofNat hsm (by decide)).mp (show Int32.ofNat xs.length ≤ Int32.ofNat 4096 from hd)
  exact ⟨b, xs, Cond.one_arg hc (show args[0]? = some (.ref b) from hb), hx, hN, h⟩
theorem lw_comes (l : Launch) : Comes l x (Jvm.Cond.code x code maxLocals ret :: tables_1) room_1 (fun tb e args s => Calls_1 tb e args s ∧ rest_1 tb e args s ∧ Pre_1 tb e args s)
    (fun _ _ args s o t => lw_Q args s o t) := by
  intro p e ha hc hk s m args below hf hfit hheap happ hpre
  obtain ⟨b, xs, hP⟩ := lw_pre_spec hpre.2.2 hpre.2.1
  obtain ⟨k, o, h1, h2, h3, hQ⟩ := lw_walk l b xs p e ha hc hk s m args below hf ((Spec.applies_iff_loose hf).mp happ).1 hP trivial
  exact ⟨k, o, h1, h2, h3, hQ⟩
theorem lw_frame {s t : State} {o : Outcome} {args : Array Value} (h : Framed s o t [] 600000 7302250) :
    Framed s o t (fieldLocs frame_1_writes args s ++ arrayLocs frame_1_arrays args s ++ staticLocs frame_1_statics s) 600000 7302250 := h
theorem lw_limb (L : Cond) (hL : ∀ (args : Array Value) (s t : State), L.after args s (.returned (some (.int 1))) t = true) :
    ArmFor flags0 classFile x code maxLocals ret World_1 tables_1 room_1 Calls_1 rest_1 Pre_1
      (fun tb e a s o t => postC L tb e a s o t ∧ Framed s o t (fieldLocs frame_1_writes a s ++ arrayLocs frame_1_arrays a s ++ staticLocs frame_1_statics s) 600000 7302250) := by
  intro l _ _ _ p e ha hc hk s m args below hf hfit hheap happ hpre
  obtain ⟨k, o, h1, h2, h3, rfl, hF⟩ := lw_comes l p e ha hc hk s m args below hf hfit hheap happ hpre
  exact ⟨k, _, h1, h2, h3, hL args s _, lw_frame hF⟩
theorem i_vc : Claimed_1_1 ∧ Claimed_1_2 := ⟨lw_limb limb_1_1 (fun args s t => by simp [limb_1_1, Cond.after, Cond.holds, Cond.value]), lw_limb limb_1_2 (fun args s t => Cond.after_iff.mpr (by
  first | (rw [show limb_1_2 = Cond.eq .result (.int 1) from rfl, Cond.eq_ints (x := 1) (y := 1) rfl rfl]; simp; done) | (simp [limb_1_2, Cond.value, Term.eval]; done)))⟩

