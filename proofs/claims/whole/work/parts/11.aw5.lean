/-! new long[n][k]; static tables; Object's constructor; contracts of methods, and calls. -/
theorem out_eq (c : ClassId) (N h0 : Nat) : Jvm.Free.Multi.outerC c N h0 N = arC c ((List.range N).map (fun j => Value.ref (h0 + 1 + j))) := by
  obtain ⟨f1, f2, f3⟩ := Jvm.Free.Multi.outerC_facts c N h0 N
  have f4 := Jvm.Free.Multi.outerC_slot c N h0 N
  generalize hX : Jvm.Free.Multi.outerC c N h0 N = X at f1 f2 f3 f4
  have hp := Jvm.Free.Multi.outerC_plain c N h0 N
  rw [hX] at hp
  obtain ⟨g1, g2⟩ := hp
  have es : X.slots = ((List.range N).map (fun j => Value.ref (h0 + 1 + j))).toArray := by
    apply Array.ext_getElem?
    intro i
    by_cases hi : i < N
    · rw [f4 i hi]
      simp [hi]
    · rw [Array.getElem?_eq_none (by omega)]
      symm
      simp
      omega
  cases X
  simp only at f1 f2 es g1 g2
  subst f1 f2 es g1 g2
  rfl
theorem inn_eq (c : ClassId) (M : Nat) : Jvm.Free.Multi.innerC c M (.long 0) = arC c ((List.replicate M (0 : Int64)).map Value.long) := by
  rw [List.map_replicate, ← arC_rep]
  rfl
section AWd
variable {C : Cx} {cc : ByteArray} {mt : Mt} {R : Type} {q : R → Option Value} {res : R × Hp} {pc pc' tgt : Nat} {ls ls' st st' : List TV} {P P1 P2 : Mo R}
theorem aw_newm {n k : Int32} {idx : Nat} (hw : Cond.classLink mt.1 idx "[[J" ∈ TBg) {kk : Option Nat → Mo R} (hd : decode cc pc = .ok (.multianewarray idx 2, 4)) (kn : ∀ a, AW C cc mt q res (pc + 4) ls (vr a :: st) (kk a)) : AW C cc mt q res pc ls (vi k :: vi n :: st) (bd (nwM n k) kk) :=
  aw_op (fun h b h' ho => by
    unfold nwM at ho
    split at ho
    · cases ho
    · rename_i hn
      cases ho
      generalize hN : n.toNatClampNeg = N at *
      generalize hM : k.toNatClampNeg = M at *
      refine ⟨⟨by show h.2.1 ≤ h.2.1 + 1 + N; omega, by show h.2.2 ≤ h.2.2 + N + N * M; omega⟩, fun H locs la Q G hR hu hS hl2 k2 => ?_⟩
      have hsz := sz_of hR hS
      have hrc : (h.2.1 + 1 + N) - C.s.heap.size ≤ C.R.cells := G.2.2.2.2.2.2.2.2.2.2.2.2.1
      have hrs : (h.2.2 + N + N * M) - C.u ≤ C.R.slots := G.2.2.2.2.2.2.2.2.2.2.2.2.2
      intro T hT Xs
      have hb1 : n.toNatClampNeg * 4 ≤ 536870912 := by rw [hN]; omega
      have hb2 : k.toNatClampNeg * componentBytes .long ≤ 536870912 := by rw [hM]; show M * 8 ≤ _; omega
      have hn1 : ¬ n < 0 := fun q => hn (Or.inl q)
      have hn2 : ¬ k < 0 := fun q => hn (Or.inr (Or.inl q))
      obtain ⟨vm₁, cA, comp, -, fA, fC, -, -, X', step⟩ := Xs.multianewarray2F (ty := .long) G.1 G.2.2.2.1 (G.2.2.2.2.1 _ hw) (G.2.2.2.2.2.2.2.2.1.2.2.2.2.2.1) (G.2.2.2.2.1 _ (by decide +kernel)) (g := F0 C.m pc la (.int k :: .int n :: st.map toV)) rfl (by rw [G.2.1]; exact hd) rfl hn1 hn2 hb1 hb2 (by omega) rfl rfl (by omega) (by rw [hN, hM]; omega)
      have eA : cA = C.K 6 := Option.some.inj (fA.symm.trans (K_of G (t := 6) rfl).2)
      have eC : comp = C.K 1 := Option.some.inj (fC.symm.trans (K_of G (t := 1) rfl).2)
      subst eA eC
      rw [hN, hM] at X' step
      generalize hF : Jvm.Free.Multi.fill (T.setVm vm₁) (C.K 6) (C.K 1) N M (defaultValue .long) N = F at X' step
      have hTh : (T.setVm vm₁).heap = H := hT
      obtain ⟨f1, f2, -, -⟩ := Jvm.Free.Multi.fill_facts (T.setVm vm₁) (C.K 6) (C.K 1) N M (defaultValue .long) N
      rw [hF, hTh] at f1 f2
      rw [out_eq] at f2
      have hold : ∀ x : Nat, x < H.size → F.heap[x]? = H[x]? := fun x hx => by
        have := Jvm.Free.Multi.fill_old (T.setVm vm₁) (C.K 6) (C.K 1) N M (defaultValue .long) (a := x) (by rw [hTh]; exact hx) N
        rw [hF, hTh] at this
        exact this
      have hrow : ∀ j : Nat, j < N → F.heap[H.size + 1 + j]? = some (arC (C.K 1) ((List.replicate M (0 : Int64)).map Value.long)) := fun j hj => by
        have := Jvm.Free.Multi.fill_inner (T.setVm vm₁) (C.K 6) (C.K 1) N M (defaultValue .long) N j hj
        rw [hF, hTh] at this
        rw [← inn_eq]
        exact this
      have hA := G.2.2.2.2.2.2.2.2.1.2.2.2.2.2.2
      have hsH : C.s.heap.size ≤ H.size := hS.1
      have hRn : Rep C.D C.K C.A (fun b => if b = h.2.1 then some (aq 6 ((List.range N).map (fun j => some (h.2.1 + 1 + j)))) else if h.2.1 < b ∧ b < h.2.1 + 1 + N then some (al (List.replicate M 0)) else h.1 b, h.2.1 + 1 + N, h.2.2 + N + N * M) F.heap := by
        refine ⟨by rw [f1, hR.1], fun a c hc => ?_⟩
        simp only at hc
        split at hc
        · rename_i e
          cases hc
          subst e
          rw [← hR.1]
          refine ⟨?_, hA _ hsH⟩
          show F.heap[H.size]? = _
          rw [f2]
          simp [List.map_map, va_rf, Function.comp_def]
        · split at hc
          · rename_i e
            cases hc
            rw [← hR.1] at e
            obtain ⟨j, rfl⟩ : ∃ j, a = H.size + 1 + j := ⟨a - (H.size + 1), by omega⟩
            exact ⟨hrow j (by omega), hA _ (by omega)⟩
          · obtain ⟨g1, g2⟩ := hR.2 a c hc
            exact ⟨g1.kept (hold a g1.lt), g2⟩
      obtain ⟨t, a1, b1⟩ := k2 F.heap locs hRn (S_grow hS (by omega) hold) F rfl (by
        have e2 : h.2.1 + 1 + N - C.s.heap.size = h.2.1 - C.s.heap.size + 1 + N := by omega
        have e3 : h.2.2 + N + N * M - C.u = h.2.2 - C.u + N + N * M := by omega
        show Stand _ _ _ _ _ _ _ _ _ _ _ _ (h.2.1 + 1 + N - C.s.heap.size) (h.2.2 + N + N * M - C.u)
        rw [e2, e3]
        exact X')
      refine ⟨t, step t ?_, b1⟩
      have e : T.heap.size = h.2.1 := by rw [hT, hR.1]
      rw [e]
      exact a1) kn
/-- getstatic of a table of three, its place on the stack, iaload -/
theorem aw_tab {x : Int32} {idx k : Nat} {nm : String} {xs : List Int32} {ld : Fin 4} (hx : ls[(ld : Nat)]? = some (vi x)) (hst : ∀ (A : Nat → Prop) (U : State), Stt A U → Sta nm xs A U U.heap) (hw : Cond.fieldLink mt.1 idx RX10 nm "[I" ∈ TBg) {kk : Int32 → Mo R} (h0 : decode cc pc = .ok (.getstatic idx, 3)) (h1 : decode cc (pc + 3) = .ok (.iload_n ld, 1)) (h2 : decode cc (pc + 4) = .ok (.iaload, 1)) (kn : ∀ z, AW C cc mt q res (pc + 5) ls (vi z :: st) (kk z)) : AW C cc mt q res pc ls st (bd (tb xs x) kk) :=
  aw_rd (fun h b h' ho => by
    unfold tb at ho
    split at ho
    · cases ho
    · rename_i hin
      cases ho
      refine ⟨rfl, fun H locs cells slots la Q G hR hS hl k2 => ?_⟩
      obtain ⟨t, hZ, hT⟩ := hst _ _ G.2.2.2.2.2.2.2.2.2.1
      refine va_gets G.1 G.2.1 hZ hS G.2.2.2.1 (G.2.2.2.2.1 _ hw) (fun _ h9 => h9) h0 ?_
      refine lv_iload_n G.1 G.2.1 h1 rfl (hl.at hx rfl) ?_
      exact va_ti G.1 G.2.1 hT hS hin rfl h2 k2) kn
/-- Object's constructor -/
theorem aw_obj {r : Option Nat} {idx : Nat} (hd : decode cc pc = .ok (.invokespecial idx, 3)) (hw : Cond.methodLink mt.1 idx objectInit ∈ TBg) (hfr : 1 ≤ mt.2.2.2.1) (hlo : 20 ≤ mt.2.2.2.2.1) (hc : (st.map catT).sum ≤ 8) {kk : Unit → Mo R} (kn : ∀ u, AW C cc mt q res (pc + 3) ls st (kk u)) : AW C cc mt q res pc ls (vr r :: st) (bd (vn r (fun _ => rn ())) kk) :=
  aw_op (st' := fun _ => st) (fun h b h' ho => by
    cases r with
    | none => cases ho
    | some a =>
      cases ho
      refine ⟨Mn.rf _, fun H locs la Q G hR hu hS hl k2 => ?_⟩
      have e : ((st.map toV).map fun v => v.category).sum ≤ 8 := by
        rw [List.map_map]
        rw [show ((fun v : Value => v.category) ∘ toV) = catT from funext cat_toV]
        exact hc
      have h1 : mt.2.2.2.1 ≤ C.R.frames := G.2.2.2.2.2.2.2.2.2.2.1
      have h2 : mt.2.2.2.2.1 ≤ C.R.locals := G.2.2.2.2.2.2.2.2.2.2.2.1
      have h3 := lv_room (m := C.m) (pc := pc) (ls := la) (rest := st.map toV) e
      refine W.objInit G.1 G.2.1 G.2.2.2.1 (G.2.2.2.2.1 _ hw) (G.2.2.2.2.1 _ (by decide +kernel)) (G.2.2.2.2.1 _ (by decide +kernel)) rfl (by rw [G.2.2.1]; exact hl.1) rfl hd (by omega) ?_ (k2 H locs hR hS)
      have h4 : 2 * (F0 C.m pc la (toV (vr (some a)) :: st.map toV)).monitorRoom = 2 * (F0 C.m pc la (st.map toV)).monitorRoom := rfl
      have h5 : 2 * (F0 C.m pc la (st.map toV)).monitorRoom + ((st.map toV).map fun v => v.category).sum ≤ 8 := h3
      show 2 * (F0 C.m pc la (toV (vr (some a)) :: st.map toV)).monitorRoom + ((st.map toV).map fun v => v.category).sum + 12 ≤ C.R.locals
      omega) kn
end AWd
/-! contracts -/
theorem Sta.moved {nm : String} {xs : List Int32} {A : Nat → Prop} {u U : State} (hvm : u.vm.Alike U.vm) (hk : ∀ a : Nat, a < u.heap.size → ¬ A a → U.heap[a]? = u.heap[a]?) (h : Sta nm xs A u u.heap) : Sta nm xs A U U.heap := by
  obtain ⟨t, h1, h2⟩ := h
  exact ⟨t, (h1.kept hk).moved hvm, (h2.kept hk).moved hvm⟩
theorem Stt.moved {A : Nat → Prop} {u U : State} (hvm : u.vm.Alike U.vm) (hk : ∀ a : Nat, a < u.heap.size → ¬ A a → U.heap[a]? = u.heap[a]?) (h : Stt A u) : Stt A U := ⟨h.1.moved hvm hk, h.2.moved hvm hk⟩
theorem nw_warm {s U : State} (hW : s.WarmedH U.vm) (h : ∀ w ∈ TBn, va_Nw w s) : ∀ w ∈ TBn, va_Nw w U := by
  intro w hw
  have h1 := h w hw
  have h2 : isNest w = true := (List.mem_filter.mp hw).2
  cases w <;> first | exact va_Nw.warmF hW h1 | exact va_Nw.warmM hW h1 | cases h2
theorem nw_same {s U : State} (he : s.vm = U.vm) (h : ∀ w ∈ TBn, va_Nw w s) : ∀ w ∈ TBn, va_Nw w U := by
  intro w hw
  have h1 := h w hw
  have h2 : isNest w = true := (List.mem_filter.mp hw).2
  cases w <;> first | exact va_Nw.same rfl he h1 | cases h2
theorem Knw.warm {D : va_G} {K : Nat → ClassId} {A : Nat → Prop} {s U : State} (hW : s.WarmedH U.vm) (hs : s.heap.size ≤ U.heap.size) (h : Knw D K A s) : Knw D K A U := by
  obtain ⟨h1, h2, h3, h4, h5, h6, h7⟩ := h
  exact ⟨h1.moved hW.alike, nw_warm hW h2, h3.moved hW.alike, h4.moved hW.alike, h5.moved hW.alike, over_moved hW.alike h6, fun q hq => h7 q (Nat.le_trans hs hq)⟩
theorem Knw.same {D : va_G} {K : Nat → ClassId} {A : Nat → Prop} {s U : State} (he : s.vm = U.vm) (hs : s.heap = U.heap) (h : Knw D K A s) : Knw D K A U := by
  obtain ⟨h1, h2, h3, h4, h5, h6, h7⟩ := h
  have ha : s.vm.Alike U.vm := by rw [he]; exact Vm.Alike.refl _
  exact ⟨h1.moved ha, nw_same he h2, h3.moved ha, h4.moved ha, h5.moved ha, over_moved ha h6, fun q hq => h7 q (by rw [hs]; exact hq)⟩
/-- the entry's locals -/
def entL : List TV → List TV
  | [] => []
  | v :: vs => match isW v with
    | true => v :: vu :: entL vs
    | false => v :: entL vs
theorem ent_mem : ∀ (av : List TV) (k m : Nat) (w : Nat × Value), w ∈ asc k (entL av ++ List.replicate m vu) → w ∈ lv_args k (av.map toV)
  | [], k, m, w, h => by
    obtain ⟨j, t, h1, h2, h3, h4⟩ := asc_mem _ _ _ h
    simp only [entL, List.nil_append] at h2
    rw [List.getElem?_replicate] at h2
    split at h2
    · cases h2; simp [isU] at h3
    · cases h2
  | v :: vs, k, m, w, h => by
    have e : (toV v).category = catT v := cat_toV v
    rcases v with x | x | x | x
    · simp only [entL, isW, List.cons_append, asc, isU, List.mem_cons] at h
      simp only [List.map_cons, lv_args, e, catT]
      rcases h with h | h
      · exact List.mem_cons.mpr (Or.inl h)
      · exact List.mem_cons_of_mem _ (ent_mem vs _ m w h)
    · simp only [entL, isW, List.cons_append, asc, isU, List.mem_cons] at h
      simp only [List.map_cons, lv_args, e, catT]
      rcases h with h | h
      · exact List.mem_cons.mpr (Or.inl h)
      · exact List.mem_cons_of_mem _ (ent_mem vs _ m w h)
    · simp only [entL, isW, List.cons_append, asc, isU, List.mem_cons] at h
      simp only [List.map_cons, lv_args, e, catT]
      rcases h with h | h
      · exact List.mem_cons.mpr (Or.inl h)
      · exact List.mem_cons_of_mem _ (ent_mem vs _ m w h)
    · simp only [entL, isW, List.cons_append, asc, isU] at h
      simp only [List.map_cons, lv_args, e, catT]
      exact List.mem_cons_of_mem _ (ent_mem vs _ m w h)
def rmOf (mt : Mt) (h h' : Hp) : Room := { frames := mt.2.2.2.1, cells := h'.2.1 - h.2.1, slots := h'.2.2 - h.2.2, locals := mt.2.2.2.2.1 }
