/-! Writes; arrays; new cells; returns. -/
theorem arr_of {s : State} {cA : ClassId} {ty : FieldType} (h : ArrOfT s cA ty) (l : List Value) : s.isArrayOf (arC cA l) ty := h 0 (fun _ => .null)
theorem arC_size (cA : ClassId) (l : List Value) : (arC cA l).slots.size = l.length := by simp [arC]
theorem arC_get (cA : ClassId) (l : List Value) (i : Nat) : (arC cA l).slots[i]? = l[i]? := by simp [arC]
theorem arC_set (cA : ClassId) (l : List Value) (i : Nat) (v : Value) : (arC cA l).setSlot i v = arC cA (l.set i v) := by simp [arC, Cell.setSlot]
theorem arC_rep (cA : ClassId) (n : Nat) (v : Value) : ({ cls := cA, slots := Array.replicate n v, vm := .none } : Cell) = arC cA (List.replicate n v) := by simp [arC]
theorem asg_self (vm : Vm) (c : ClassId) : vm.assignable c c = true := by
  show Vm.assignableAux vm (255 + 1) c c = true
  rw [Vm.assignableAux]
  simp
section AWc
variable {C : Cx} {cc : ByteArray} {mt : Mt} {R : Type} {q : R → Option Value} {res : R × Hp} {pc pc' tgt : Nat} {ls ls' st st' : List TV} {P P1 P2 : Mo R}
theorem w_put {h : Hp} {H : Heap} {locs : List Loc} {cells slots : Nat} {la : Array Slot} {Q : State → Prop} {h' : Hp} (G : Gd C cc mt h') {idx ci k a : Nat} {fs : List TV} {t : TV} {ty : FieldType} {rest : List Value} (hw : PLk mt.1 idx ci k ty mt.2.2.2.2.2) (hR : Rep C.D C.K C.A h H) (hS0 : va_S C.A C.s.heap H locs) (ha : h.1 a = some (ob ci fs)) (hkl : k < fs.length) (hn : narrow ty (toV t) = toV t) (hf : fits ty (toV t) = true) (hd : decode cc pc = .ok (.putfield idx, 3))
    (kk : ∀ (H' : Heap) (locs' : List Loc), Rep C.D C.K C.A (up h a (ob ci (fs.set k t))) H' → va_S C.A C.s.heap H' locs' → WC C H' locs' cells slots Q (F0 C.m (pc + 3) la rest)) : WC C H locs cells slots Q (F0 C.m pc la (toV t :: .ref a :: rest)) := by
  obtain ⟨r, hr, hk, hsm, hty, hl⟩ := hw
  obtain ⟨⟨r', hr', hlen, cell, q1, q2, q3, q4⟩, hAa⟩ := hR.2 a _ ha
  cases hr.symm.trans hr'
  have hK := G.2.2.2.2.2.2.2.2.1.1
  obtain ⟨ty0, hty0, hnm⟩ := cls_ty ci _ hr
  have hap := va_apart (own := mt.1) G.2.2.2.2.1 (cls_in ci _ hr) ty0 hty0 hnm hK hr
  obtain ⟨hS, hfc, kC, hkC, hkind⟩ := hK.1 ci _ hr
  obtain ⟨cf, kf, fi, f, hi, hsl⟩ := hS k hk
  have hst := (u_facts hfc hkC (u_lays G.2.2.2.2.1 (cls_in ci _ hr) hk) hi).1
  have hlay := G.2.2.2.2.1 _ (cls_in ci _ hr _ (u_in_lay hk))
  have key : ∀ H' : Heap, H'[a]? = some (cell.setSlot f.slot (toV t)) → H'.size = H.size → (∀ q : Nat, q ≠ a → H'[q]? = H[q]?) → WC C H' (locs ++ [⟨a, f.slot⟩]) cells slots Q (F0 C.m (pc + 3) la rest) := by
    intro H' e1 e2 e3
    rw [hsl] at e1 ⊢
    refine kk H' _ (hR.up hAa e2 ⟨r, hr, by simpa using hlen, _, e1, q2, q3, fun j hj => ?_⟩ e3) (hS0.put e2 e3 hAa)
    rw [t_set q4 hap hk (toV t) j hj]
    congr 1
    by_cases hjk : j = k
    · subst hjk
      simp [updV, List.getD, hkl]
    · simp [updV, List.getD, hjk, List.getElem?_set_ne (Ne.symm hjk)]
  rcases hl with ⟨hfin, hl⟩ | ⟨hfin, hini, hown, hl⟩
  · unfold u_lay at hlay
    rw [if_neg (by rw [hfin]; decide)] at hlay
    have h6 := u_store hfc hkC hkind hlay hi hty hn hf
    have hslot : f.slot < cell.slots.size := by rw [hsl]; exact k2_hasslot (q4 k hk)
    rcases hl with hl | ⟨host, hl⟩
    · exact W.putK G.1 G.2.1 (f := f) ⟨G.2.2.2.1, G.2.2.2.2.1 _ hl, ⟨_, _, _, by rw [← hsm]; exact hi⟩, hst⟩ (by rw [q2]; exact h6) q1 q3 hslot rfl rfl hd key
    · exact va_WputK G.1 G.2.1 (f := f) G.2.2.2.1 (va_Nw.use rfl (G.2.2.2.2.2.2.2.2.1.2.1 _ hl)) (by rw [← hsm]; exact hi) hst (by rw [q2]; exact h6) q1 q3 hslot rfl rfl hd key
  · unfold u_lay at hlay
    rw [if_pos hfin] at hlay
    have hcf : C.m.cls = cf := by
      obtain ⟨_, _, c', _, _, _, -, -, hf', -, -, -, hown2, -⟩ := Cond.laysFinal_spec hlay
      have e1 : c' = cf := by have := hi.symm.trans hf'; simp at this; exact this.1.symm
      rw [hsm, hown] at hown2
      rw [← e1]; exact Option.some.inj (G.2.2.2.1.symm.trans hown2)
    have h6 := u_fits hfc hkC hkind (Or.inr hlay) hi hty hn hf
    exact W.putFinK G.1 G.2.1 G.2.2.2.1 (G.2.2.2.2.1 _ hl) (by rw [← hsm]; exact hi) hst hcf (G.2.2.2.2.2.2.2.1 hini) (by rw [q2]; exact h6) q1 q3 (by rw [hsl]; exact k2_hasslot (q4 k hk)) rfl rfl hd key
theorem aw_pF {r : Option Nat} {idx ci k : Nat} {t : TV} {ty : FieldType} {kk : Unit → Mo R} (hd : decode cc pc = .ok (.putfield idx, 3)) (hw : PLk mt.1 idx ci k ty mt.2.2.2.2.2) (hn : narrow ty (toV t) = toV t) (hf : fits ty (toV t) = true) (kn : ∀ u, AW C cc mt q res (pc + 3) ls st (kk u)) : AW C cc mt q res pc ls (t :: vr r :: st) (bd (pF r ci k t) kk) :=
  aw_op (st' := fun _ => st) (fun h b h' ho => by
    unfold pF at ho
    split at ho
    · rename_i a fs e
      obtain ⟨rfl, h1⟩ := obOf_some e
      split at ho
      · rename_i hk
        cases ho
        exact ⟨Mn.rf _, fun H locs la Q G hR hu hS hl k2 => w_put G hw hR hS h1 hk hn hf hd k2⟩
      · cases ho
    · cases ho) kn
theorem fit_i (x : Int32) : narrow .int (toV (vi x)) = toV (vi x) ∧ fits .int (toV (vi x)) = true := ⟨rfl, rfl⟩
theorem fit_l (x : Int64) : narrow .long (toV (vl x)) = toV (vl x) ∧ fits .long (toV (vl x)) = true := ⟨rfl, rfl⟩
theorem fit_o (c : String) (r : Option Nat) : narrow (.object c) (toV (vr r)) = toV (vr r) ∧ fits (.object c) (toV (vr r)) = true := by cases r <;> exact ⟨rfl, rfl⟩
theorem fit_a (t : FieldType) (r : Option Nat) : narrow (.array t) (toV (vr r)) = toV (vr r) ∧ fits (.array t) (toV (vr r)) = true := by cases r <;> exact ⟨rfl, rfl⟩
theorem aw_pI {r : Option Nat} {idx ci k : Nat} {x : Int32} {kk : Unit → Mo R} (hd : decode cc pc = .ok (.putfield idx, 3)) (hw : PLk mt.1 idx ci k .int mt.2.2.2.2.2) (kn : ∀ u, AW C cc mt q res (pc + 3) ls st (kk u)) : AW C cc mt q res pc ls (vi x :: vr r :: st) (bd (pF r ci k (vi x)) kk) := aw_pF hd hw (fit_i x).1 (fit_i x).2 kn
theorem aw_pL {r : Option Nat} {idx ci k : Nat} {x : Int64} {kk : Unit → Mo R} (hd : decode cc pc = .ok (.putfield idx, 3)) (hw : PLk mt.1 idx ci k .long mt.2.2.2.2.2) (kn : ∀ u, AW C cc mt q res (pc + 3) ls st (kk u)) : AW C cc mt q res pc ls (vl x :: vr r :: st) (bd (pF r ci k (vl x)) kk) := aw_pF hd hw (fit_l x).1 (fit_l x).2 kn
theorem aw_pO {r x : Option Nat} {idx ci k : Nat} {c : String} {kk : Unit → Mo R} (hd : decode cc pc = .ok (.putfield idx, 3)) (hw : PLk mt.1 idx ci k (.object c) mt.2.2.2.2.2) (kn : ∀ u, AW C cc mt q res (pc + 3) ls st (kk u)) : AW C cc mt q res pc ls (vr x :: vr r :: st) (bd (pF r ci k (vr x)) kk) := aw_pF hd hw (fit_o c x).1 (fit_o c x).2 kn
theorem aw_pA {r x : Option Nat} {idx ci k : Nat} {t : FieldType} {kk : Unit → Mo R} (hd : decode cc pc = .ok (.putfield idx, 3)) (hw : PLk mt.1 idx ci k (.array t) mt.2.2.2.2.2) (kn : ∀ u, AW C cc mt q res (pc + 3) ls st (kk u)) : AW C cc mt q res pc ls (vr x :: vr r :: st) (bd (pF r ci k (vr x)) kk) := aw_pF hd hw (fit_a t x).1 (fit_a t x).2 kn
theorem K_of {h' : Hp} (G : Gd C cc mt h') {t : Nat} {ty : FieldType} (ht : (tyl C.K)[t]? = some (C.K t, ty)) : ArrOfT C.s (C.K t) ty ∧ va_RA C.s (C.K t) ty := G.2.2.2.2.2.2.2.2.1.1.2 t _ ht
theorem in_of {i : Int32} {n : Nat} (h : ¬ (i < 0 ∨ n ≤ i.toNatClampNeg)) : ¬ i < 0 ∧ i.toNatClampNeg < n := ⟨fun q => h (Or.inl q), Nat.not_le.mp fun q => h (Or.inr q)⟩
theorem aw_iald {r : Option Nat} {i : Int32} {kk : Int32 → Mo R} (hd : decode cc pc = .ok (.iaload, 1)) (kn : ∀ x, AW C cc mt q res (pc + 1) ls (vi x :: st) (kk x)) : AW C cc mt q res pc ls (vi i :: vr r :: st) (bd (ldI 0 r i) kk) :=
  aw_rd (fun h b h' ho => by
    unfold ldI at ho
    split at ho
    · rename_i a xs e
      obtain ⟨rfl, h1⟩ := iaOf_some e
      split at ho
      · cases ho
      · rename_i hin
        cases ho
        refine ⟨rfl, fun H locs cells slots la Q G hR hS hl k2 => ?_⟩
        exact W.iald (v := .int (xs.getD i.toNatClampNeg 0)) G.1 G.2.1 (hR.2 a _ h1).1 (arr_of (K_of G (t := 0) rfl).1 _) (fun q => by cases q) (by rw [arC_size]; simpa using hin) (by rw [arC_get]; simp [List.getD, (in_of hin).2]) rfl rfl hd k2
    · cases ho) kn
theorem aw_zald {r : Option Nat} {i : Int32} {kk : Int32 → Mo R} (hd : decode cc pc = .ok (.baload, 1)) (kn : ∀ x, AW C cc mt q res (pc + 1) ls (vi x :: st) (kk x)) : AW C cc mt q res pc ls (vi i :: vr r :: st) (bd (ldI 2 r i) kk) :=
  aw_rd (fun h b h' ho => by
    unfold ldI at ho
    split at ho
    · rename_i a xs e
      obtain ⟨rfl, h1⟩ := iaOf_some e
      split at ho
      · cases ho
      · rename_i hin
        cases ho
        refine ⟨rfl, fun H locs cells slots la Q G hR hS hl k2 => ?_⟩
        exact W.zald (v := .int (xs.getD i.toNatClampNeg 0)) G.1 G.2.1 (hR.2 a _ h1).1 (arr_of (K_of G (t := 2) rfl).1 _) (fun q => by cases q) (by rw [arC_size]; simpa using hin) (by rw [arC_get]; simp [List.getD, (in_of hin).2]) rfl rfl hd k2
    · cases ho) kn
theorem aw_lald {r : Option Nat} {i : Int32} {kk : Int64 → Mo R} (hd : decode cc pc = .ok (.laload, 1)) (kn : ∀ x, AW C cc mt q res (pc + 1) ls (vl x :: st) (kk x)) : AW C cc mt q res pc ls (vi i :: vr r :: st) (bd (ldL r i) kk) :=
  aw_rd (fun h b h' ho => by
    unfold ldL at ho
    split at ho
    · rename_i a xs e
      obtain ⟨rfl, h1⟩ := laOf_some e
      split at ho
      · cases ho
      · rename_i hin
        cases ho
        refine ⟨rfl, fun H locs cells slots la Q G hR hS hl k2 => ?_⟩
        exact W.lald (v := .long (xs.getD i.toNatClampNeg 0)) G.1 G.2.1 (hR.2 a _ h1).1 (arr_of (K_of G (t := 1) rfl).1 _) (fun q => by cases q) (by rw [arC_size]; simpa using hin) (by rw [arC_get]; simp [List.getD, (in_of hin).2]) rfl rfl hd k2
    · cases ho) kn
theorem aw_aald (t : Nat) {ty : FieldType} (ht : ∀ K : Nat → ClassId, (tyl K)[t]? = some (K t, ty)) (hty : ty.isReference = true) {r : Option Nat} {i : Int32} {kk : Option Nat → Mo R} (hd : decode cc pc = .ok (.aaload, 1)) (kn : ∀ x, AW C cc mt q res (pc + 1) ls (vr x :: st) (kk x)) : AW C cc mt q res pc ls (vi i :: vr r :: st) (bd (ldQ t r i) kk) :=
  aw_rd (fun h b h' ho => by
    unfold ldQ at ho
    split at ho
    · rename_i a xs e
      obtain ⟨rfl, h1⟩ := qaOf_some e
      split at ho
      · cases ho
      · rename_i hin
        cases ho
        refine ⟨rfl, fun H locs cells slots la Q G hR hS hl k2 => ?_⟩
        exact W.aald (v := va_rf (xs.getD i.toNatClampNeg none)) G.1 G.2.1 (hR.2 a _ h1).1 (arr_of (K_of G (ht C.K)).1 _) hty (fun q => by cases q) (by rw [arC_size]; simpa using hin) (by rw [arC_get]; simp [List.getD, (in_of hin).2]) rfl rfl hd k2
    · cases ho) kn
theorem aw_iast {r : Option Nat} {i x : Int32} {kk : Unit → Mo R} (hd : decode cc pc = .ok (.iastore, 1)) (kn : ∀ u, AW C cc mt q res (pc + 1) ls st (kk u)) : AW C cc mt q res pc ls (vi x :: vi i :: vr r :: st) (bd (stI r i x) kk) :=
  aw_op (st' := fun _ => st) (fun h b h' ho => by
    unfold stI at ho
    split at ho
    · rename_i a xs e
      obtain ⟨rfl, h1⟩ := iaOf_some e
      split at ho
      · cases ho
      · rename_i hin
        cases ho
        refine ⟨Mn.rf _, fun H locs la Q G hR hu hS hl k2 => ?_⟩
        obtain ⟨g1, g2⟩ := hR.2 a _ h1
        refine W.iast G.1 G.2.1 g1 (arr_of (K_of G (t := 0) rfl).1 _) (fun q => by cases q) (by rw [arC_size]; simpa using hin) rfl rfl hd fun H1 e z oq => ?_
        exact k2 H1 _ (hR.up g2 z (by show H1[a]? = _; rw [e, arC_set, List.map_set]) oq) (hS.put z oq g2)
    · cases ho) kn
theorem aw_zast {r : Option Nat} {i x : Int32} {kk : Unit → Mo R} (hd : decode cc pc = .ok (.bastore, 1)) (kn : ∀ u, AW C cc mt q res (pc + 1) ls st (kk u)) : AW C cc mt q res pc ls (vi x :: vi i :: vr r :: st) (bd (stZ r i x) kk) :=
  aw_op (st' := fun _ => st) (fun h b h' ho => by
    unfold stZ at ho
    split at ho
    · rename_i a xs e
      obtain ⟨rfl, h1⟩ := iaOf_some e
      split at ho
      · cases ho
      · rename_i hin0
        have hin : ¬ (i < 0 ∨ xs.length ≤ i.toNatClampNeg) := fun q => hin0 (Or.inl q)
        have hx : x = 0 ∨ x = 1 := Decidable.byContradiction fun q => hin0 (Or.inr q)
        cases ho
        refine ⟨Mn.rf _, fun H locs la Q G hR hu hS hl k2 => ?_⟩
        obtain ⟨g1, g2⟩ := hR.2 a _ h1
        refine W.zast G.1 G.2.1 g1 (arr_of (K_of G (t := 2) rfl).1 _) (fun q => by cases q) (by rw [arC_size]; simpa using hin) rfl rfl hd fun H1 e z oq => ?_
        have hnr : narrow .boolean (.int x) = .int x := by rcases hx with rfl | rfl <;> rfl
        exact k2 H1 _ (hR.up g2 z (by show H1[a]? = _; rw [e, hnr, arC_set, List.map_set]) oq) (hS.put z oq g2)
    · cases ho) kn
theorem aw_last {r : Option Nat} {i : Int32} {x : Int64} {kk : Unit → Mo R} (hd : decode cc pc = .ok (.lastore, 1)) (kn : ∀ u, AW C cc mt q res (pc + 1) ls st (kk u)) : AW C cc mt q res pc ls (vl x :: vi i :: vr r :: st) (bd (stL r i x) kk) :=
  aw_op (st' := fun _ => st) (fun h b h' ho => by
    unfold stL at ho
    split at ho
    · rename_i a xs e
      obtain ⟨rfl, h1⟩ := laOf_some e
      split at ho
      · cases ho
      · rename_i hin
        cases ho
        refine ⟨Mn.rf _, fun H locs la Q G hR hu hS hl k2 => ?_⟩
        obtain ⟨g1, g2⟩ := hR.2 a _ h1
        refine W.last G.1 G.2.1 g1 (arr_of (K_of G (t := 1) rfl).1 _) (fun q => by cases q) (by rw [arC_size]; simpa using hin) rfl rfl hd fun H1 e z oq => ?_
        exact k2 H1 _ (hR.up g2 z (by show H1[a]? = _; rw [e, arC_set, List.map_set]) oq) (hS.put z oq g2)
    · cases ho) kn
theorem aw_aast (t ci : Nat) {r0 : vw_C} (ht : ∀ K : Nat → ClassId, (tyl K)[t]? = some (K t, .object r0.1)) (hc : vwCl[ci]? = some r0) {r v : Option Nat} {i : Int32} {kk : Unit → Mo R} (hd : decode cc pc = .ok (.aastore, 1)) (kn : ∀ u, AW C cc mt q res (pc + 1) ls st (kk u)) : AW C cc mt q res pc ls (vr v :: vi i :: vr r :: st) (bd (stQ t ci r i v) kk) :=
  aw_op (st' := fun _ => st) (fun h b h' ho => by
    unfold stQ at ho
    split at ho
    · rename_i a xs b9 fs e e2
      obtain ⟨rfl, h1⟩ := qaOf_some e
      obtain ⟨rfl, h2⟩ := obOf_some e2
      split at ho
      · cases ho
      · rename_i hin
        cases ho
        refine ⟨Mn.rf _, fun H locs la Q G hR hu hS hl k2 => ?_⟩
        obtain ⟨g1, g2⟩ := hR.2 a _ h1
        obtain ⟨⟨r', hr', -, cellV, c1, c2, c3, -⟩, -⟩ := hR.2 b9 _ h2
        cases hc.symm.trans hr'
        obtain ⟨-, hcls⟩ := G.2.2.2.2.2.2.2.2.1.1.1 ci _ hc
        obtain ⟨hA1, kA, comp, k1, kd, k3, -⟩ := K_of G (ht C.K)
        have hcomp : comp = C.D.1 ci := Option.some.inj (k3.symm.trans hcls.1)
        subst hcomp
        obtain ⟨kC, hkC, -⟩ := hcls.2
        refine W.aast G.1 G.2.1 g1 (fun q h => by cases h) (fun h => by cases h) k1 kd rfl hkC ⟨(in_of hin).1, by rw [arC_size]; simpa using (in_of hin).2⟩ c1 (fun q h => by rw [c3] at h; cases h) (by rw [c2]; exact hkC) (by rw [c2]; exact asg_self _ _) rfl rfl hd fun H1 e z oq => ?_
        exact k2 H1 _ (hR.up g2 z (by show H1[a]? = _; rw [e, arC_set, List.map_set]; rfl) oq) (hS.put z oq g2)
    · cases ho) kn
theorem aw_rast {r v : Option Nat} {i : Int32} {kk : Unit → Mo R} (hd : decode cc pc = .ok (.aastore, 1)) (kn : ∀ u, AW C cc mt q res (pc + 1) ls st (kk u)) : AW C cc mt q res pc ls (vr v :: vi i :: vr r :: st) (bd (stR r i v) kk) :=
  aw_op (st' := fun _ => st) (fun h b h' ho => by
    unfold stR at ho
    split at ho
    · rename_i a xs b9 ys e e2
      obtain ⟨rfl, h1⟩ := qaOf_some e
      obtain ⟨rfl, h2⟩ := laOf_some e2
      split at ho
      · cases ho
      · rename_i hin
        cases ho
        refine ⟨Mn.rf _, fun H locs la Q G hR hu hS hl k2 => ?_⟩
        obtain ⟨g1, g2⟩ := hR.2 a _ h1
        have c1 := (hR.2 b9 _ h2).1
        obtain ⟨comp, c6, k6, o1, -, o3, o4, o5⟩ := arrayOverA_spec (G.2.2.2.2.2.2.2.2.1.2.2.2.2.2.1)
        have e6 : c6 = C.K 6 := Option.some.inj (o5.symm.trans (K_of G (t := 6) rfl).2)
        have e1 : comp = C.K 1 := Option.some.inj (o1.symm.trans (K_of G (t := 1) rfl).2)
        subst e6 e1
        obtain ⟨-, kL, hkL, -⟩ := arr_of (K_of G (t := 1) rfl).1 []
        refine W.aast G.1 G.2.1 g1 (fun q h => by cases h) (fun h => by cases h) o3 o4 rfl hkL ⟨(in_of hin).1, by rw [arC_size]; simpa using (in_of hin).2⟩ c1 (fun q h => by cases h) hkL (asg_self _ _) rfl rfl hd fun H1 e z oq => ?_
        exact k2 H1 _ (hR.up g2 z (by show H1[a]? = _; rw [e, arC_set, List.map_set]; rfl) oq) (hS.put z oq g2)
    · cases ho) kn
theorem aw_aln {r : Option Nat} {kk : Int32 → Mo R} (hd : decode cc pc = .ok (.arraylength, 1)) (kn : ∀ x, AW C cc mt q res (pc + 1) ls (vi x :: st) (kk x)) : AW C cc mt q res pc ls (vr r :: st) (bd (aln r) kk) :=
  aw_rd (fun h b h' ho => by
    unfold aln at ho
    split at ho
    · cases ho
    · rename_i a
      split at ho
      · rename_i t' xs e
        split at ho
        · rename_i ht
          subst ht
          cases ho
          exact ⟨rfl, fun H locs cells slots la Q G hR hS hl k2 => W.alen G.1 G.2.1 (hR.2 a _ e).1 (arr_of (K_of G (t := 0) rfl).1 _) (by rw [arC_size, List.length_map]) rfl rfl hd k2⟩
        · cases ho
      · rename_i xs e
        cases ho
        exact ⟨rfl, fun H locs cells slots la Q G hR hS hl k2 => W.alen G.1 G.2.1 (hR.2 a _ e).1 (arr_of (K_of G (t := 1) rfl).1 _) (by rw [arC_size, List.length_map]) rfl rfl hd k2⟩
      · cases ho) kn
/-! divisions -/
theorem aw_idiv {x y : Int32} {kk : Int32 → Mo R} (hd : decode cc pc = .ok (.idiv, 1)) (kn : ∀ z, AW C cc mt q res (pc + 1) ls (vi z :: st) (kk z)) : AW C cc mt q res pc ls (vi y :: vi x :: st) (bd (dvI x y) kk) :=
  aw_rd (fun h b h' ho => by
    unfold dvI at ho
    split at ho
    · cases ho
    · rename_i hy
      cases ho
      exact ⟨rfl, fun H locs cells slots la Q G hR hS hl k2 => lv_idiv G.1 G.2.1 hd hy k2⟩) kn
theorem aw_ldiv {x y : Int64} {kk : Int64 → Mo R} (hd : decode cc pc = .ok (.ldiv, 1)) (kn : ∀ z, AW C cc mt q res (pc + 1) ls (vl z :: st) (kk z)) : AW C cc mt q res pc ls (vl y :: vl x :: st) (bd (dvL x y) kk) :=
  aw_rd (fun h b h' ho => by
    unfold dvL at ho
    split at ho
    · cases ho
    · rename_i hy
      cases ho
      exact ⟨rfl, fun H locs cells slots la Q G hR hS hl k2 => lv_ldiv G.1 G.2.1 hd hy k2⟩) kn
theorem aw_lrem {x y : Int64} {kk : Int64 → Mo R} (hd : decode cc pc = .ok (.lrem, 1)) (kn : ∀ z, AW C cc mt q res (pc + 1) ls (vl z :: st) (kk z)) : AW C cc mt q res pc ls (vl y :: vl x :: st) (bd (rmL x y) kk) :=
  aw_rd (fun h b h' ho => by
    unfold rmL at ho
    split at ho
    · cases ho
    · rename_i hy
      cases ho
      exact ⟨rfl, fun H locs cells slots la Q G hR hS hl k2 => lv_lrem G.1 G.2.1 hd hy k2⟩) kn
/-! new cells -/
theorem sz_of {h : Hp} {H : Heap} {locs : List Loc} (hR : Rep C.D C.K C.A h H) (hS : va_S C.A C.s.heap H locs) : C.s.heap.size ≤ h.2.1 := by rw [← hR.1]; exact hS.1
theorem S_grow {H H1 : Heap} {locs : List Loc} (hS : va_S C.A C.s.heap H locs) (z : H.size ≤ H1.size) (oq : ∀ q : Nat, q < H.size → H1[q]? = H[q]?) : va_S C.A C.s.heap H1 locs :=
  ⟨Nat.le_trans hS.1 z, fun x h1 h2 => (oq x (Nat.lt_of_lt_of_le h1 hS.1)).trans (hS.2.1 x h1 h2), hS.2.2⟩
/-- the fields of a new object -/
def dfl : FieldType → TV
  | .long => vl 0
  | .object _ => vr none
  | .array _ => vr none
  | _ => vi 0
theorem aw_new {idx ci : Nat} {r0 : vw_C} {fs : List TV} {kk : Option Nat → Mo R} (hd : decode cc pc = .ok (.new idx, 3)) (hc : vwCl[ci]? = some r0) (hl : fs.length = r0.2.2) (hw : Cond.classLink mt.1 idx r0.1 ∈ TBg) (hfs : ∀ k, k < r0.2.2 → (parseFieldDescriptor (r0.2.1 k).2.2.1).map defaultValue = some (toV (fs.getD k vu))) (kn : ∀ a, AW C cc mt q res (pc + 3) ls (vr a :: st) (kk a)) : AW C cc mt q res pc ls st (bd (nwO ci fs) kk) :=
  aw_op (fun h b h' ho => by
    unfold nwO at ho
    cases ho
    refine ⟨⟨Nat.le_succ _, Nat.le_add_right _ _⟩, fun H locs la Q G hR hu hS hl2 k2 => ?_⟩
    have hsz := sz_of hR hS
    obtain ⟨w1, w2⟩ := cls_new ci _ hc
    have hKn := G.2.2.2.2.2.2.2.2.1.1.1 ci _ hc
    obtain ⟨ty0, hty0, -⟩ := cls_ty ci _ hc
    have hrc : (h.2.1 + 1) - C.s.heap.size ≤ C.R.cells := G.2.2.2.2.2.2.2.2.2.2.2.2.1
    have hrs : (h.2.2 + fs.length) - C.u ≤ C.R.slots := G.2.2.2.2.2.2.2.2.2.2.2.2.2
    refine W.newcK (n := r0.2.2) G.1 G.2.1 G.2.2.2.1 (G.2.2.2.2.1 _ hw) (G.2.2.2.2.1 _ w1) (G.2.2.2.2.1 _ w2) rfl hd (by omega) (by omega) hKn.2.1 rfl fun H1 kC hkC e1 z1 o1 => ?_
    have hb := u_born ty0 G.2.2.2.2.1 (cls_in ci _ hc) hKn hkC e1 hty0
    have k3 := k2 H1 locs (hR.mk (G.2.2.2.2.2.2.2.2.1.2.2.2.2.2.2 _ hS.1) z1 ⟨r0, hc, hl, hb.to (fun k hk => by
      have h9 := hfs k hk
      rw [hty0 k hk] at h9
      exact Option.some.inj h9)⟩ o1) (S_grow hS (by omega) o1)
    rw [hR.1]
    have e2 : (mk h (ob ci fs) fs.length).2.1 - C.s.heap.size = h.2.1 - C.s.heap.size + 1 := by show h.2.1 + 1 - C.s.heap.size = _; omega
    have e3 : (mk h (ob ci fs) fs.length).2.2 - C.u = h.2.2 - C.u + r0.2.2 := by show h.2.2 + fs.length - C.u = _; omega
    rw [e2, e3] at k3
    exact k3) kn
theorem w_newa {h : Hp} {H : Heap} {locs : List Loc} {la : Array Slot} {Q : State → Prop} {h' : Hp} (G : Gd C cc mt h') {atype : ArrayType} {t : Nat} {ty : FieldType} {n : Int32} {c : AC} {v : Value} {rest : List Value} (hd : decode cc pc = .ok (.newarray atype, 2)) (hty : newarray.typeOf atype = ty) (ht : (tyl C.K)[t]? = some (C.K t, ty)) (hRA : va_RA C.s (C.K t) ty → C.s.vm.findClass ("[" ++ ty.toString) = some (C.K t)) (hw : Cond.arrayClass ty ∈ TBg) (hv : defaultValue ty = v) (hn : ¬ n < 0) (hby : n.toNatClampNeg * componentBytes ty ≤ 536870912)
    (hR : Rep C.D C.K C.A h H) (hS : va_S C.A C.s.heap H locs) (hu : C.u ≤ h.2.2) (hh : h' = mk h c n.toNatClampNeg) (hat : ∀ H1 : Heap, H1[H.size]? = some (arC (C.K t) (List.replicate n.toNatClampNeg v)) → AT C.D C.K H.size H1 c)
    (k2 : ∀ (H1 : Heap) (locs' : List Loc), Rep C.D C.K C.A h' H1 → va_S C.A C.s.heap H1 locs' → WC C H1 locs' (h'.2.1 - C.s.heap.size) (h'.2.2 - C.u) Q (F0 C.m (pc + 2) la (.ref h.2.1 :: rest))) : WC C H locs (h.2.1 - C.s.heap.size) (h.2.2 - C.u) Q (F0 C.m pc la (.int n :: rest)) := by
  have hsz := sz_of hR hS
  subst hty hv
  have hrc : h'.2.1 - C.s.heap.size ≤ C.R.cells := G.2.2.2.2.2.2.2.2.2.2.2.2.1
  have hrs : h'.2.2 - C.u ≤ C.R.slots := G.2.2.2.2.2.2.2.2.2.2.2.2.2
  have e2 : h'.2.1 - C.s.heap.size = h.2.1 - C.s.heap.size + 1 := by rw [hh]; show h.2.1 + 1 - C.s.heap.size = _; omega
  have e3 : h'.2.2 - C.u = h.2.2 - C.u + n.toNatClampNeg := by rw [hh]; show h.2.2 + n.toNatClampNeg - C.u = _; omega
  rw [e2] at hrc k2
  rw [e3] at hrs k2
  refine W.newa G.1 G.2.1 (G.2.2.2.2.1 _ hw) rfl hd rfl hn hby hrc hrs fun cA kA comp h1 h2 h3 => ?_
  have ec : cA = C.K t := Option.some.inj (h1.symm.trans (hRA (K_of G ht).2))
  subst ec
  rw [arC_rep]
  have o1 : ∀ q : Nat, q < H.size → (H.push (arC (C.K t) (List.replicate n.toNatClampNeg (defaultValue (newarray.typeOf atype)))))[q]? = H[q]? := fun q hq => by rw [Array.getElem?_push, if_neg (Nat.ne_of_lt hq)]
  have k3 := k2 (H.push (arC (C.K t) (List.replicate n.toNatClampNeg (defaultValue (newarray.typeOf atype))))) locs (by rw [hh]; exact hR.mk (G.2.2.2.2.2.2.2.2.1.2.2.2.2.2.2 _ hS.1) (by simp) (hat _ (by simp)) o1) (S_grow hS (by simp) o1)
  rw [hR.1]
  exact k3
theorem aw_newi {n : Int32} {kk : Option Nat → Mo R} (hd : decode cc pc = .ok (.newarray .int, 2)) (kn : ∀ a, AW C cc mt q res (pc + 2) ls (vr a :: st) (kk a)) : AW C cc mt q res pc ls (vi n :: st) (bd (nwI 0 n) kk) :=
  aw_op (fun h b h' ho => by
    unfold nwI at ho
    split at ho
    · cases ho
    · rename_i hn
      cases ho
      refine ⟨⟨Nat.le_succ _, Nat.le_add_right _ _⟩, fun H locs la Q G hR hu hS hl2 k2 => w_newa (t := 0) (ty := .int) (v := .int 0) (c := ai 0 (List.replicate n.toNatClampNeg 0)) G hd rfl rfl (fun h => h) (by decide +kernel) rfl (fun q => hn (Or.inl q)) (by show _ * 4 ≤ _; omega) hR hS hu rfl (fun H1 e => ?_) k2⟩
      show H1[H.size]? = _
      rw [e, List.map_replicate]) kn
theorem aw_newz {n : Int32} {kk : Option Nat → Mo R} (hd : decode cc pc = .ok (.newarray .boolean, 2)) (kn : ∀ a, AW C cc mt q res (pc + 2) ls (vr a :: st) (kk a)) : AW C cc mt q res pc ls (vi n :: st) (bd (nwI 2 n) kk) :=
  aw_op (fun h b h' ho => by
    unfold nwI at ho
    split at ho
    · cases ho
    · rename_i hn
      cases ho
      refine ⟨⟨Nat.le_succ _, Nat.le_add_right _ _⟩, fun H locs la Q G hR hu hS hl2 k2 => w_newa (t := 2) (ty := .boolean) (v := .int 0) (c := ai 2 (List.replicate n.toNatClampNeg 0)) G hd rfl rfl (fun h => h) (by decide +kernel) rfl (fun q => hn (Or.inl q)) (by show _ * 1 ≤ _; omega) hR hS hu rfl (fun H1 e => ?_) k2⟩
      show H1[H.size]? = _
      rw [e, List.map_replicate]) kn
theorem aw_newl {n : Int32} {kk : Option Nat → Mo R} (hd : decode cc pc = .ok (.newarray .long, 2)) (kn : ∀ a, AW C cc mt q res (pc + 2) ls (vr a :: st) (kk a)) : AW C cc mt q res pc ls (vi n :: st) (bd (nwL n) kk) :=
  aw_op (fun h b h' ho => by
    unfold nwL at ho
    split at ho
    · cases ho
    · rename_i hn
      cases ho
      refine ⟨⟨Nat.le_succ _, Nat.le_add_right _ _⟩, fun H locs la Q G hR hu hS hl2 k2 => w_newa (t := 1) (ty := .long) (v := .long 0) (c := al (List.replicate n.toNatClampNeg 0)) G hd rfl rfl (fun h => h) (by decide +kernel) rfl (fun q => hn (Or.inl q)) (by show _ * 8 ≤ _; omega) hR hS hu rfl (fun H1 e => ?_) k2⟩
      show H1[H.size]? = _
      rw [e, List.map_replicate]) kn
theorem aw_newq {n : Int32} {idx t : Nat} {c : String} (ht : ∀ K : Nat → ClassId, (tyl K)[t]? = some (K t, .object c)) (hov : ∀ (D : va_G) (K : Nat → ClassId) (A : Nat → Prop) (U : State), Knw D K A U → va_AO c U) (hw : Cond.classLink mt.1 idx c ∈ TBg) {kk : Option Nat → Mo R} (hd : decode cc pc = .ok (.anewarray idx, 3)) (kn : ∀ a, AW C cc mt q res (pc + 3) ls (vr a :: st) (kk a)) : AW C cc mt q res pc ls (vi n :: st) (bd (nwQ t n) kk) :=
  aw_op (fun h b h' ho => by
    unfold nwQ at ho
    split at ho
    · cases ho
    · rename_i hn
      cases ho
      refine ⟨⟨Nat.le_succ _, Nat.le_add_right _ _⟩, fun H locs la Q G hR hu hS hl2 k2 => ?_⟩
      have hsz := sz_of hR hS
      have hrc : (h.2.1 + 1) - C.s.heap.size ≤ C.R.cells := G.2.2.2.2.2.2.2.2.2.2.2.2.1
      have hrs : (h.2.2 + n.toNatClampNeg) - C.u ≤ C.R.slots := G.2.2.2.2.2.2.2.2.2.2.2.2.2
      refine W.anew G.1 G.2.1 G.2.2.2.1 (G.2.2.2.2.1 _ hw) (va_AO.use (hov _ _ _ _ G.2.2.2.2.2.2.2.2.1)) rfl hd rfl (fun q => hn (Or.inl q)) (by omega) (by omega) (by omega) fun cA kA comp f1 f2 f3 f4 => ?_
      obtain ⟨-, -, -, -, -, -, g4⟩ := K_of G (ht C.K)
      have ec : cA = C.K t := Option.some.inj (f1.symm.trans g4)
      subst ec
      rw [arC_rep]
      have o1 : ∀ q : Nat, q < H.size → (H.push (arC (C.K t) (List.replicate n.toNatClampNeg .null)))[q]? = H[q]? := fun q hq => by rw [Array.getElem?_push, if_neg (Nat.ne_of_lt hq)]
      have k3 := k2 (H.push (arC (C.K t) (List.replicate n.toNatClampNeg .null))) locs (hR.mk (G.2.2.2.2.2.2.2.2.1.2.2.2.2.2.2 _ hS.1) (by simp) (by show _ = some (arC (C.K t) (List.map va_rf (List.replicate n.toNatClampNeg none))); rw [List.map_replicate]; simp [va_rf]) o1) (S_grow hS (by simp) o1)
      rw [hR.1]
      have e2 : h.2.1 - C.s.heap.size + 1 = h.2.1 + 1 - C.s.heap.size := by omega
      have e3 : h.2.2 - C.u + n.toNatClampNeg = h.2.2 + n.toNatClampNeg - C.u := by omega
      rw [e2, e3]
      exact k3) kn
/-! returns -/
theorem aw_iret {x : Int32} {res : Int32 × Hp} (hd : decode cc pc = .ok (.ireturn, 1)) (hr : mt.2.2.1 = some .int) : AW C cc mt (fun r => some (.int r)) res pc ls [vi x] (rn x) := by
  intro h hP
  cases hP
  exact ⟨Mn.rf _, fun H locs la G hR hu hS hl => W.iret (v := x) G.1 G.2.1 (G.2.2.2.2.2.1.trans hr) (fun t ht hW => ⟨rfl, by rw [ht]; exact hR, hS.F ht⟩) hS.2.2 hd G.2.2.2.2.2.2.1⟩
theorem aw_zret {x : Int32} {res : Int32 × Hp} (hd : decode cc pc = .ok (.ireturn, 1)) (hr : mt.2.2.1 = some .boolean) : AW C cc mt (fun r => some (.int r)) res pc ls [vi x] (rnZ x) := by
  intro h hP
  unfold rnZ at hP
  split at hP
  · rename_i hx
    cases hP
    exact ⟨Mn.rf _, fun H locs la G hR hu hS hl => W.zret (v := x) G.1 G.2.1 (G.2.2.2.2.2.1.trans hr) (by rcases hx with rfl | rfl <;> rfl) (fun t ht hW => ⟨rfl, by rw [ht]; exact hR, hS.F ht⟩) hS.2.2 hd G.2.2.2.2.2.2.1⟩
  · cases hP
theorem aw_lret {x : Int64} {res : Int64 × Hp} (hd : decode cc pc = .ok (.lreturn, 1)) (hr : mt.2.2.1 = some .long) : AW C cc mt (fun r => some (.long r)) res pc ls [vl x] (rn x) := by
  intro h hP
  cases hP
  exact ⟨Mn.rf _, fun H locs la G hR hu hS hl => W.lret (v := x) G.1 G.2.1 (G.2.2.2.2.2.1.trans hr) (fun t ht hW => ⟨rfl, by rw [ht]; exact hR, hS.F ht⟩) hS.2.2 hd G.2.2.2.2.2.2.1⟩
theorem aw_aret {x : Option Nat} {res : Option Nat × Hp} {rt : FieldType} (hd : decode cc pc = .ok (.areturn, 1)) (hr : mt.2.2.1 = some rt) (hrt : (∃ n, rt = .object n) ∨ ∃ t, rt = .array t) : AW C cc mt (fun r => some (va_rf r)) res pc ls [vr x] (rn x) := by
  intro h hP
  cases hP
  exact ⟨Mn.rf _, fun H locs la G hR hu hS hl => W.aret (v := va_rf x) G.1 G.2.1 (G.2.2.2.2.2.1.trans hr) hrt (by cases x <;> simp [va_rf]) (fun t ht hW => ⟨rfl, by rw [ht]; exact hR, hS.F ht⟩) hS.2.2 hd G.2.2.2.2.2.2.1⟩
theorem aw_vret {res : Unit × Hp} (hd : decode cc pc = .ok (.return_, 1)) (hr : mt.2.2.1 = none) : AW C cc mt (fun _ => none) res pc ls [] (rn ()) := by
  intro h hP
  cases hP
  exact ⟨Mn.rf _, fun H locs la G hR hu hS hl => W.vret G.1 G.2.1 (G.2.2.2.2.2.1.trans hr) (fun t ht hW => ⟨rfl, by rw [ht]; exact hR, hS.F ht⟩) hS.2.2 hd G.2.2.2.2.2.2.1⟩
end AWc
