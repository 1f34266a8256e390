/-! Math's max, min and abs: the machine's own. -/
def mxI (x y : Int32) : Int32 := if x < y then y else x
def mnI (x y : Int32) : Int32 := if y < x then y else x
def mxL (x y : Int64) : Int64 := if y < x then x else y
def mnL (x y : Int64) : Int64 := if y < x then y else x
def abL (x : Int64) : Int64 := if 0 < x then x else -x
section AWg
variable {C : Cx} {cc : ByteArray} {mt : Mt} {R : Type} {q : R → Option Value} {res : R × Hp} {pc pc' : Nat} {ls ls' st st' : List TV} {P : Mo R}
theorem aw_ofc (hW : ∀ (H : Heap) (locs : List Loc) (cells slots : Nat) (Q : State → Prop) (la : Array Slot), Gd C cc mt res.2 → cells ≤ C.R.cells → slots ≤ C.R.slots → LV la mt.2.1 ls → (∀ la' : Array Slot, LV la' mt.2.1 ls' → WC C H locs cells slots Q (F0 C.m pc' la' (st'.map toV))) → WC C H locs cells slots Q (F0 C.m pc la (st.map toV)))
    (kk : AW C cc mt q res pc' ls' st' P) : AW C cc mt q res pc ls st P := by
  intro h hP
  obtain ⟨k1, k2⟩ := kk h hP
  refine ⟨k1, fun H locs la G hR hu hS hl => hW H locs _ _ _ la G ?_ ?_ hl (fun la' hl' => k2 H locs la' G hR hu hS hl')⟩
  · have r3 : res.2.2.1 - C.s.heap.size ≤ C.R.cells := G.2.2.2.2.2.2.2.2.2.2.2.2.1
    have := k1.1
    omega
  · have r4 : res.2.2.2 - C.u ≤ C.R.slots := G.2.2.2.2.2.2.2.2.2.2.2.2.2
    have := k1.2
    omega
theorem w_room {h' : Hp} (G : Gd C cc mt h') {k : Nat} (hlo : k ≤ mt.2.2.2.2.1) (st : List TV) (hc : (st.map catT).sum + 13 ≤ k) : ((st.map toV).map fun v => v.category).sum + 13 ≤ C.R.locals := by
  have r2 : mt.2.2.2.2.1 ≤ C.R.locals := G.2.2.2.2.2.2.2.2.2.2.2.1
  rw [List.map_map]
  rw [show ((fun v : Value => v.category) ∘ toV) = catT from funext cat_toV]
  omega
theorem aw_mmaxI {x y : Int32} {idx : Nat} (hd : decode cc pc = .ok (.invokestatic idx, 3)) (hL : Cond.methodLink mt.1 idx yJ9_max_7cf53 ∈ TBg) (hfr : 1 ≤ mt.2.2.2.1) (hlo : 21 ≤ mt.2.2.2.2.1) (hc : (st.map catT).sum + 13 ≤ 21) (kk : AW C cc mt q res (pc + 3) ls (vi (mxI x y) :: st) P) : AW C cc mt q res pc ls (vi y :: vi x :: st) P :=
  aw_ofc (fun _ _ _ _ _ la G h1 h2 hl k => va_mmax G.1 G.2.1 (G.2.2.1.trans hl.1.symm) G.2.2.2.1 (G.2.2.2.2.1 _ hL) (G.2.2.2.2.1 (Cond.static Lib.Math.max.name) (by decide +kernel)) (G.2.2.2.2.1 _ (by decide +kernel)) (G.2.2.2.2.1 (Cond.code Lib.Math.max.name Lib.Math.max.code 2 (some .int)) (by decide +kernel)) (Nat.le_trans hfr G.2.2.2.2.2.2.2.2.2.2.1) (w_room G hlo st hc) h1 h2 hd (k la hl)) kk
theorem aw_mminI {x y : Int32} {idx : Nat} (hd : decode cc pc = .ok (.invokestatic idx, 3)) (hL : Cond.methodLink mt.1 idx yJ9_min_7cf53 ∈ TBg) (hfr : 1 ≤ mt.2.2.2.1) (hlo : 21 ≤ mt.2.2.2.2.1) (hc : (st.map catT).sum + 13 ≤ 21) (kk : AW C cc mt q res (pc + 3) ls (vi (mnI x y) :: st) P) : AW C cc mt q res pc ls (vi y :: vi x :: st) P :=
  aw_ofc (fun _ _ _ _ _ la G h1 h2 hl k => va_mmin G.1 G.2.1 (G.2.2.1.trans hl.1.symm) G.2.2.2.1 (G.2.2.2.2.1 _ hL) (G.2.2.2.2.1 (Cond.static Lib.Math.min.name) (by decide +kernel)) (G.2.2.2.2.1 _ (by decide +kernel)) (G.2.2.2.2.1 (Cond.code Lib.Math.min.name Lib.Math.min.code 2 (some .int)) (by decide +kernel)) (Nat.le_trans hfr G.2.2.2.2.2.2.2.2.2.2.1) (w_room G hlo st hc) h1 h2 hd (k la hl)) kk
theorem aw_mmaxL {x y : Int64} {idx : Nat} (hd : decode cc pc = .ok (.invokestatic idx, 3)) (hL : Cond.methodLink mt.1 idx yJ9_max_f86c9 ∈ TBg) (hfr : 1 ≤ mt.2.2.2.1) (hlo : 23 ≤ mt.2.2.2.2.1) (hc : (st.map catT).sum + 15 ≤ 23) (kk : AW C cc mt q res (pc + 3) ls (vl (mxL x y) :: st) P) : AW C cc mt q res pc ls (vl y :: vl x :: st) P :=
  aw_ofc (fun _ _ _ _ _ la G h1 h2 hl k => va_mmax_long G.1 G.2.1 (G.2.2.1.trans hl.1.symm) G.2.2.2.1 (G.2.2.2.2.1 _ hL) (G.2.2.2.2.1 (Cond.static Lib.MathLoose.max_long.x) (by decide +kernel)) (G.2.2.2.2.1 _ (by decide +kernel)) (G.2.2.2.2.1 (Cond.code Lib.MathLoose.max_long.x Lib.MathLoose.max_long.code 4 (some .long)) (by decide +kernel)) (Nat.le_trans hfr G.2.2.2.2.2.2.2.2.2.2.1) (by
    have r2 : mt.2.2.2.2.1 ≤ C.R.locals := G.2.2.2.2.2.2.2.2.2.2.2.1
    rw [List.map_map]
    rw [show ((fun v : Value => v.category) ∘ toV) = catT from funext cat_toV]
    omega) h1 h2 hd (k la hl)) kk
theorem aw_mminL {x y : Int64} {idx : Nat} (hd : decode cc pc = .ok (.invokestatic idx, 3)) (hL : Cond.methodLink mt.1 idx yJ9_min_f86c9 ∈ TBg) (hfr : 1 ≤ mt.2.2.2.1) (hlo : 23 ≤ mt.2.2.2.2.1) (hc : (st.map catT).sum + 15 ≤ 23) (kk : AW C cc mt q res (pc + 3) ls (vl (mnL x y) :: st) P) : AW C cc mt q res pc ls (vl y :: vl x :: st) P :=
  aw_ofc (fun _ _ _ _ _ la G h1 h2 hl k => va_mmin_long G.1 G.2.1 (G.2.2.1.trans hl.1.symm) G.2.2.2.1 (G.2.2.2.2.1 _ hL) (G.2.2.2.2.1 (Cond.static Lib.MathLoose.min_long.x) (by decide +kernel)) (G.2.2.2.2.1 _ (by decide +kernel)) (G.2.2.2.2.1 (Cond.code Lib.MathLoose.min_long.x Lib.MathLoose.min_long.code 4 (some .long)) (by decide +kernel)) (Nat.le_trans hfr G.2.2.2.2.2.2.2.2.2.2.1) (by
    have r2 : mt.2.2.2.2.1 ≤ C.R.locals := G.2.2.2.2.2.2.2.2.2.2.2.1
    rw [List.map_map]
    rw [show ((fun v : Value => v.category) ∘ toV) = catT from funext cat_toV]
    omega) h1 h2 hd (k la hl)) kk
theorem aw_mabsL {x : Int64} {idx : Nat} (hd : decode cc pc = .ok (.invokestatic idx, 3)) (hL : Cond.methodLink mt.1 idx yJ9_abs_067f4 ∈ TBg) (hfr : 1 ≤ mt.2.2.2.1) (hlo : 21 ≤ mt.2.2.2.2.1) (hc : (st.map catT).sum + 13 ≤ 21) (kk : AW C cc mt q res (pc + 3) ls (vl (abL x) :: st) P) : AW C cc mt q res pc ls (vl x :: st) P :=
  aw_ofc (fun _ _ _ _ _ la G h1 h2 hl k => va_mabs_long G.1 G.2.1 (G.2.2.1.trans hl.1.symm) G.2.2.2.1 (G.2.2.2.2.1 _ hL) (G.2.2.2.2.1 (Cond.static Lib.MathLoose.abs_long.x) (by decide +kernel)) (G.2.2.2.2.1 _ (by decide +kernel)) (G.2.2.2.2.1 (Cond.code Lib.MathLoose.abs_long.x Lib.MathLoose.abs_long.code 2 (some .long)) (by decide +kernel)) (Nat.le_trans hfr G.2.2.2.2.2.2.2.2.2.2.1) (w_room G hlo st hc) h1 h2 hd (k la hl)) kk
end AWg
