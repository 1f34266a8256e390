/-! THE REFERENCE'S STATE, and a logic of programs on it: its object is at M, its arrays behind it; no heap is seen. -/
/-- int fields by number; int (and boolean) arrays by field and place; long arrays -/
abbrev MS : Type := (Nat → Int32) × (Nat → Nat → Int32) × (Nat → Nat → Int64)
def MS.i (σ : MS) (k : Nat) : Int32 := σ.1 k
def MS.a (σ : MS) (k j : Nat) : Int32 := σ.2.1 k j
def MS.l (σ : MS) (k j : Nat) : Int64 := σ.2.2 k j
def MS.si (σ : MS) (k : Nat) (v : Int32) : MS := (fun x => if x = k then v else σ.1 x, σ.2)
def MS.sa (σ : MS) (k j : Nat) (v : Int32) : MS := (σ.1, fun x y => if x = k ∧ y = j then v else σ.2.1 x y, σ.2.2)
def MS.sl (σ : MS) (k j : Nat) (v : Int64) : MS := (σ.1, σ.2.1, fun x y => if x = k ∧ y = j then v else σ.2.2 x y)
theorem si_i (σ : MS) (k : Nat) (v : Int32) (x : Nat) : (σ.si k v).i x = if x = k then v else σ.i x := rfl
theorem si_a (σ : MS) (k : Nat) (v : Int32) (x y : Nat) : (σ.si k v).a x y = σ.a x y := rfl
theorem si_l (σ : MS) (k : Nat) (v : Int32) (x y : Nat) : (σ.si k v).l x y = σ.l x y := rfl
theorem sa_i (σ : MS) (k j : Nat) (v : Int32) (x : Nat) : (σ.sa k j v).i x = σ.i x := rfl
theorem sa_a (σ : MS) (k j : Nat) (v : Int32) (x y : Nat) : (σ.sa k j v).a x y = if x = k ∧ y = j then v else σ.a x y := rfl
theorem sa_l (σ : MS) (k j : Nat) (v : Int32) (x y : Nat) : (σ.sa k j v).l x y = σ.l x y := rfl
theorem sl_i (σ : MS) (k j : Nat) (v : Int64) (x : Nat) : (σ.sl k j v).i x = σ.i x := rfl
theorem sl_a (σ : MS) (k j : Nat) (v : Int64) (x y : Nat) : (σ.sl k j v).a x y = σ.a x y := rfl
theorem sl_l (σ : MS) (k j : Nat) (v : Int64) (x y : Nat) : (σ.sl k j v).l x y = if x = k ∧ y = j then v else σ.l x y := rfl
def adM (k : Nat) : Nat := [0, 1, 2, 3, 4, 5, 6, 7, 8, 9, 10, 11, 0, 12, 13, 14, 15, 0, 0, 0, 0, 0, 0, 16, 17, 18, 19, 20, 0, 21, 22, 23, 24, 25, 26, 27, 28, 29, 0, 0, 0].getD k 0
def lnM (k : Nat) : Nat := [0, 6, 6, 6, 30, 6, 6, 6, 1830, 6, 30, 7, 0, 8, 64, 64, 8, 0, 0, 0, 0, 0, 0, 6, 30, 30, 30, 30, 0, 24, 24, 24, 24, 24, 10, 10, 12, 210, 0, 0, 0].getD k 0
/-- 0: an int; 1: an int array; 2: a boolean array; 3: a long array -/
def kdM (k : Nat) : Nat := [0, 1, 1, 1, 1, 1, 1, 1, 3, 3, 3, 1, 0, 1, 1, 1, 1, 0, 0, 0, 0, 0, 0, 1, 1, 1, 1, 1, 0, 1, 1, 1, 1, 2, 1, 1, 1, 3, 0, 0, 0].getD k 0
theorem adM_inj : ∀ j, j < 41 → ∀ k, k < 41 → kdM j ≠ 0 → kdM k ≠ 0 → adM j = adM k → j = k := by decide +kernel
theorem adM_pos : ∀ k, k < 41 → kdM k ≠ 0 → 0 < adM k ∧ adM k < 30 := by decide +kernel
theorem lnM_le : ∀ k, k < 41 → lnM k ≤ 1830 := by decide +kernel
def arI (n : Nat) (f : Nat → Int32) : List Int32 := (List.range n).map f
def arL (n : Nat) (f : Nat → Int64) : List Int64 := (List.range n).map f
theorem arI_len (n : Nat) (f : Nat → Int32) : (arI n f).length = n := by simp [arI]
theorem arL_len (n : Nat) (f : Nat → Int64) : (arL n f).length = n := by simp [arL]
theorem arI_get {n j : Nat} (f : Nat → Int32) (h : j < n) : (arI n f).getD j 0 = f j := by simp [arI, List.getD, h]
theorem arL_get {n j : Nat} (f : Nat → Int64) (h : j < n) : (arL n f).getD j 0 = f j := by simp [arL, List.getD, h]
theorem arI_set (n j : Nat) (f : Nat → Int32) (v : Int32) : (arI n f).set j v = arI n (fun y => if y = j then v else f y) := by
  apply List.ext_getElem?
  intro i
  by_cases h : i = j
  · subst h
    by_cases hi : i < n
    · simp [arI, hi]
    · simp [arI, hi]
  · rw [List.getElem?_set_ne (Ne.symm h)]
    by_cases hi : i < n
    · simp [arI, hi, h]
    · simp [arI, hi]
theorem arL_set (n j : Nat) (f : Nat → Int64) (v : Int64) : (arL n f).set j v = arL n (fun y => if y = j then v else f y) := by
  apply List.ext_getElem?
  intro i
  by_cases h : i = j
  · subst h
    by_cases hi : i < n
    · simp [arL, hi]
    · simp [arL, hi]
  · rw [List.getElem?_set_ne (Ne.symm h)]
    by_cases hi : i < n
    · simp [arL, hi, h]
    · simp [arL, hi]
def objM (M : Nat) (f : Nat → Int32) : List TV := (List.range 41).map (fun k => if kdM k = 0 then vi (f k) else vr (some (M + adM k)))
def celM (σ : MS) (k : Nat) : AC := if kdM k = 1 then ai 0 (arI (lnM k) (σ.a k)) else if kdM k = 2 then ai 2 (arI (lnM k) (σ.a k)) else al (arL (lnM k) (σ.l k))
/-- the heap holds the reference at M, in the state σ -/
def IM (h : Hp) (M : Nat) (σ : MS) : Prop := h.1 M = some (ob 11 (objM M σ.1)) ∧ ∀ k, k < 41 → kdM k ≠ 0 → h.1 (M + adM k) = some (celM σ k)
/-- only the reference's cells have changed -/
def FrM (M : Nat) (h h' : Hp) : Prop := h'.2 = h.2 ∧ ∀ a, (a < M ∨ M + 30 ≤ a) → h'.1 a = h.1 a
theorem FrM.rf (M : Nat) (h : Hp) : FrM M h h := ⟨rfl, fun _ _ => rfl⟩
theorem FrM.tr {M : Nat} {h h1 h2 : Hp} (a : FrM M h h1) (b : FrM M h1 h2) : FrM M h h2 := ⟨b.1.trans a.1, fun x hx => (b.2 x hx).trans (a.2 x hx)⟩
/-- from the state σ the program comes to an end with Q -/
def RM {R : Type} (M : Nat) (P : Mo R) (σ : MS) (Q : R → MS → Prop) : Prop := ∀ h, IM h M σ → ∃ r h' σ', P h = some (r, h') ∧ IM h' M σ' ∧ FrM M h h' ∧ Q r σ'
theorem rm_rn {R : Type} {M : Nat} {r : R} {σ : MS} {Q : R → MS → Prop} (q : Q r σ) : RM M (rn r) σ Q := fun h hI => ⟨r, h, σ, rfl, hI, FrM.rf M h, q⟩
theorem rm_rnZ {M : Nat} {x : Int32} {σ : MS} {Q : Int32 → MS → Prop} (hx : x = 0 ∨ x = 1) (q : Q x σ) : RM M (rnZ x) σ Q := fun h hI => ⟨x, h, σ, rnZ_e hx, hI, FrM.rf M h, q⟩
theorem rm_bd {A B : Type} {M : Nat} {p : Mo A} {k : A → Mo B} {σ : MS} {Q : B → MS → Prop} (hp : RM M p σ (fun r σ' => RM M (k r) σ' Q)) : RM M (bd p k) σ Q := by
  intro h hI
  obtain ⟨r, h', σ', e, hI', f1, q⟩ := hp h hI
  obtain ⟨r2, h2, σ2, e2, hI2, f2, q2⟩ := q h' hI'
  exact ⟨r2, h2, σ2, by rw [bd_e e]; exact e2, hI2, f1.tr f2, q2⟩
theorem rm_eq {A B : Type} {M : Nat} {p : Mo A} {k : A → Mo B} {σ : MS} {Q : B → MS → Prop} {r : A} (hp : ∀ h, p h = some (r, h)) (hk : RM M (k r) σ Q) : RM M (bd p k) σ Q := by
  intro h hI
  rw [bd_e (hp h)]
  exact hk h hI
theorem rm_vc {R : Type} {M : Nat} {f : Nat → Mo R} {σ : MS} {Q : R → MS → Prop} (hf : RM M (f M) σ Q) : RM M (vc 11 (some M) f) σ Q := by
  intro h hI
  rw [vc_e hI.1]
  exact hf h hI
theorem rm_mono {R : Type} {M : Nat} {P : Mo R} {σ : MS} {Q Q' : R → MS → Prop} (hp : RM M P σ Q) (hq : ∀ r σ', Q r σ' → Q' r σ') : RM M P σ Q' := by
  intro h hI
  obtain ⟨r, h', σ', e, hI', f1, q⟩ := hp h hI
  exact ⟨r, h', σ', e, hI', f1, hq r σ' q⟩
section RMs
variable {R : Type} {M : Nat} {σ : MS} {Q : R → MS → Prop}
theorem obj_i {k : Nat} (hk : k < 41) (h0 : kdM k = 0) (f : Nat → Int32) : (objM M f)[k]? = some (vi (f k)) := by simp [objM, hk, h0]
theorem obj_a {k : Nat} (hk : k < 41) (h0 : kdM k ≠ 0) (f : Nat → Int32) : (objM M f)[k]? = some (vr (some (M + adM k))) := by simp [objM, hk, h0]
theorem rm_gI {k : Nat} {f : Int32 → Mo R} (hf : RM M (f (σ.i k)) σ Q) (hk : k < 41 := by decide) (h0 : kdM k = 0 := by decide) : RM M (bd (gI (some M) 11 k) f) σ Q := by
  intro h hI
  rw [bd_e (gI_e hI.1 (obj_i hk h0 σ.1))]
  exact hf h hI
theorem rm_gA {k : Nat} {f : Option Nat → Mo R} (hf : RM M (f (some (M + adM k))) σ Q) (hk : k < 41 := by decide) (h0 : kdM k ≠ 0 := by decide) : RM M (bd (gA (some M) 11 k) f) σ Q := by
  intro h hI
  rw [bd_e (gA_e hI.1 (obj_a hk h0 σ.1))]
  exact hf h hI
theorem IM.upI {h : Hp} (hI : IM h M σ) {k : Nat} (hk : k < 41) (h0 : kdM k = 0) (v : Int32) : IM (up h M (ob 11 ((objM M σ.1).set k (vi v)))) M (σ.si k v) := by
  refine ⟨?_, fun j hj hj0 => ?_⟩
  · rw [up_s]
    congr 2
    congr 1
    apply List.ext_getElem?
    intro i
    by_cases h : i = k
    · subst h
      simp [objM, MS.si, hk, h0]
    · rw [List.getElem?_set_ne (Ne.symm h)]
      simp [objM, MS.si]
      by_cases hi : i < 41
      · simp [hi, h]
      · simp [hi]
  · have := adM_pos j hj hj0
    rw [up_n (by omega), hI.2 j hj hj0]
    rfl
theorem rm_pI {k : Nat} {v : Int32} {f : Unit → Mo R} (hf : RM M (f ()) (σ.si k v) Q) (hk : k < 41 := by decide) (h0 : kdM k = 0 := by decide) : RM M (bd (pF (some M) 11 k (vi v)) f) σ Q := by
  intro h hI
  rw [bd_e (pF_e hI.1 (by simp [objM]; exact hk))]
  obtain ⟨r, h', σ', e, hI', f1, q⟩ := hf _ (hI.upI hk h0 v)
  exact ⟨r, h', σ', e, hI', ⟨f1.1, fun a ha => by rw [f1.2 a ha, up_n (by omega)]⟩, q⟩
theorem cel_i {k : Nat} (h : kdM k = 1) : celM σ k = ai 0 (arI (lnM k) (σ.a k)) := by simp [celM, h]
theorem cel_z {k : Nat} (h : kdM k = 2) : celM σ k = ai 2 (arI (lnM k) (σ.a k)) := by simp [celM, h]
theorem cel_l {k : Nat} (h : kdM k = 3) : celM σ k = al (arL (lnM k) (σ.l k)) := by simp [celM, h]
theorem rm_ldI {k : Nat} {i : Int32} (j : Nat) (hi : i = nI j) (hj : j < lnM k) {f : Int32 → Mo R} (hf : RM M (f (σ.a k j)) σ Q) (hk : k < 41 := by decide) (h0 : kdM k = 1 := by decide) : RM M (bd (ldI 0 (some (M + adM k)) i) f) σ Q := by
  intro h hI
  subst hi
  have hl := lnM_le k hk
  have hc := hI.2 k hk (by omega)
  rw [cel_i h0] at hc
  rw [bd_e (ldI_e hc (by rw [arI_len]; exact hj) (by rw [arI_len]; omega)), arI_get _ hj]
  exact hf h hI
theorem rm_ldZ {k : Nat} {i : Int32} (j : Nat) (hi : i = nI j) (hj : j < lnM k) {f : Int32 → Mo R} (hf : RM M (f (σ.a k j)) σ Q) (hk : k < 41 := by decide) (h0 : kdM k = 2 := by decide) : RM M (bd (ldI 2 (some (M + adM k)) i) f) σ Q := by
  intro h hI
  subst hi
  have hl := lnM_le k hk
  have hc := hI.2 k hk (by omega)
  rw [cel_z h0] at hc
  rw [bd_e (ldI_e hc (by rw [arI_len]; exact hj) (by rw [arI_len]; omega)), arI_get _ hj]
  exact hf h hI
theorem rm_ldL {k : Nat} {i : Int32} (j : Nat) (hi : i = nI j) (hj : j < lnM k) {f : Int64 → Mo R} (hf : RM M (f (σ.l k j)) σ Q) (hk : k < 41 := by decide) (h0 : kdM k = 3 := by decide) : RM M (bd (ldL (some (M + adM k)) i) f) σ Q := by
  intro h hI
  subst hi
  have hl := lnM_le k hk
  have hc := hI.2 k hk (by omega)
  rw [cel_l h0] at hc
  rw [bd_e (ldL_e hc (by rw [arL_len]; exact hj) (by rw [arL_len]; omega)), arL_get _ hj]
  exact hf h hI
theorem IM.upA {h : Hp} (hI : IM h M σ) {σ' : MS} {k : Nat} {c : AC} (hk : k < 41) (h0 : kdM k ≠ 0) (hc : c = celM σ' k) (ho : σ'.1 = σ.1) (he : ∀ x, x ≠ k → celM σ' x = celM σ x) : IM (up h (M + adM k) c) M σ' := by
  have hp := adM_pos k hk h0
  refine ⟨?_, fun j hj hj0 => ?_⟩
  · rw [up_n (by omega), ho]
    exact hI.1
  · by_cases e : j = k
    · subst e
      rw [up_s, hc]
    · rw [up_n (fun q => e (adM_inj j hj k hk hj0 h0 (by omega))), hI.2 j hj hj0, he j e]
theorem cel_sa {k j : Nat} {v : Int32} {x : Nat} (h : x ≠ k) : celM (σ.sa k j v) x = celM σ x := by
  have e : (σ.sa k j v).a x = σ.a x := funext fun y => by rw [sa_a]; simp [h]
  simp only [celM, e]
  rfl
theorem cel_sl {k j : Nat} {v : Int64} {x : Nat} (h : x ≠ k) : celM (σ.sl k j v) x = celM σ x := by
  have e : (σ.sl k j v).l x = σ.l x := funext fun y => by rw [sl_l]; simp [h]
  simp only [celM, e]
  rfl
theorem rm_stI {k : Nat} {i v : Int32} (j : Nat) (hi : i = nI j) (hj : j < lnM k) {f : Unit → Mo R} (hf : RM M (f ()) (σ.sa k j v) Q) (hk : k < 41 := by decide) (h0 : kdM k = 1 := by decide) : RM M (bd (stI (some (M + adM k)) i v) f) σ Q := by
  intro h hI
  subst hi
  have hl := lnM_le k hk
  have hn : kdM k ≠ 0 := by omega
  have hc := hI.2 k hk hn
  rw [cel_i h0] at hc
  have hp := adM_pos k hk hn
  rw [bd_e (stI_e hc (by rw [arI_len]; exact hj) (by rw [arI_len]; omega))]
  obtain ⟨r, h', σ', e, hI', f1, q⟩ := hf _ (hI.upA (σ' := σ.sa k j v) (c := ai 0 ((arI (lnM k) (σ.a k)).set j v)) hk hn (by rw [cel_i h0, arI_set]; congr 1; congr 1; congr 1; funext y; rw [sa_a]; simp) rfl (fun x hx => cel_sa hx))
  exact ⟨r, h', σ', e, hI', ⟨f1.1, fun a ha => by rw [f1.2 a ha, up_n (by omega)]⟩, q⟩
theorem rm_stZ {k : Nat} {i v : Int32} (j : Nat) (hi : i = nI j) (hj : j < lnM k) (hv : v = 0 ∨ v = 1) {f : Unit → Mo R} (hf : RM M (f ()) (σ.sa k j v) Q) (hk : k < 41 := by decide) (h0 : kdM k = 2 := by decide) : RM M (bd (stZ (some (M + adM k)) i v) f) σ Q := by
  intro h hI
  subst hi
  have hl := lnM_le k hk
  have hn : kdM k ≠ 0 := by omega
  have hc := hI.2 k hk hn
  rw [cel_z h0] at hc
  have hp := adM_pos k hk hn
  rw [bd_e (stZ_e hc (by rw [arI_len]; exact hj) (by rw [arI_len]; omega) hv)]
  obtain ⟨r, h', σ', e, hI', f1, q⟩ := hf _ (hI.upA (σ' := σ.sa k j v) (c := ai 2 ((arI (lnM k) (σ.a k)).set j v)) hk hn (by rw [cel_z h0, arI_set]; congr 1; congr 1; congr 1; funext y; rw [sa_a]; simp) rfl (fun x hx => cel_sa hx))
  exact ⟨r, h', σ', e, hI', ⟨f1.1, fun a ha => by rw [f1.2 a ha, up_n (by omega)]⟩, q⟩
theorem rm_stL {k : Nat} {i : Int32} {v : Int64} (j : Nat) (hi : i = nI j) (hj : j < lnM k) {f : Unit → Mo R} (hf : RM M (f ()) (σ.sl k j v) Q) (hk : k < 41 := by decide) (h0 : kdM k = 3 := by decide) : RM M (bd (stL (some (M + adM k)) i v) f) σ Q := by
  intro h hI
  subst hi
  have hl := lnM_le k hk
  have hn : kdM k ≠ 0 := by omega
  have hc := hI.2 k hk hn
  rw [cel_l h0] at hc
  have hp := adM_pos k hk hn
  rw [bd_e (stL_e hc (by rw [arL_len]; exact hj) (by rw [arL_len]; omega))]
  obtain ⟨r, h', σ', e, hI', f1, q⟩ := hf _ (hI.upA (σ' := σ.sl k j v) (c := al ((arL (lnM k) (σ.l k)).set j v)) hk hn (by rw [cel_l h0, arL_set]; congr 1; congr 1; congr 1; funext y; rw [sl_l]; simp) rfl (fun x hx => cel_sl hx))
  exact ⟨r, h', σ', e, hI', ⟨f1.1, fun a ha => by rw [f1.2 a ha, up_n (by omega)]⟩, q⟩
end RMs
