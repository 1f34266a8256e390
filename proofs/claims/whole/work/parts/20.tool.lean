/-! Tools for the programs: one step at a time. -/
theorem bd_e {A B : Type} {p : Mo A} {k : A → Mo B} {h h' : Hp} {r : A} (e : p h = some (r, h')) : bd p k h = k r h' := by simp [bd, e]
theorem up_s (h : Hp) (a : Nat) (c : AC) : (up h a c).1 a = some c := by simp [up]
theorem up_n {h : Hp} {a b : Nat} {c : AC} (hn : b ≠ a) : (up h a c).1 b = h.1 b := by simp [up, hn]
theorem up_2 (h : Hp) (a : Nat) (c : AC) : (up h a c).2 = h.2 := rfl
theorem up_up (h : Hp) (a : Nat) (c d : AC) : up (up h a c) a d = up h a d := by
  refine Prod.ext (funext fun b => ?_) rfl
  by_cases e : b = a <;> simp [up, e]
theorem up_cm {h : Hp} {a b : Nat} {c d : AC} (hn : a ≠ b) : up (up h a c) b d = up (up h b d) a c := by
  refine Prod.ext (funext fun x => ?_) rfl
  by_cases e : x = a
  · subst e
    simp [up, hn]
  · by_cases e2 : x = b
    · subst e2
      simp [up, e]
    · simp [up, e, e2]
theorem up_id {h : Hp} {a : Nat} {c : AC} (e : h.1 a = some c) : up h a c = h := by
  refine Prod.ext (funext fun b => ?_) rfl
  by_cases q : b = a
  · subst q
    simp [up, e]
  · simp [up, q]
section PE
variable {h : Hp} {a ci k : Nat} {fs : List TV}
theorem gI_e {x : Int32} (e : h.1 a = some (ob ci fs)) (v : fs[k]? = some (vi x)) : gI (some a) ci k h = some (x, h) := by simp [gI, obOf, e, v]
theorem gL_e {x : Int64} (e : h.1 a = some (ob ci fs)) (v : fs[k]? = some (vl x)) : gL (some a) ci k h = some (x, h) := by simp [gL, obOf, e, v]
theorem gA_e {x : Option Nat} (e : h.1 a = some (ob ci fs)) (v : fs[k]? = some (vr x)) : gA (some a) ci k h = some (x, h) := by simp [gA, obOf, e, v]
theorem pF_e {t : TV} (e : h.1 a = some (ob ci fs)) (hk : k < fs.length) : pF (some a) ci k t h = some ((), up h a (ob ci (fs.set k t))) := by simp [pF, obOf, e, hk]
theorem vc_e {R : Type} {f : Nat → Mo R} (e : h.1 a = some (ob ci fs)) : vc ci (some a) f h = f a h := by simp [vc, obOf, e]
theorem ix_ok {j n : Nat} (hj : j < n) (hn : n < 2 ^ 31) : ¬ (nI j < 0 ∨ n ≤ (nI j).toNatClampNeg) := nI_in hj hn
theorem ldI_e {t j : Nat} {xs : List Int32} (e : h.1 a = some (ai t xs)) (hj : j < xs.length) (hn : xs.length < 2 ^ 31) : ldI t (some a) (nI j) h = some (xs.getD j 0, h) := by
  have h1 := ix_ok hj hn
  rw [nI_clamp (by omega)] at h1
  simp only [ldI, iaOf, e]
  simp only [if_true, nI_clamp (show j < 2 ^ 31 by omega)]
  rw [if_neg h1]
theorem ldL_e {j : Nat} {xs : List Int64} (e : h.1 a = some (al xs)) (hj : j < xs.length) (hn : xs.length < 2 ^ 31) : ldL (some a) (nI j) h = some (xs.getD j 0, h) := by
  have h1 := ix_ok hj hn
  rw [nI_clamp (by omega)] at h1
  simp only [ldL, laOf, e]
  simp only [nI_clamp (show j < 2 ^ 31 by omega)]
  rw [if_neg h1]
theorem ldQ_e {t j : Nat} {xs : List (Option Nat)} (e : h.1 a = some (aq t xs)) (hj : j < xs.length) (hn : xs.length < 2 ^ 31) : ldQ t (some a) (nI j) h = some (xs.getD j none, h) := by
  have h1 := ix_ok hj hn
  rw [nI_clamp (by omega)] at h1
  simp only [ldQ, qaOf, e]
  simp only [if_true, nI_clamp (show j < 2 ^ 31 by omega)]
  rw [if_neg h1]
theorem stI_e {j : Nat} {xs : List Int32} {x : Int32} (e : h.1 a = some (ai 0 xs)) (hj : j < xs.length) (hn : xs.length < 2 ^ 31) : stI (some a) (nI j) x h = some ((), up h a (ai 0 (xs.set j x))) := by
  have h1 := ix_ok hj hn
  rw [nI_clamp (by omega)] at h1
  simp only [stI, iaOf, e]
  simp only [if_true, nI_clamp (show j < 2 ^ 31 by omega)]
  rw [if_neg h1]
theorem stL_e {j : Nat} {xs : List Int64} {x : Int64} (e : h.1 a = some (al xs)) (hj : j < xs.length) (hn : xs.length < 2 ^ 31) : stL (some a) (nI j) x h = some ((), up h a (al (xs.set j x))) := by
  have h1 := ix_ok hj hn
  rw [nI_clamp (by omega)] at h1
  simp only [stL, laOf, e]
  simp only [nI_clamp (show j < 2 ^ 31 by omega)]
  rw [if_neg h1]
theorem stZ_e {j : Nat} {xs : List Int32} {x : Int32} (e : h.1 a = some (ai 2 xs)) (hj : j < xs.length) (hn : xs.length < 2 ^ 31) (hx : x = 0 ∨ x = 1) : stZ (some a) (nI j) x h = some ((), up h a (ai 2 (xs.set j x))) := by
  have h1 := ix_ok hj hn
  rw [nI_clamp (by omega)] at h1
  simp only [stZ, iaOf, e]
  simp only [if_true, nI_clamp (show j < 2 ^ 31 by omega)]
  rw [if_neg (fun q => q.elim h1 (fun q => q hx))]
theorem alnI_e {xs : List Int32} (e : h.1 a = some (ai 0 xs)) : aln (some a) h = some (nI xs.length, h) := by simp [aln, e, nI]
theorem alnL_e {xs : List Int64} (e : h.1 a = some (al xs)) : aln (some a) h = some (nI xs.length, h) := by simp [aln, e, nI]
theorem dvL_e {x y : Int64} (hy : ¬ y = 0) : dvL x y h = some (x / y, h) := by simp [dvL, hy]
theorem dvI_e {x y : Int32} (hy : ¬ y = 0) : dvI x y h = some (x / y, h) := by simp [dvI, hy]
theorem rmL_e {x y : Int64} (hy : ¬ y = 0) : rmL x y h = some (x - x / y * y, h) := by simp [rmL, hy]
theorem rn_e {R : Type} (r : R) : rn r h = some (r, h) := rfl
theorem rnZ_e {x : Int32} (hx : x = 0 ∨ x = 1) : rnZ x h = some (x, h) := by simp [rnZ, hx]
end PE
/-- a truth value as the machine has it -/
def bI (c : Bool) : Int32 := if c then 1 else 0
theorem bI_01 (c : Bool) : bI c = 0 ∨ bI c = 1 := by cases c <;> simp [bI]
theorem bI_0 (c : Bool) : bI c = 0 ↔ c = false := by cases c <;> simp [bI]
theorem lI (n : Nat) : (OfNat.ofNat n : Int32) = nI n := rfl
theorem pX10_within_e (v lo hi : Int32) (h : Hp) : pX10_within v lo hi h = some (bI (decide (lo ≤ v ∧ v ≤ hi)), h) := by
  unfold pX10_within
  by_cases h1 : v < lo
  · have : ¬ lo ≤ v := by simpa using h1
    simp [h1, this, rnZ, bI]
  · have h2 : lo ≤ v := by simpa using h1
    by_cases h3 : hi < v
    · have : ¬ v ≤ hi := by simpa using h3
      simp [h1, h3, this, rnZ, bI]
    · have : v ≤ hi := by simpa using h3
      simp [h1, h2, h3, this, rnZ, bI]
/-! Train.allGaps: the sum of the first n gaps -/
def sumG (gs : List Int32) : Nat → Int32
  | 0 => 0
  | n + 1 => sumG gs n + gs.getD n 0
theorem allGaps_loop {h : Hp} {t w g : Nat} {ws gs : List Int32} {n : Nat} {r : Int32} (ht : h.1 t = some (ob 8 [vr (some w), vr (some g), vi (nI n), vi r])) (hg : h.1 g = some (ai 0 gs)) (hl : gs.length = 8) (hn : n ≤ 8) :
    ∀ (f k : Nat), k ≤ n → n < k + f → fX8_allGaps_4 f t (sumG gs k) (nI k) h = some (sumG gs n, h)
  | 0, k, h1, h2 => by omega
  | f + 1, k, h1, h2 => by
    show bX8_allGaps_4 (fX8_allGaps_4 f) t (sumG gs k) (nI k) h = _
    unfold bX8_allGaps_4
    rw [bd_e (gI_e (k := 2) ht rfl)]
    by_cases hk : n ≤ k
    · have e : k = n := by omega
      subst e
      rw [if_pos ((nI_leI (by omega) (by omega)).mpr hk)]
      rfl
    · rw [if_neg (fun q => hk ((nI_leI (by omega) (by omega)).mp q)), bd_e (gA_e (k := 1) ht rfl), bd_e (ldI_e hg (by omega) (by omega))]
      rw [nI_1]
      exact allGaps_loop (ws := ws) ht hg hl hn f (k + 1) (by omega) (by omega)
theorem allGaps_e {h : Hp} {t w g : Nat} {ws gs : List Int32} {n : Nat} {r : Int32} (ht : h.1 t = some (ob 8 [vr (some w), vr (some g), vi (nI n), vi r])) (hg : h.1 g = some (ai 0 gs)) (hl : gs.length = 8) (hn : n ≤ 8) : pX8_allGaps t h = some (sumG gs n, h) :=
  allGaps_loop (ws := ws) ht hg hl hn FU 0 (by omega) (by unfold FU; omega)
