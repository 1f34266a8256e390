/-! The class's numbers are the reference's. -/
theorem cmo_e {σ : MS} {b x a : Nat} {sn : Nat → Nat} (hx : x < 2 ^ 30) (ha : a < 2 ^ 30) : ∀ k, (∀ i, i < k → σ.a 4 (5 * b + i) = nI (sn i) ∧ sn i < 2 ^ 30) → cmo (σ.l 9 b) sn (fun i a => σ.l 8 (5 * (61 * b + a) + i)) x a k = moM σ b x a k
  | 0, _ => by
    have mv := mxv (h := x) (p := a) hx ha
    rw [cmo, moM, mx_o hx ha]
    by_cases c : x ≤ a
    · rw [if_pos c, ← mv.1 c, Int64.mul_zero]
    · rw [if_neg c, mv.2 c, Int64.neg_mul, Int64.zero_sub, Int64.mul_comm]
  | k + 1, h => by
    obtain ⟨h1, h2⟩ := h k (by omega)
    have mv := mxv (h := x) (p := sn k) hx h2
    rw [cmo, moM, cmo_e hx ha k (fun i hi => h i (by omega)), mx_o hx h2, h1]
    by_cases c : x ≤ sn k
    · rw [if_pos (nI_le c (by omega)), ← mv.1 c, Int64.mul_zero]
    · rw [if_neg (nI_ge (by omega) (by omega)), mv.2 c]
theorem cin_e {σ : MS} {b x a n : Nat} {sn : Nat → Nat} {kind : Int32} (hx : x < 2 ^ 30) (ha : a < 2 ^ 30) (h : ∀ i, i < n → σ.a 4 (5 * b + i) = nI (sn i) ∧ sn i < 2 ^ 30) : cin (σ.l 9 b) sn (fun i a => σ.l 8 (5 * (61 * b + a) + i)) n kind x a = infM σ b kind x a n := by
  unfold cin infM
  by_cases c : kind = 0
  · rw [if_pos c, if_pos c]
  · rw [if_neg c, if_neg c, cmo_e hx ha n h]
/-- one axle's part -/
def axT (L : Nat) (W : Nat → Int32) (lf : Nat → Int64) (bh : Nat → Nat) (j k : Nat) : Int64 := if bh k ≤ j ∧ j < bh k + (L + 1) then (W k).toInt64 * lf (j - bh k) else 0
theorem cS_s (L : Nat) (W : Nat → Int32) (lf : Nat → Int64) (bh : Nat → Nat) (j k : Nat) : cS L W lf bh j (k + 1) = cS L W lf bh j k + axT L W lf bh j k := rfl
/-- the sum from behind -/
def dwS (n : Nat) (f : Nat → Int64) : Nat → Int64
  | 0 => 0
  | i + 1 => dwS n f i + f (n - 1 - i)
theorem dwS_e (L : Nat) (W : Nat → Int32) (lf : Nat → Int64) (bh : Nat → Nat) (j n : Nat) : ∀ i, i ≤ n → dwS n (axT L W lf bh j) i + cS L W lf bh j (n - i) = cS L W lf bh j n
  | 0, _ => by rw [dwS, Int64.zero_add, Nat.sub_zero]
  | i + 1, h => by
    have ih := dwS_e L W lf bh j n i (by omega)
    rw [dwS, show n - (i + 1) = n - 1 - i by omega]
    rw [show n - i = (n - 1 - i) + 1 by omega, cS_s] at ih
    rw [← ih, Int64.add_assoc, Int64.add_comm (axT L W lf bh j (n - 1 - i))]
theorem efS_e {σ : MS} {b x L ns t n j : Nat} {kind way : Int32} {gn : Nat → Nat} (hL : L ≤ 60) (hn : n ≤ 8) (hg : ∀ k, k < n → gpM σ t k = nI (gn k)) (hg0 : gn 0 = 0) (hG : bhN gn n ≤ 1000) (hj : j ≤ 2000) : ∀ i, i ≤ n → 0 < n → (efS σ b kind x L ns t way n (nI j) i).1 = (if way = 0 then cS L (wtM σ t) (fun a => infM σ b kind x a ns) (bhW gn n way) j i else dwS n (axT L (wtM σ t) (fun a => infM σ b kind x a ns) (bhW gn n way) j) i) ∧ (i < n → (efS σ b kind x L ns t way n (nI j) i).2 = nI j - nI (bhW gn n way (akM way n i)))
  | 0, _, hn0 => by
    refine ⟨?_, fun _ => ?_⟩
    · simp [efS, cS, dwS]
    · rw [efS, bhW]
      by_cases w : way = 0
      · simp only [if_pos w, akM]
        rw [bhN, bhN, hg0]
        simp [nI]
      · simp only [if_neg w, akM]
        rw [show n - 1 - 0 + 1 = n by omega, Nat.sub_self]
        simp [nI]
  | i + 1, hi, hn0 => by
    obtain ⟨e1, e2⟩ := efS_e (b := b) (kind := kind) (x := x) (ns := ns) (way := way) hL hn hg hg0 hG hj i (by omega) hn0
    have e2 := e2 (by omega)
    have hk : akM way n i < n := by unfold akM; split <;> omega
    have hb := bhW_le (gn := gn) way hk
    have term : (if inB (efS σ b kind x L ns t way n (nI j) i).2 0 (nI L) then (wtM σ t (akM way n i)).toInt64 * infM σ b kind x (efS σ b kind x L ns t way n (nI j) i).2.toNatClampNeg ns else 0) = axT L (wtM σ t) (fun a => infM σ b kind x a ns) (bhW gn n way) j (akM way n i) := by
      rw [e2, inB_sub (by omega) (by omega) (by omega)]
      unfold axT
      by_cases c : bhW gn n way (akM way n i) ≤ j ∧ j < bhW gn n way (akM way n i) + (L + 1)
      · rw [decide_eq_true c, if_pos rfl, if_pos c, pk_sub c.1, nI_clamp (by omega)]
      · rw [decide_eq_false c, if_neg (by decide), if_neg c]
    refine ⟨?_, fun hi2 => ?_⟩
    · rw [efS]
      simp only
      rw [term, e1]
      by_cases w : way = 0
      · simp only [if_pos w, cS_s, akM]
      · simp only [if_neg w, dwS, akM]
    · rw [efS]
      simp only
      rw [if_pos hi2, e2]
      by_cases w : way = 0
      · simp only [if_pos w, akM, bhW]
        rw [hg (i + 1) hi2, show bhN gn (i + 1 + 1) = bhN gn (i + 1) + gn (i + 1) from rfl, ← nI_add, Int32.sub_sub]
      · simp only [if_neg w, akM, bhW]
        rw [hg (n - 1 - i) (by omega), show n - 1 - (i + 1) + 1 = n - 1 - i by omega]
        have eq : bhN gn (n - 1 - i + 1) = bhN gn (n - 1 - i) + gn (n - 1 - i) := rfl
        have m1 := bhN_mono gn (a := n - 1 - i + 1) (b := n) (by omega)
        rw [show bhN gn n - bhN gn (n - 1 - i) = (bhN gn n - bhN gn (n - 1 - i + 1)) + gn (n - 1 - i) by omega, ← nI_add, Int32.sub_sub]
theorem effM_e {σ : MS} {b x L ns t n j : Nat} {kind way : Int32} {gn : Nat → Nat} (hL : L ≤ 60) (hn : n ≤ 8) (hn0 : 0 < n) (hg : ∀ k, k < n → gpM σ t k = nI (gn k)) (hg0 : gn 0 = 0) (hG : bhN gn n ≤ 1000) (hj : j ≤ 2000) : effM σ b kind x L ns t way n (nI j) = cS L (wtM σ t) (fun a => infM σ b kind x a ns) (bhW gn n way) j n := by
  have h := (efS_e (b := b) (kind := kind) (x := x) (ns := ns) (way := way) hL hn hg hg0 hG hj n (Nat.le_refl n) hn0).1
  rw [effM, h]
  by_cases w : way = 0
  · rw [if_pos w]
  · rw [if_neg w]
    have := dwS_e L (wtM σ t) (fun a => infM σ b kind x a ns) (bhW gn n way) j n n (Nat.le_refl n)
    rw [Nat.sub_self, cS, Int64.add_zero] at this
    exact this
theorem cS_c {L : Nat} {W W' : Nat → Int32} {lf lf' : Nat → Int64} {bh bh' : Nat → Nat} {j : Nat} : ∀ k, (∀ i, i < k → W i = W' i ∧ bh i = bh' i) → (∀ a, a ≤ L → lf a = lf' a) → cS L W lf bh j k = cS L W' lf' bh' j k
  | 0, _, _ => rfl
  | k + 1, h, hl => by
    obtain ⟨h1, h2⟩ := h k (by omega)
    rw [cS, cS, cS_c k (fun i hi => h i (by omega)) hl, h1, h2]
    by_cases c : bh' k ≤ j ∧ j < bh' k + (L + 1)
    · rw [if_pos c, if_pos c, hl _ (by omega)]
    · rw [if_neg c, if_neg c]
/-! the greatest and the least -/
def bsG (c : Bs) : Bs := if 0 ≤ c.1 then c else (0, -1, -1)
theorem exU_g (c : Bs) (v : Int64) (way tm : Int32) (hc : 0 ≤ c.2.1) (hw : 0 ≤ way) : exU (bsG c) v way tm = bsG (if v ≤ c.1 then c else (v, way, tm)) ∧ 0 ≤ (if v ≤ c.1 then c else (v, way, tm)).2.1 := by
  unfold exU bsG
  by_cases v0 : v < 0
  · rw [if_pos v0]
    by_cases c0 : 0 ≤ c.1
    · have : v ≤ c.1 := Int64.le_of_lt (Int64.lt_of_lt_of_le v0 c0)
      rw [if_pos c0, if_pos this, if_pos c0]
      exact ⟨rfl, hc⟩
    · rw [if_neg c0]
      by_cases v1 : v ≤ c.1
      · rw [if_pos v1, if_neg c0]
        exact ⟨rfl, hc⟩
      · rw [if_neg v1]
        simp only
        rw [if_neg (by simpa using v0)]
        exact ⟨rfl, hw⟩
  · rw [if_neg v0]
    have v0' : 0 ≤ v := by simpa using v0
    by_cases c0 : 0 ≤ c.1
    · rw [if_pos c0, if_neg (by simpa using hc)]
      by_cases v1 : v ≤ c.1
      · rw [if_pos v1, if_pos c0]
        exact ⟨rfl, hc⟩
      · rw [if_neg v1]
        simp only
        rw [if_pos v0']
        exact ⟨rfl, hw⟩
    · rw [if_neg c0, if_pos (show (0, (-1 : Int32), (-1 : Int32)).2.1 < 0 by show (-1 : Int32) < 0; decide)]
      have v1 : ¬ v ≤ c.1 := fun q => c0 (Int64.le_trans v0' q)
      rw [if_neg v1]
      simp only
      rw [if_pos v0']
      exact ⟨rfl, hw⟩
theorem exS_g (V : Nat → Int64) (way : Int32) (hw : 0 ≤ way) (c0 : Bs) (h0 : 0 ≤ c0.2.1) : ∀ m, exS V way (bsG c0) m = bsG (cgS V way c0 m) ∧ 0 ≤ (cgS V way c0 m).2.1
  | 0 => ⟨rfl, h0⟩
  | m + 1 => by
    obtain ⟨e, h⟩ := exS_g V way hw c0 h0 m
    rw [exS, cgS, e]
    exact exU_g _ _ _ _ h hw
/-- the reference's greatest out of the class's -/
theorem ex_g (V : Int32 → Nat → Int64) (T : Nat) : exS (V 1) 1 (exS (V 0) 0 (0, -1, -1) (T + 1)) (T + 1) = cG' V (T + 1) := by
  have first : ∀ m, exS (V 0) 0 (0, -1, -1) (m + 1) = bsG (cgS (V 0) 0 (V 0 0, 0, 0) (m + 1)) ∧ 0 ≤ (cgS (V 0) 0 (V 0 0, 0, 0) (m + 1)).2.1 := by
    intro m
    induction m with
    | zero =>
      have e : cgS (V 0) 0 (V 0 0, 0, 0) (0 + 1) = (V 0 0, 0, 0) := by
        rw [cgS, cgS, if_pos (Int64.le_refl _)]
      rw [e]
      refine ⟨?_, Int32.le_refl 0⟩
      rw [exS, exS]
      unfold exU bsG
      by_cases v0 : V 0 0 < 0
      · rw [if_pos v0, if_neg (by simpa using v0)]
      · rw [if_neg v0, if_pos (show (0, (-1 : Int32), (-1 : Int32)).2.1 < 0 by show (-1 : Int32) < 0; decide), if_pos (by simpa using v0)]
        rfl
    | succ m ih =>
      rw [exS, cgS, ih.1]
      exact exU_g _ _ _ _ ih.2 (by decide)
  obtain ⟨f1, f2⟩ := first T
  rw [f1, (exS_g (V 1) 1 (by decide) _ f2 (T + 1)).1]
  rfl
/-- not the least of all longs -/
def nMn (v : Int64) : Prop := v ≠ Int64.minValue
theorem ngT {v : Int64} (h : nMn v) : (0 - v).toInt = - v.toInt := by
  have h1 : v.toInt ≠ -2 ^ 63 := fun e => h (Int64.toInt_inj.mp (e.trans (by decide)))
  have h2 := Int64.le_toInt v
  have h3 := Int64.toInt_lt v
  rw [Int64.toInt_sub, Int64.toInt_zero, Int.bmod_def]
  omega
theorem ng_lt0 {v : Int64} (h : nMn v) : 0 - v < 0 ↔ 0 < v := by
  rw [Int64.lt_iff_toInt_lt, Int64.lt_iff_toInt_lt, ngT h, Int64.toInt_zero]
  omega
theorem ng_le {v w : Int64} (h : nMn v) (h' : nMn w) : 0 - v ≤ 0 - w ↔ w ≤ v := by
  rw [Int64.le_iff_toInt_le, Int64.le_iff_toInt_le, ngT h, ngT h']
  omega
def bsL (c : Bs) : Bs := if c.1 ≤ 0 then (0 - c.1, c.2.1, c.2.2) else (0, -1, -1)
theorem exU_l (c : Bs) (v : Int64) (way tm : Int32) (hc : 0 ≤ c.2.1) (hw : 0 ≤ way) (hm : nMn c.1) (hv : nMn v) : exU (bsL c) (0 - v) way tm = bsL (if c.1 ≤ v then c else (v, way, tm)) ∧ 0 ≤ (if c.1 ≤ v then c else (v, way, tm)).2.1 ∧ nMn (if c.1 ≤ v then c else (v, way, tm)).1 := by
  unfold exU bsL
  by_cases v0 : 0 < v
  · rw [if_pos ((ng_lt0 hv).mpr v0)]
    by_cases c0 : c.1 ≤ 0
    · have : c.1 ≤ v := Int64.le_of_lt (Int64.lt_of_le_of_lt c0 v0)
      rw [if_pos c0, if_pos this, if_pos c0]
      exact ⟨rfl, hc, hm⟩
    · rw [if_neg c0]
      by_cases v1 : c.1 ≤ v
      · rw [if_pos v1, if_neg c0]
        exact ⟨rfl, hc, hm⟩
      · rw [if_neg v1]
        simp only
        rw [if_neg (by simpa using v0)]
        exact ⟨rfl, hw, hv⟩
  · rw [if_neg (fun q => v0 ((ng_lt0 hv).mp q))]
    have v0' : v ≤ 0 := by simpa using v0
    by_cases c0 : c.1 ≤ 0
    · rw [if_pos c0]
      simp only
      rw [if_neg (by simpa using hc)]
      by_cases v1 : c.1 ≤ v
      · rw [if_pos ((ng_le hv hm).mpr v1), if_pos v1, if_pos c0]
        exact ⟨rfl, hc, hm⟩
      · rw [if_neg (fun q => v1 ((ng_le hv hm).mp q)), if_neg v1]
        simp only
        rw [if_pos v0']
        exact ⟨rfl, hw, hv⟩
    · rw [if_neg c0, if_pos (show (0, (-1 : Int32), (-1 : Int32)).2.1 < 0 by show (-1 : Int32) < 0; decide)]
      have v1 : ¬ c.1 ≤ v := fun q => c0 (Int64.le_trans q v0')
      rw [if_neg v1]
      simp only
      rw [if_pos v0']
      exact ⟨rfl, hw, hv⟩
theorem exS_l (V : Nat → Int64) (way : Int32) (hw : 0 ≤ way) (c0 : Bs) (h0 : 0 ≤ c0.2.1) (m0 : nMn c0.1) : ∀ m, (∀ i, i < m → nMn (V i)) → exS (fun i => 0 - V i) way (bsL c0) m = bsL (clS V way c0 m) ∧ 0 ≤ (clS V way c0 m).2.1 ∧ nMn (clS V way c0 m).1
  | 0, _ => ⟨rfl, h0, m0⟩
  | m + 1, hV => by
    obtain ⟨e, h, hm⟩ := exS_l V way hw c0 h0 m0 m (fun i hi => hV i (by omega))
    rw [exS, clS, e]
    exact exU_l _ _ _ _ h hw hm (hV m (by omega))
theorem ex_l (V : Int32 → Nat → Int64) (T : Nat) (hV : ∀ w i, i < T + 1 → nMn (V w i)) : exS (fun i => 0 - V 1 i) 1 (exS (fun i => 0 - V 0 i) 0 (0, -1, -1) (T + 1)) (T + 1) = (0 - (cL' V (T + 1)).1, (cL' V (T + 1)).2.1, (cL' V (T + 1)).2.2) := by
  have first : ∀ m, m ≤ T → exS (fun i => 0 - V 0 i) 0 (0, -1, -1) (m + 1) = bsL (clS (V 0) 0 (V 0 0, 0, 0) (m + 1)) ∧ 0 ≤ (clS (V 0) 0 (V 0 0, 0, 0) (m + 1)).2.1 ∧ nMn (clS (V 0) 0 (V 0 0, 0, 0) (m + 1)).1 := by
    intro m hm
    induction m with
    | zero =>
      have e : clS (V 0) 0 (V 0 0, 0, 0) (0 + 1) = (V 0 0, 0, 0) := by
        rw [clS, clS, if_pos (Int64.le_refl _)]
      rw [e]
      have h0 := hV 0 0 (by omega)
      refine ⟨?_, Int32.le_refl 0, h0⟩
      rw [exS, exS]
      unfold exU bsL
      by_cases v0 : 0 < V 0 0
      · rw [if_pos ((ng_lt0 h0).mpr v0), if_neg (by simpa using v0)]
      · rw [if_neg (fun q => v0 ((ng_lt0 h0).mp q)), if_pos (show (0, (-1 : Int32), (-1 : Int32)).2.1 < 0 by show (-1 : Int32) < 0; decide), if_pos (by simpa using v0)]
        rfl
    | succ m ih =>
      have ih := ih (by omega)
      rw [exS, clS, ih.1]
      exact exU_l _ _ _ _ ih.2.1 (by decide) ih.2.2 (hV 0 (m + 1) (by omega))
  obtain ⟨f1, f2, f3⟩ := first T (Nat.le_refl T)
  rw [f1, (exS_l (V 1) 1 (by decide) _ f2 f3 (T + 1) (fun i hi => hV 1 i hi)).1]
  unfold bsL cL' cL
  generalize clS (V 1) 1 (clS (V 0) 0 (V 0 0, 0, 0) (T + 1)) (T + 1) = c
  by_cases c0 : c.1 ≤ 0
  · rw [if_pos c0, if_pos c0]
  · rw [if_neg c0, if_neg c0]
    simp
