/-! Turns, in the reference: the row of heights. -/
theorem size_e (v : Int64) (h : Hp) : pX11_size v h = some (if 0 ≤ v then v else -v, h) := by
  unfold pX11_size
  by_cases h1 : 0 ≤ v
  · rw [if_pos h1, if_pos h1]; rfl
  · rw [if_neg h1, if_neg h1]; rfl
def szL (v : Int64) : Int64 := if 0 ≤ v then v else -v
/-- the row f of N heights; whole and half turns -/
def stW (σ : MS) (N w hv : Int32) (f : Nat → Int64) : MS := (fun k => if k = 38 then N else if k = 39 then w else if k = 40 then hv else σ.1 k, σ.2.1, fun k j => if k = 37 then f j else σ.2.2 k j)
theorem stW_38 (σ : MS) (N w hv N' : Int32) (f : Nat → Int64) : (stW σ N w hv f).si 38 N' = stW σ N' w hv f := by
  refine Prod.ext (funext fun k => ?_) rfl
  simp only [stW, MS.si]
  by_cases h : k = 38 <;> simp [h]
theorem stW_39 (σ : MS) (N w hv w' : Int32) (f : Nat → Int64) : (stW σ N w hv f).si 39 w' = stW σ N w' hv f := by
  refine Prod.ext (funext fun k => ?_) rfl
  simp only [stW, MS.si]
  by_cases h : k = 39
  · simp [h]
  · by_cases h2 : k = 38 <;> simp [h, h2]
theorem stW_40 (σ : MS) (N w hv hv' : Int32) (f : Nat → Int64) : (stW σ N w hv f).si 40 hv' = stW σ N w hv' f := by
  refine Prod.ext (funext fun k => ?_) rfl
  simp only [stW, MS.si]
  by_cases h : k = 40
  · simp [h]
  · by_cases h2 : k = 38
    · simp [h2]
    · by_cases h3 : k = 39 <;> simp [h, h2, h3]
theorem stW_l (σ : MS) (N w hv : Int32) (f : Nat → Int64) (j : Nat) (v : Int64) : (stW σ N w hv f).sl 37 j v = stW σ N w hv (fun y => if y = j then v else f y) := by
  refine Prod.ext rfl (Prod.ext rfl (funext fun k => funext fun y => ?_))
  simp only [stW, MS.sl]
  by_cases h : k = 37
  · subst h
    by_cases h2 : y = j <;> simp [h2]
  · simp [h]
theorem stW_EQ (σ : MS) (N w hv : Int32) (f : Nat → Int64) : EQr σ (stW σ N w hv f) := ⟨rfl, rfl, rfl, fun _ => rfl, fun _ => rfl, fun _ => rfl, fun _ => rfl, fun _ => rfl, fun _ => rfl, fun _ => rfl, fun _ => rfl⟩
def dS (f : Nat → Int64) (k : Nat) : Int64 := szL (f (k + 1) - f k)
theorem stepAt_r {M : Nat} {σ : MS} {N w hv : Int32} {f : Nat → Int64} {k : Nat} (hk : k < 209) : RO M (pX11_stepAt M (nI k)) (stW σ N w hv f) (dS f k) := by
  unfold pX11_stepAt
  refine ro_gA ?_
  refine ro_ldL (k + 1) (nI_1 k) (by show _ < 210; omega) ?_
  refine ro_gA ?_
  refine ro_ldL k rfl (by show _ < 210; omega) ?_
  exact ro_eq (size_e _) ro_rn
/-- the one between goes out -/
def idM (x y z : Int64) : Bool := decide (y - x = 0) || decide (z - y = 0) || (decide (y - x ≤ 0) == decide (z - y ≤ 0))
theorem isIdle_r {M : Nat} {σ : MS} {N w hv : Int32} {f : Nat → Int64} {k : Nat} (h0 : 0 < k) (hk : k < 209) : RO M (pX11_isIdle M (nI k)) (stW σ N w hv f) (bI (idM (f (k - 1)) (f k) (f (k + 1)))) := by
  unfold pX11_isIdle idM
  refine ro_gA ?_
  refine ro_ldL k rfl (by show _ < 210; omega) ?_
  refine ro_gA ?_
  refine ro_ldL (k - 1) (pk_sub (a := k) (b := 1) (by omega)) (by show _ < 210; omega) ?_
  refine ro_gA ?_
  refine ro_ldL (k + 1) (nI_1 k) (by show _ < 210; omega) ?_
  refine ro_gA ?_
  refine ro_ldL k rfl (by show _ < 210; omega) ?_
  show RO M (if f k - f (k - 1) = 0 then rnZ 1 else if f (k + 1) - f k = 0 then rnZ 1 else if f k - f (k - 1) ≤ 0 then bX11_isIdle_57 M (f (k + 1) - f k) 0 else bX11_isIdle_57 M (f (k + 1) - f k) 1) _ _
  generalize f k - f (k - 1) = a
  generalize f (k + 1) - f k = b
  by_cases ha : a = 0
  · rw [if_pos ha, decide_eq_true ha]
    exact ro_rnZ (Or.inr rfl)
  · rw [if_neg ha, decide_eq_false ha]
    by_cases hb : b = 0
    · rw [if_pos hb, decide_eq_true hb]
      exact ro_rnZ (Or.inr rfl)
    · rw [if_neg hb, decide_eq_false hb]
      by_cases h1 : a ≤ 0
      · rw [if_pos h1, decide_eq_true h1]
        unfold bX11_isIdle_57
        by_cases h2 : b ≤ 0
        · rw [if_pos h2, decide_eq_true h2]
          exact ro_rnZ (Or.inr rfl)
        · rw [if_neg h2, decide_eq_false h2]
          exact ro_rnZ (Or.inl rfl)
      · rw [if_neg h1, decide_eq_false h1]
        unfold bX11_isIdle_57
        by_cases h2 : b ≤ 0
        · rw [if_pos h2, decide_eq_true h2]
          exact ro_rnZ (Or.inl rfl)
        · rw [if_neg h2, decide_eq_false h2]
          exact ro_rnZ (Or.inr rfl)
/-- n heights from k on go out of a row -/
def cutF (f : Nat → Int64) (k n : Nat) : Nat → Int64 := fun j => if j < k then f j else f (j + n)
theorem out_l {M : Nat} {σ : MS} {w hv : Int32} {f : Nat → Int64} {N k n : Nat} {Q : Unit → MS → Prop} (hN : N ≤ 210) (hk : k + n ≤ N) (q : ∀ g : Nat → Int64, (∀ j, j < N - n → g j = cutF f k n j) → Q () (stW σ (nI (N - n)) w hv g)) : ∀ (fu i : Nat) (g : Nat → Int64), k ≤ i → i + n ≤ N → N < i + n + fu → (∀ j, j < i → g j = cutF f k n j) → (∀ j, i ≤ j → g j = f j) → RM M (fX11_out_2 fu M (nI n) (nI i)) (stW σ (nI N) w hv g) Q
  | 0, i, g, h1, h2, h3, g1, g2 => by omega
  | fu + 1, i, g, h1, h2, h3, g1, g2 => by
    show RM M (bX11_out_2 (fX11_out_2 fu) M (nI n) (nI i)) (stW σ (nI N) w hv g) Q
    unfold bX11_out_2
    refine rm_gI ?_
    rw [nI_add, show (stW σ (nI N) w hv g).i 38 = nI N from rfl]
    by_cases hi : N ≤ i + n
    · rw [if_pos (nI_le hi (by omega))]
      refine rm_gI ?_
      refine rm_pI ?_
      rw [stW_38, show (stW σ (nI N) w hv g).i 38 = nI N from rfl, pk_sub (by omega)]
      exact rm_rn (q g (fun j hj => g1 j (by omega)))
    · rw [if_neg (nI_ge (by omega) (by omega))]
      refine rm_gA ?_
      refine rm_gA ?_
      refine rm_ldL (i + n) rfl (by show _ < 210; omega) ?_
      refine rm_stL i rfl (by show _ < 210; omega) ?_
      rw [stW_l, nI_1]
      refine out_l hN hk q fu (i + 1) _ (by omega) (by omega) (by omega) (fun j hj => ?_) (fun j hj => ?_)
      · by_cases e : j = i
        · subst e
          simp only [if_true]
          show g (j + n) = _
          rw [g2 (j + n) (by omega), cutF, if_neg (by omega)]
        · simp only [e, if_false]
          exact g1 j (by omega)
      · have e : j ≠ i := by omega
        simp only [e, if_false]
        exact g2 j (by omega)
theorem out_m {M : Nat} {σ : MS} {w hv : Int32} {f : Nat → Int64} {N k n : Nat} {Q : Unit → MS → Prop} (hN : N ≤ 210) (hk : k + n ≤ N) (q : ∀ g : Nat → Int64, (∀ j, j < N - n → g j = cutF f k n j) → Q () (stW σ (nI (N - n)) w hv g)) : RM M (pX11_out M (nI k) (nI n)) (stW σ (nI N) w hv f) Q :=
  out_l hN hk q FU k f (Nat.le_refl _) hk (by unfold FU; omega) (fun j hj => by rw [cutF, if_pos hj]) (fun _ _ => rfl)
