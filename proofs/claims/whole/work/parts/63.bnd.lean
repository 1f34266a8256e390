/-! Bounds: influences, effects, totals. -/
/-- a bridge's numbers: upper numbers z over p -/
def BQ (σ : MS) (b L n : Nat) (sn : Nat → Nat) (z : Nat → Nat → Int) (p : Int) : Prop := (2 ≤ n ∧ n ≤ 5) ∧ L ≤ 60 ∧ (∀ a k, a ≤ L → k < n → σ.l 8 (5 * (61 * b + a) + k) = oL (z k a)) ∧ σ.l 9 b = oL p ∧ (0 < p ∧ p ≤ 155520000) ∧ (∀ k a, 1 ≤ k → k < n → (z k a).natAbs ≤ 155520000) ∧ (∀ a, z 0 a = p - (if 1 < n then z 1 a else 0) - (if 2 < n then z 2 a else 0) - (if 3 < n then z 3 a else 0) - (if 4 < n then z 4 a else 0)) ∧ (∀ k, k < n → σ.a 4 (5 * b + k) = nI (sn k) ∧ sn k ≤ 60 ∧ sn 0 ≤ sn k)
theorem BQ_z0 {σ : MS} {b L n : Nat} {sn : Nat → Nat} {z : Nat → Nat → Int} {p : Int} (h : BQ σ b L n sn z p) (k a : Nat) (hk : k < n) : (z k a).natAbs ≤ 777600000 := by
  obtain ⟨h1, h2, h3, h4, h5, h6, h7, h8⟩ := h
  by_cases e : k = 0
  · subst e
    have q : ∀ k, 1 ≤ k → (if k < n then z k a else 0).natAbs ≤ 155520000 := by
      intro k k1
      split
      · exact h6 k a k1 (by omega)
      · decide
    have q1 := q 1 (by omega)
    have q2 := q 2 (by omega)
    have q3 := q 3 (by omega)
    have q4 := q 4 (by omega)
    have := h7 a
    omega
  · have := h6 k a (by omega) hk
    omega
/-- the moment's upper number -/
def mzI (z : Nat → Nat → Int) (p : Int) (sn : Nat → Nat) (x a : Nat) : Nat → Int
  | 0 => - (max 0 ((x : Int) - a)) * p
  | k + 1 => mzI z p sn x a k + z k a * max 0 ((x : Int) - sn k)
theorem mz_e {σ : MS} {b L n : Nat} {sn : Nat → Nat} {z : Nat → Nat → Int} {p : Int} (h : BQ σ b L n sn z p) {x a : Nat} (hx : x ≤ 60) (ha : a ≤ L) : ∀ k, k ≤ n → moM σ b x a k = oL (mzI z p sn x a k)
  | 0, _ => by
    obtain ⟨h1, h2, h3, h4, h5, h6, h7, h8⟩ := h
    have mv := mxv (h := x) (p := a) (by omega) (by omega)
    rw [moM, mzI, h4]
    by_cases c : x ≤ a
    · rw [if_pos c, show max 0 ((x : Int) - a) = 0 by omega]
      simp
      rfl
    · rw [if_neg c, mv.2 c]
      unfold oL
      rw [← Int64.ofInt_mul, Int.neg_mul, Int64.ofInt_neg, Int64.zero_sub]
  | k + 1, hk => by
    have ih := mz_e h hx ha k (by omega)
    obtain ⟨h1, h2, h3, h4, h5, h6, h7, h8⟩ := h
    obtain ⟨s1, s2, s3⟩ := h8 k (by omega)
    have mv := mxv (h := x) (p := sn k) (by omega) (by omega)
    rw [moM, mzI, ih, s1, h3 a k ha (by omega)]
    by_cases c : x ≤ sn k
    · rw [if_pos (nI_le c (by omega)), show max 0 ((x : Int) - sn k) = 0 by omega]
      simp
    · rw [if_neg (nI_ge (by omega) (by omega)), mv.2 c]
      unfold oL
      rw [← Int64.ofInt_mul, ← Int64.ofInt_add]
theorem mz_b {σ : MS} {b L n : Nat} {sn : Nat → Nat} {z : Nat → Nat → Int} {p : Int} (h : BQ σ b L n sn z p) {x a : Nat} (hx : x ≤ 60) : (mzI z p sn x a n).natAbs ≤ 46656000000 := by
  obtain ⟨h1, h2, h3, h4, h5, h6, h7, h8⟩ := h
  have p0 := mulB (x := p) (y := max 0 ((x : Int) - sn 0) - max 0 ((x : Int) - a)) (X := 155520000) (Y := 60) (by omega) (by omega)
  have q : ∀ k, 1 ≤ k → k < n → (z k a * (max 0 ((x : Int) - sn k) - max 0 ((x : Int) - sn 0))).natAbs ≤ 155520000 * 60 := by
    intro k k1 kn
    have := (h8 k kn).2
    exact mulB (h6 k a k1 kn) (by omega)
  have z0 := h7 a
  have c2 : n = 2 ∨ n = 3 ∨ n = 4 ∨ n = 5 := by omega
  rcases c2 with rfl | rfl | rfl | rfl
  · have q1 := q 1 (by omega) (by omega)
    simp at z0
    have e : mzI z p sn x a 2 = p * (max 0 ((x : Int) - sn 0) - max 0 ((x : Int) - a)) + z 1 a * (max 0 ((x : Int) - sn 1) - max 0 ((x : Int) - sn 0)) := by
      simp only [mzI, z0]
      generalize max 0 ((x : Int) - sn 0) = m0
      generalize max 0 ((x : Int) - sn 1) = m1
      generalize max 0 ((x : Int) - a) = ma
      grind
    rw [e]
    omega
  · have q1 := q 1 (by omega) (by omega)
    have q2 := q 2 (by omega) (by omega)
    simp at z0
    have e : mzI z p sn x a 3 = p * (max 0 ((x : Int) - sn 0) - max 0 ((x : Int) - a)) + z 1 a * (max 0 ((x : Int) - sn 1) - max 0 ((x : Int) - sn 0)) + z 2 a * (max 0 ((x : Int) - sn 2) - max 0 ((x : Int) - sn 0)) := by
      simp only [mzI, z0]
      generalize max 0 ((x : Int) - sn 0) = m0
      generalize max 0 ((x : Int) - sn 1) = m1
      generalize max 0 ((x : Int) - sn 2) = m2
      generalize max 0 ((x : Int) - a) = ma
      grind
    rw [e]
    omega
  · have q1 := q 1 (by omega) (by omega)
    have q2 := q 2 (by omega) (by omega)
    have q3 := q 3 (by omega) (by omega)
    simp at z0
    have e : mzI z p sn x a 4 = p * (max 0 ((x : Int) - sn 0) - max 0 ((x : Int) - a)) + z 1 a * (max 0 ((x : Int) - sn 1) - max 0 ((x : Int) - sn 0)) + z 2 a * (max 0 ((x : Int) - sn 2) - max 0 ((x : Int) - sn 0)) + z 3 a * (max 0 ((x : Int) - sn 3) - max 0 ((x : Int) - sn 0)) := by
      simp only [mzI, z0]
      generalize max 0 ((x : Int) - sn 0) = m0
      generalize max 0 ((x : Int) - sn 1) = m1
      generalize max 0 ((x : Int) - sn 2) = m2
      generalize max 0 ((x : Int) - sn 3) = m3
      generalize max 0 ((x : Int) - a) = ma
      grind
    rw [e]
    omega
  · have q1 := q 1 (by omega) (by omega)
    have q2 := q 2 (by omega) (by omega)
    have q3 := q 3 (by omega) (by omega)
    have q4 := q 4 (by omega) (by omega)
    simp at z0
    have e : mzI z p sn x a 5 = p * (max 0 ((x : Int) - sn 0) - max 0 ((x : Int) - a)) + z 1 a * (max 0 ((x : Int) - sn 1) - max 0 ((x : Int) - sn 0)) + z 2 a * (max 0 ((x : Int) - sn 2) - max 0 ((x : Int) - sn 0)) + z 3 a * (max 0 ((x : Int) - sn 3) - max 0 ((x : Int) - sn 0)) + z 4 a * (max 0 ((x : Int) - sn 4) - max 0 ((x : Int) - sn 0)) := by
      simp only [mzI, z0]
      generalize max 0 ((x : Int) - sn 0) = m0
      generalize max 0 ((x : Int) - sn 1) = m1
      generalize max 0 ((x : Int) - sn 2) = m2
      generalize max 0 ((x : Int) - sn 3) = m3
      generalize max 0 ((x : Int) - sn 4) = m4
      generalize max 0 ((x : Int) - a) = ma
      grind
    rw [e]
    omega
/-- the influence's upper number -/
def ifI (z : Nat → Nat → Int) (p : Int) (sn : Nat → Nat) (n : Nat) (kind : Int32) (x a : Nat) : Int := if kind = 0 then z x a else mzI z p sn x a n
theorem inf_z {σ : MS} {b L n : Nat} {sn : Nat → Nat} {z : Nat → Nat → Int} {p : Int} (h : BQ σ b L n sn z p) {x a : Nat} {kind : Int32} (hx : kind = 0 ∧ x < n ∨ kind = 1 ∧ x ≤ L) (ha : a ≤ L) : infM σ b kind x a n = oL (ifI z p sn n kind x a) ∧ (ifI z p sn n kind x a).natAbs ≤ 46656000000 := by
  have h2 := h.2.1
  unfold infM ifI
  rcases hx with ⟨rfl, hx⟩ | ⟨rfl, hx⟩
  · rw [if_pos rfl, if_pos rfl]
    have := BQ_z0 h x a hx
    exact ⟨h.2.2.1 a x ha hx, by omega⟩
  · rw [if_neg (by decide), if_neg (by decide)]
    exact ⟨mz_e h (by omega) ha n (Nat.le_refl n), mz_b h (by omega)⟩
/-- sums of axles over whole numbers -/
def cSI (L : Nat) (w : Nat → Int) (f : Nat → Int) (bh : Nat → Nat) (j : Nat) : Nat → Int
  | 0 => 0
  | k + 1 => cSI L w f bh j k + (if bh k ≤ j ∧ j < bh k + (L + 1) then w k * f (j - bh k) else 0)
theorem cS_z {L : Nat} {W : Nat → Int32} {lf : Nat → Int64} {w f : Nat → Int} {bh : Nat → Nat} {j : Nat} : ∀ k, (∀ i, i < k → (W i).toInt64 = oL (w i)) → (∀ a, a ≤ L → lf a = oL (f a)) → cS L W lf bh j k = oL (cSI L w f bh j k)
  | 0, _, _ => rfl
  | k + 1, hw, hf => by
    rw [cS, cSI, cS_z k (fun i hi => hw i (by omega)) hf, hw k (by omega)]
    by_cases c : bh k ≤ j ∧ j < bh k + (L + 1)
    · rw [if_pos c, if_pos c, hf _ (by omega)]
      unfold oL
      rw [← Int64.ofInt_mul, ← Int64.ofInt_add]
    · rw [if_neg c, if_neg c, Int64.add_zero, Int.add_zero]
theorem cSI_b {L X Y : Nat} {w f : Nat → Int} {bh : Nat → Nat} {j : Nat} : ∀ k, (∀ i, i < k → (w i).natAbs ≤ X) → (∀ a, a ≤ L → (f a).natAbs ≤ Y) → (cSI L w f bh j k).natAbs ≤ k * (X * Y)
  | 0, _, _ => by simp [cSI]
  | k + 1, hw, hf => by
    have ih := cSI_b (bh := bh) (j := j) k (fun i hi => hw i (by omega)) hf
    rw [cSI, Nat.succ_mul]
    by_cases c : bh k ≤ j ∧ j < bh k + (L + 1)
    · have := mulB (hw k (by omega)) (hf (j - bh k) (by omega))
      rw [if_pos c]
      omega
    · rw [if_neg c]
      omega
theorem oL_nMn {z : Int} (h : z.natAbs < 2 ^ 63) : nMn (oL z) := by
  intro e
  have := congrArg Int64.toInt e
  rw [oL_toInt h] at this
  have e2 : Int64.minValue.toInt = -2 ^ 63 := by decide
  omega
/-- beyond its times a train has no effect -/
theorem cS_0 {L n : Nat} {W : Nat → Int32} {lf : Nat → Int64} {gn : Nat → Nat} {way : Int32} {j : Nat} (hj : L + bhN gn n < j) : ∀ k, k ≤ n → cS L W lf (bhW gn n way) j k = 0
  | 0, _ => rfl
  | k + 1, hk => by
    have := bhW_le (gn := gn) way (show k < n by omega)
    rw [cS, cS_0 hj k (by omega), if_neg (by omega), Int64.zero_add]
/-- every effect lies between the least and the greatest -/
theorem cgS_ge (V : Nat → Int64) (way : Int32) (s : Bs) : ∀ m, s.1 ≤ (cgS V way s m).1 ∧ ∀ i, i < m → V i ≤ (cgS V way s m).1
  | 0 => ⟨Int64.le_refl _, fun i hi => by omega⟩
  | m + 1 => by
    obtain ⟨h1, h2⟩ := cgS_ge V way s m
    rw [cgS]
    by_cases c : V m ≤ (cgS V way s m).1
    · rw [if_pos c]
      refine ⟨h1, fun i hi => ?_⟩
      by_cases e : i = m
      · subst e; exact c
      · exact h2 i (by omega)
    · rw [if_neg c]
      have c' : (cgS V way s m).1 ≤ V m := Int64.le_of_lt (by simpa using c)
      refine ⟨Int64.le_trans h1 c', fun i hi => ?_⟩
      by_cases e : i = m
      · subst e; exact Int64.le_refl _
      · exact Int64.le_trans (h2 i (by omega)) c'
theorem clS_le (V : Nat → Int64) (way : Int32) (s : Bs) : ∀ m, (clS V way s m).1 ≤ s.1 ∧ ∀ i, i < m → (clS V way s m).1 ≤ V i
  | 0 => ⟨Int64.le_refl _, fun i hi => by omega⟩
  | m + 1 => by
    obtain ⟨h1, h2⟩ := clS_le V way s m
    rw [clS]
    by_cases c : (clS V way s m).1 ≤ V m
    · rw [if_pos c]
      refine ⟨h1, fun i hi => ?_⟩
      by_cases e : i = m
      · subst e; exact c
      · exact h2 i (by omega)
    · rw [if_neg c]
      have c' : V m ≤ (clS V way s m).1 := Int64.le_of_lt (by simpa using c)
      refine ⟨Int64.le_trans c' h1, fun i hi => ?_⟩
      by_cases e : i = m
      · subst e; exact Int64.le_refl _
      · exact Int64.le_trans c' (h2 i (by omega))
theorem cG_ge (V : Int32 → Nat → Int64) (T : Nat) : 0 ≤ (cG' V T).1 ∧ ∀ way j, (way = 0 ∨ way = 1) → j < T → V way j ≤ (cG' V T).1 := by
  have h1 := cgS_ge (V 1) 1 (cgS (V 0) 0 (V 0 0, 0, 0) T) T
  have h0 := cgS_ge (V 0) 0 (V 0 0, 0, 0) T
  have hm : ∀ way j, (way = 0 ∨ way = 1) → j < T → V way j ≤ (cG V T).1 := by
    intro way j hw hj
    rcases hw with rfl | rfl
    · exact Int64.le_trans (h0.2 j hj) h1.1
    · exact h1.2 j hj
  unfold cG'
  by_cases c : 0 ≤ (cG V T).1
  · rw [if_pos c]
    exact ⟨c, hm⟩
  · rw [if_neg c]
    exact ⟨Int64.le_refl _, fun way j hw hj => Int64.le_trans (hm way j hw hj) (Int64.le_of_lt (by simpa using c))⟩
theorem cL_le (V : Int32 → Nat → Int64) (T : Nat) : (cL' V T).1 ≤ 0 ∧ ∀ way j, (way = 0 ∨ way = 1) → j < T → (cL' V T).1 ≤ V way j := by
  have h1 := clS_le (V 1) 1 (clS (V 0) 0 (V 0 0, 0, 0) T) T
  have h0 := clS_le (V 0) 0 (V 0 0, 0, 0) T
  have hm : ∀ way j, (way = 0 ∨ way = 1) → j < T → (cL V T).1 ≤ V way j := by
    intro way j hw hj
    rcases hw with rfl | rfl
    · exact Int64.le_trans h1.1 (h0.2 j hj)
    · exact h1.2 j hj
  unfold cL'
  by_cases c : (cL V T).1 ≤ 0
  · rw [if_pos c]
    exact ⟨c, hm⟩
  · rw [if_neg c]
    exact ⟨Int64.le_refl _, fun way j hw hj => Int64.le_trans (Int64.le_of_lt (by simpa using c)) (hm way j hw hj)⟩
/-- it is one of the effects, or 0; its way and time -/
theorem cgS_mem (V : Nat → Int64) (way : Int32) (s : Bs) : ∀ m, cgS V way s m = s ∨ ∃ i, i < m ∧ cgS V way s m = (V i, way, nI i)
  | 0 => Or.inl rfl
  | m + 1 => by
    rw [cgS]
    by_cases c : V m ≤ (cgS V way s m).1
    · rw [if_pos c]
      rcases cgS_mem V way s m with h | ⟨i, hi, h⟩
      · exact Or.inl h
      · exact Or.inr ⟨i, by omega, h⟩
    · rw [if_neg c]
      exact Or.inr ⟨m, by omega, rfl⟩
theorem clS_mem (V : Nat → Int64) (way : Int32) (s : Bs) : ∀ m, clS V way s m = s ∨ ∃ i, i < m ∧ clS V way s m = (V i, way, nI i)
  | 0 => Or.inl rfl
  | m + 1 => by
    rw [clS]
    by_cases c : (clS V way s m).1 ≤ V m
    · rw [if_pos c]
      rcases clS_mem V way s m with h | ⟨i, hi, h⟩
      · exact Or.inl h
      · exact Or.inr ⟨i, by omega, h⟩
    · rw [if_neg c]
      exact Or.inr ⟨m, by omega, rfl⟩
/-- none, or one of the effects -/
def exN (V : Int32 → Nat → Int64) (T : Nat) (s : Bs) : Prop := s = (0, -1, -1) ∨ ∃ way i, (way = 0 ∨ way = 1) ∧ i < T ∧ s = (V way i, way, nI i)
theorem cG_mem (V : Int32 → Nat → Int64) {T : Nat} (hT : 0 < T) : exN V T (cG' V T) := by
  unfold cG'
  split
  · right
    rcases cgS_mem (V 1) 1 (cgS (V 0) 0 (V 0 0, 0, 0) T) T with h | ⟨i, hi, h⟩
    · unfold cG
      rw [h]
      rcases cgS_mem (V 0) 0 (V 0 0, 0, 0) T with h | ⟨i, hi, h⟩
      · exact ⟨0, 0, Or.inl rfl, hT, h⟩
      · exact ⟨0, i, Or.inl rfl, hi, h⟩
    · exact ⟨1, i, Or.inr rfl, hi, h⟩
  · exact Or.inl rfl
theorem cL_mem (V : Int32 → Nat → Int64) {T : Nat} (hT : 0 < T) : exN V T (cL' V T) := by
  unfold cL'
  split
  · right
    rcases clS_mem (V 1) 1 (clS (V 0) 0 (V 0 0, 0, 0) T) T with h | ⟨i, hi, h⟩
    · unfold cL
      rw [h]
      rcases clS_mem (V 0) 0 (V 0 0, 0, 0) T with h | ⟨i, hi, h⟩
      · exact ⟨0, 0, Or.inl rfl, hT, h⟩
      · exact ⟨0, i, Or.inl rfl, hi, h⟩
    · exact ⟨1, i, Or.inr rfl, hi, h⟩
  · exact Or.inl rfl
