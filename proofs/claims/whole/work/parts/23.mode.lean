/-! Trains, influences and effects in the reference. -/
theorem ix2 (c t k : Nat) : nI c * nI t + nI k = nI (c * t + k) := by rw [pk_mul, nI_add]
theorem ix8 (t k : Nat) : (8 : Int32) * nI t + nI k = nI (8 * t + k) := ix2 8 t k
theorem ix5 (t k : Nat) : (5 : Int32) * nI t + nI k = nI (5 * t + k) := ix2 5 t k
theorem ix305 (b a : Nat) : (5 : Int32) * ((61 : Int32) * nI b + nI a) = nI (5 * (61 * b + a)) := by
  rw [show (61 : Int32) * nI b + nI a = nI (61 * b + a) from ix2 61 b a]
  exact pk_mul 5 (61 * b + a)
def wtM (σ : MS) (t k : Nat) : Int32 := if nI t = σ.i 20 then σ.a 14 (8 * t + k) * σ.i 18 / 100 else σ.a 14 (8 * t + k)
def gpM (σ : MS) (t k : Nat) : Int32 := if k = 0 then 0 else if nI t = σ.i 20 then σ.a 15 (8 * t + k) + σ.i 19 else σ.a 15 (8 * t + k) + 0
theorem weightOf_r {M : Nat} {σ : MS} {t k : Nat} (ht : t < 8) (hk : k < 8) : RO M (pX11_weightOf M (nI t) (nI k)) σ (wtM σ t k) := by
  unfold pX11_weightOf wtM
  refine ro_gA ?_
  refine ro_ldI (8 * t + k) (ix8 t k) (by show _ < 64; omega) ?_
  refine ro_gI ?_
  by_cases h : nI t = σ.i 20
  · rw [if_pos h, if_pos h]
    refine ro_gI ?_
    exact ro_eq (fun _ => dvI_e (by decide)) ro_rn
  · rw [if_neg h, if_neg h]
    exact ro_rn
theorem gapOf_r {M : Nat} {σ : MS} {t k : Nat} (ht : t < 8) (hk : k < 8) : RO M (pX11_gapOf M (nI t) (nI k)) σ (gpM σ t k) := by
  unfold pX11_gapOf gpM
  by_cases h0 : k = 0
  · subst h0
    rw [if_pos (by rfl), if_pos rfl]
    exact ro_rn
  · rw [if_neg (nI_ne0 (by omega) (by omega)), if_neg h0]
    refine ro_gA ?_
    refine ro_ldI (8 * t + k) (ix8 t k) (by show _ < 64; omega) ?_
    refine ro_gI ?_
    by_cases h : nI t = σ.i 20
    · rw [if_pos h, if_pos h]
      refine ro_gI ?_
      exact ro_rn
    · rw [if_neg h, if_neg h]
      exact ro_rn
def agM (σ : MS) (t : Nat) : Nat → Int32
  | 0 => 0
  | k + 1 => agM σ t k + gpM σ t k
theorem allGapsM_l {M : Nat} {σ : MS} {t n : Nat} (ht : t < 8) (hn : n ≤ 8) (ha : σ.a 13 t = nI n) : ∀ (f k : Nat), k ≤ n → n < k + f → RO M (fX11_allGaps_4 f M (nI t) (agM σ t k) (nI k)) σ (agM σ t n)
  | 0, k, h1, h2 => by omega
  | f + 1, k, h1, h2 => by
    show RO M (bX11_allGaps_4 (fX11_allGaps_4 f) M (nI t) (agM σ t k) (nI k)) σ _
    unfold bX11_allGaps_4
    refine ro_gA ?_
    refine ro_ldI t rfl (by show _ < 8; omega) ?_
    rw [ha]
    by_cases hk : n ≤ k
    · have e : k = n := by omega
      subst e
      rw [if_pos (nI_le hk (by omega))]
      exact ro_rn
    · rw [if_neg (nI_ge (by omega) (by omega))]
      refine ro_bd (ro_vc (gapOf_r ht (by omega))) ?_
      rw [nI_1]
      exact allGapsM_l ht hn ha f (k + 1) (by omega) (by omega)
theorem allGapsM_r {M : Nat} {σ : MS} {t n : Nat} (ht : t < 8) (hn : n ≤ 8) (ha : σ.a 13 t = nI n) : RO M (pX11_allGaps M (nI t)) σ (agM σ t n) := allGapsM_l ht hn ha FU 0 (by omega) (by unfold FU; omega)
/-- the moment at x of a load at a: the sum over the first k supports -/
def moM (σ : MS) (b x a : Nat) : Nat → Int64
  | 0 => if x ≤ a then 0 else 0 - (nI x - nI a).toInt64 * σ.l 9 b
  | k + 1 => moM σ b x a k + (if nI x ≤ σ.a 4 (5 * b + k) then 0 else σ.l 8 (5 * (61 * b + a) + k) * (nI x - σ.a 4 (5 * b + k)).toInt64)
def infM (σ : MS) (b : Nat) (kind : Int32) (x a n : Nat) : Int64 := if kind = 0 then σ.l 8 (5 * (61 * b + a) + x) else moM σ b x a n
theorem influenceAt_l {M : Nat} {σ : MS} {b x a n : Nat} (hb : b < 6) (ha : a ≤ 60) (hn : n ≤ 5) (hs : σ.a 2 b = nI n) : ∀ (f k : Nat), k ≤ n → n < k + f → RO M (fX11_influenceAt_54 f M (nI b) (nI x) (nI (5 * (61 * b + a))) (moM σ b x a k) (nI k)) σ (moM σ b x a n)
  | 0, k, h1, h2 => by omega
  | f + 1, k, h1, h2 => by
    show RO M (bX11_influenceAt_54 (fX11_influenceAt_54 f) M (nI b) (nI x) (nI (5 * (61 * b + a))) (moM σ b x a k) (nI k)) σ _
    unfold bX11_influenceAt_54
    refine ro_gA ?_
    refine ro_ldI b rfl (by show _ < 6; omega) ?_
    rw [hs]
    by_cases hk : n ≤ k
    · have e : k = n := by omega
      subst e
      rw [if_pos (nI_le hk (by omega))]
      exact ro_rn
    · rw [if_neg (nI_ge (by omega) (by omega))]
      refine ro_gA ?_
      refine ro_ldI (5 * b + k) (ix5 b k) (by show _ < 30; omega) ?_
      have ih := influenceAt_l (M := M) (σ := σ) (x := x) hb ha hn hs f (k + 1) (by omega) (by omega)
      rw [nI_1]
      by_cases hx : nI x ≤ σ.a 4 (5 * b + k)
      · rw [if_pos hx]
        rw [moM, if_pos hx] at ih
        exact ih
      · rw [if_neg hx]
        rw [moM, if_neg hx] at ih
        refine ro_gA ?_
        refine ro_ldL (5 * (61 * b + a) + k) (nI_add _ _) (by show _ < 1830; omega) ?_
        exact ih
theorem influenceAt_r {M : Nat} {σ : MS} {b x a n : Nat} (kind : Int32) (hb : b < 6) (ha : a ≤ 60) (hn : n ≤ 5) (hs : σ.a 2 b = nI n) (hx : x ≤ 60) (hx5 : kind = 0 → x < 5) : RO M (pX11_influenceAt M (nI b) kind (nI x) (nI a)) σ (infM σ b kind x a n) := by
  unfold pX11_influenceAt infM
  by_cases hk : kind = 0
  · rw [if_pos hk, if_pos hk]
    have := hx5 hk
    refine ro_gA ?_
    refine ro_ldL (5 * (61 * b + a) + x) (by rw [ix305, nI_add]) (by show _ < 1830; omega) ?_
    exact ro_rn
  · rw [if_neg hk, if_neg hk]
    have h0 := influenceAt_l (M := M) (σ := σ) (x := x) hb ha hn hs FU 0 (by omega) (by unfold FU; omega)
    rw [ix305]
    by_cases hl : x ≤ a
    · rw [if_pos (nI_le hl (by omega))]
      rw [moM, if_pos hl] at h0
      exact h0
    · rw [if_neg (nI_ge (by omega) (by omega))]
      rw [moM, if_neg hl] at h0
      refine ro_gA ?_
      refine ro_ldL b rfl (by show _ < 6; omega) ?_
      exact h0
/-- the axle that is i-th from ahead -/
def akM (way : Int32) (n i : Nat) : Nat := if way = 0 then i else n - 1 - i
/-- the sum, and the place of the next axle, behind i axles -/
def efS (σ : MS) (b : Nat) (kind : Int32) (x L ns t : Nat) (way : Int32) (n : Nat) (time : Int32) : Nat → Int64 × Int32
  | 0 => (0, time)
  | i + 1 => ((efS σ b kind x L ns t way n time i).1 + (if inB (efS σ b kind x L ns t way n time i).2 0 (nI L) then (wtM σ t (akM way n i)).toInt64 * infM σ b kind x (efS σ b kind x L ns t way n time i).2.toNatClampNeg ns else 0),
      if i + 1 < n then (efS σ b kind x L ns t way n time i).2 - gpM σ t (if way = 0 then akM way n i + 1 else akM way n i) else (efS σ b kind x L ns t way n time i).2)
def effM (σ : MS) (b : Nat) (kind : Int32) (x L ns t : Nat) (way : Int32) (n : Nat) (time : Int32) : Int64 := (efS σ b kind x L ns t way n time n).1
theorem effectAt_l {M : Nat} {σ : MS} {b x L ns t n : Nat} {kind way time : Int32} (hb : b < 6) (hL : σ.a 1 b = nI L) (hL6 : L ≤ 60) (hns : ns ≤ 5) (hs : σ.a 2 b = nI ns) (hx : x ≤ 60) (hx5 : kind = 0 → x < 5) (ht : t < 8) (hn : n ≤ 8) (ha : σ.a 13 t = nI n) : ∀ (f i : Nat), i ≤ n → n < i + f →
    RO M (fX11_effectAt_10 f M (nI b) kind (nI x) (nI t) way (efS σ b kind x L ns t way n time i).1 (efS σ b kind x L ns t way n time i).2 (nI i)) σ (effM σ b kind x L ns t way n time)
  | 0, i, h1, h2 => by omega
  | f + 1, i, h1, h2 => by
    show RO M (bX11_effectAt_10 (fX11_effectAt_10 f) M (nI b) kind (nI x) (nI t) way (efS σ b kind x L ns t way n time i).1 (efS σ b kind x L ns t way n time i).2 (nI i)) σ _
    unfold bX11_effectAt_10
    refine ro_gA ?_
    refine ro_ldI t rfl (by show _ < 8; omega) ?_
    rw [ha]
    by_cases hk : n ≤ i
    · have e : i = n := by omega
      subst e
      rw [if_pos (nI_le hk (by omega))]
      exact ro_rn
    · rw [if_neg (nI_ge (by omega) (by omega))]
      have ih := effectAt_l (M := M) (σ := σ) (way := way) (time := time) hb hL hL6 hns hs hx hx5 ht hn ha f (i + 1) (by omega) (by omega)
      generalize hS : efS σ b kind x L ns t way n time i = S at ih ⊢
      obtain ⟨sm, pl⟩ := S
      rw [efS, hS] at ih
      simp only at ih ⊢
      -- behind the choice of the axle
      have key : ∀ a9 : Nat, a9 = akM way n i → RO M (bX11_effectAt_44 (fX11_effectAt_10 f) M (nI b) kind (nI x) (nI t) way sm pl (nI i) (nI a9)) σ (effM σ b kind x L ns t way n time) := by
        intro a9 h9
        have ha9 : a9 < n := by rw [h9]; unfold akM; split <;> omega
        have key2 : ∀ sm2 : Int64, sm2 = sm + (if inB pl 0 (nI L) then (wtM σ t (akM way n i)).toInt64 * infM σ b kind x pl.toNatClampNeg ns else 0) → RO M (bX11_effectAt_87 (fX11_effectAt_10 f) M (nI b) kind (nI x) (nI t) way sm2 pl (nI i) (nI a9)) σ (effM σ b kind x L ns t way n time) := by
          intro sm2 h2s
          unfold bX11_effectAt_87
          refine ro_gA ?_
          refine ro_ldI t rfl (by show _ < 8; omega) ?_
          rw [ha, nI_1]
          rw [← h2s] at ih
          by_cases hi : n ≤ i + 1
          · rw [if_pos (nI_le hi (by omega))]
            rw [if_neg (by omega)] at ih
            exact ih
          · rw [if_neg (nI_ge (by omega) (by omega))]
            rw [if_pos (by omega), ← h9] at ih
            by_cases hw : way = 0
            · rw [if_pos hw]
              rw [if_pos hw] at ih
              unfold bX11_effectAt_120
              rw [nI_1]
              refine ro_bd (ro_vc (gapOf_r ht (by rw [h9, akM, if_pos hw]; omega))) ?_
              rw [nI_1]
              exact ih
            · rw [if_neg hw]
              rw [if_neg hw] at ih
              unfold bX11_effectAt_120
              refine ro_bd (ro_vc (gapOf_r ht (by omega))) ?_
              rw [nI_1]
              exact ih
        unfold bX11_effectAt_44
        refine ro_gA ?_
        refine ro_ldI b rfl (by show _ < 6; omega) ?_
        rw [hL]
        refine ro_eq (in_e pl 0 (nI L)) ?_
        cases hin : inB pl 0 (nI L)
        · rw [if_pos (by rfl)]
          exact key2 sm (by rw [hin]; simp)
        · rw [if_neg (by decide)]
          obtain ⟨p, hp, rfl⟩ := inB_le (by omega) hin
          refine ro_bd (ro_vc (weightOf_r ht (by omega))) ?_
          refine ro_bd (ro_vc (influenceAt_r (n := ns) kind hb (by omega) hns hs hx hx5)) ?_
          exact key2 _ (by rw [hin, nI_clamp (by omega), ← h9]; simp)
      by_cases hw : way = 0
      · rw [if_pos hw]
        exact key i (by rw [akM, if_pos hw])
      · rw [if_neg hw]
        refine ro_gA ?_
        refine ro_ldI t rfl (by show _ < 8; omega) ?_
        rw [ha, show (nI n - 1 : Int32) = nI (n - 1) from pk_sub (a := n) (b := 1) (by omega), pk_sub (by omega)]
        exact key (n - 1 - i) (by rw [akM, if_neg hw])
theorem effectAt_r {M : Nat} {σ : MS} {b x L ns t n : Nat} {kind way time : Int32} (hb : b < 6) (hL : σ.a 1 b = nI L) (hL6 : L ≤ 60) (hns : ns ≤ 5) (hs : σ.a 2 b = nI ns) (hx : x ≤ 60) (hx5 : kind = 0 → x < 5) (ht : t < 8) (hn : n ≤ 8) (ha : σ.a 13 t = nI n) : RO M (pX11_effectAt M (nI b) kind (nI x) (nI t) way time) σ (effM σ b kind x L ns t way n time) :=
  effectAt_l hb hL hL6 hns hs hx hx5 ht hn ha FU 0 (by omega) (by unfold FU; omega)
