/-! The greatest and the least, in the reference. -/
/-- what readers of bridges and trains look at is the same -/
def EQr (σ τ : MS) : Prop := τ.i 18 = σ.i 18 ∧ τ.i 19 = σ.i 19 ∧ τ.i 20 = σ.i 20 ∧ (∀ j, τ.a 1 j = σ.a 1 j) ∧ (∀ j, τ.a 2 j = σ.a 2 j) ∧ (∀ j, τ.a 4 j = σ.a 4 j) ∧ (∀ j, τ.a 13 j = σ.a 13 j) ∧ (∀ j, τ.a 14 j = σ.a 14 j) ∧ (∀ j, τ.a 15 j = σ.a 15 j) ∧ (∀ j, τ.l 8 j = σ.l 8 j) ∧ (∀ j, τ.l 9 j = σ.l 9 j)
theorem EQr.rf (σ : MS) : EQr σ σ := ⟨rfl, rfl, rfl, fun _ => rfl, fun _ => rfl, fun _ => rfl, fun _ => rfl, fun _ => rfl, fun _ => rfl, fun _ => rfl, fun _ => rfl⟩
section Cong
variable {σ τ : MS} (e : EQr σ τ)
theorem wtM_c (t k : Nat) (e : EQr σ τ) : wtM τ t k = wtM σ t k := by
  obtain ⟨e1, e2, e3, e4, e5, e6, e7, e8, e9, e10, e11⟩ := e
  simp only [wtM, e1, e3, e8]
theorem gpM_c (t k : Nat) (e : EQr σ τ) : gpM τ t k = gpM σ t k := by
  obtain ⟨e1, e2, e3, e4, e5, e6, e7, e8, e9, e10, e11⟩ := e
  simp only [gpM, e2, e3, e9]
theorem agM_c (t : Nat) (e : EQr σ τ) : ∀ k, agM τ t k = agM σ t k
  | 0 => rfl
  | k + 1 => by rw [agM, agM, agM_c t e k, gpM_c t k e]
theorem moM_c (b x a : Nat) (e : EQr σ τ) : ∀ k, moM τ b x a k = moM σ b x a k
  | 0 => by
    obtain ⟨e1, e2, e3, e4, e5, e6, e7, e8, e9, e10, e11⟩ := e
    simp only [moM, e11]
  | k + 1 => by
    have ih := moM_c b x a e k
    obtain ⟨e1, e2, e3, e4, e5, e6, e7, e8, e9, e10, e11⟩ := e
    simp only [moM, ih, e6, e10]
theorem infM_c (b : Nat) (kind : Int32) (x a n : Nat) (e : EQr σ τ) : infM τ b kind x a n = infM σ b kind x a n := by
  have h := moM_c b x a e n
  obtain ⟨e1, e2, e3, e4, e5, e6, e7, e8, e9, e10, e11⟩ := e
  simp only [infM, h, e10]
theorem efS_c (b : Nat) (kind : Int32) (x L ns t : Nat) (way : Int32) (n : Nat) (time : Int32) (e : EQr σ τ) : ∀ i, efS τ b kind x L ns t way n time i = efS σ b kind x L ns t way n time i
  | 0 => rfl
  | i + 1 => by
    have ih := efS_c b kind x L ns t way n time e i
    simp only [efS, ih, wtM_c t _ e, gpM_c t _ e, infM_c b kind x _ ns e]
theorem effM_c (b : Nat) (kind : Int32) (x L ns t : Nat) (way : Int32) (n : Nat) (time : Int32) (e : EQr σ τ) : effM τ b kind x L ns t way n time = effM σ b kind x L ns t way n time := by rw [effM, effM, efS_c b kind x L ns t way n time e]
end Cong
/-- the best so far: it, its way, its time -/
abbrev Bs : Type := Int64 × Int32 × Int32
def exU (s : Bs) (v : Int64) (way tm : Int32) : Bs := if v < 0 then s else if s.2.1 < 0 then (v, way, tm) else if v ≤ s.1 then s else (v, way, tm)
def exS (V : Nat → Int64) (way : Int32) (s : Bs) : Nat → Bs
  | 0 => s
  | m + 1 => exU (exS V way s m) (V m) way (nI m)
def exV (σ : MS) (b : Nat) (kind : Int32) (x L ns t n : Nat) (en way : Int32) (m : Nat) : Int64 := if en = 0 then effM σ b kind x L ns t way n (nI m) else 0 - effM σ b kind x L ns t way n (nI m)
/-- both ways, of T + 1 times each -/
def exM (σ : MS) (b : Nat) (kind : Int32) (x L ns t n : Nat) (en : Int32) (T : Nat) : Bs := exS (exV σ b kind x L ns t n en 1) 1 (exS (exV σ b kind x L ns t n en 0) 0 (0, -1, -1) (T + 1)) (T + 1)
def exA (en : Int32) (s : Bs) : Int64 := if en = 0 then s.1 else 0 - s.1
def stB (σ : MS) (s : Bs) : MS := (σ.si 21 s.2.1).si 22 s.2.2
theorem stB_EQ (σ : MS) (s : Bs) : EQr σ (stB σ s) := ⟨rfl, rfl, rfl, fun _ => rfl, fun _ => rfl, fun _ => rfl, fun _ => rfl, fun _ => rfl, fun _ => rfl, fun _ => rfl, fun _ => rfl⟩
theorem stB_st (σ : MS) (s : Bs) (v : Int64) (w u : Int32) : ((stB σ s).si 21 w).si 22 u = stB σ (v, w, u) := by
  refine Prod.ext (funext fun k => ?_) rfl
  simp only [stB, MS.si]
  by_cases h : k = 22
  · simp [h]
  · by_cases h2 : k = 21 <;> simp [h, h2]
theorem extreme_in {M : Nat} {σ : MS} {b x L ns t n G : Nat} {kind en way : Int32} {k16 : Nat → Int32 → Int32 → Int32 → Int32 → Int32 → Int64 → Int32 → Mo Int64} {Q : Int64 → MS → Prop} {s0 : Bs} (hb : b < 6) (hL : σ.a 1 b = nI L) (hL6 : L ≤ 60) (hns : ns ≤ 5) (hs : σ.a 2 b = nI ns) (hx : x ≤ 60) (hx5 : kind = 0 → x < 5) (ht : t < 8) (hn : n ≤ 8) (ha : σ.a 13 t = nI n) (hG : agM σ t n = nI G) (hG3 : G ≤ 1000)
    (hk : RM M (k16 M (nI b) kind (nI x) (nI t) en (exS (exV σ b kind x L ns t n en way) way s0 (L + G + 1)).1 (way + 1)) (stB σ (exS (exV σ b kind x L ns t n en way) way s0 (L + G + 1))) Q) : ∀ (f m : Nat), m ≤ L + G + 1 → L + G + 1 < m + f →
    RM M (fX11_extreme_25 k16 f M (nI b) kind (nI x) (nI t) en (exS (exV σ b kind x L ns t n en way) way s0 m).1 way (nI m)) (stB σ (exS (exV σ b kind x L ns t n en way) way s0 m)) Q
  | 0, m, h1, h2 => by omega
  | f + 1, m, h1, h2 => by
    generalize hS : exS (exV σ b kind x L ns t n en way) way s0 m = s
    have E := stB_EQ σ s
    show RM M (bX11_extreme_25 k16 (fX11_extreme_25 k16 f) M (nI b) kind (nI x) (nI t) en s.1 way (nI m)) (stB σ s) Q
    unfold bX11_extreme_25
    refine rm_gA ?_
    refine rm_ldI b rfl (by show _ < 6; omega) ?_
    rw [show (stB σ s).a 1 b = nI L from hL]
    refine rm_ro (ro_vc (allGapsM_r ht hn (show (stB σ s).a 13 t = nI n from ha))) ?_
    rw [agM_c t E, hG, nI_add]
    by_cases hm : L + G < m
    · have e : m = L + G + 1 := by omega
      subst e
      rw [if_pos (nI_lt hm (by omega))]
      rw [hS] at hk
      exact hk
    · rw [if_neg (nI_nlt (by omega) (by omega))]
      refine rm_ro (ro_vc (effectAt_r (ns := ns) (n := n) hb (show (stB σ s).a 1 b = nI L from hL) hL6 hns (show (stB σ s).a 2 b = nI ns from hs) hx hx5 ht hn (show (stB σ s).a 13 t = nI n from ha))) ?_
      rw [effM_c b kind x L ns t way n (nI m) E]
      have ih := extreme_in (M := M) hb hL hL6 hns hs hx hx5 ht hn ha hG hG3 hk f (m + 1) (by omega) (by omega)
      rw [exS, hS] at ih
      have key : RM M (bX11_extreme_72 k16 (fX11_extreme_25 k16 f) M (nI b) kind (nI x) (nI t) en s.1 way (nI m) (exV σ b kind x L ns t n en way m)) (stB σ s) Q := by
        unfold bX11_extreme_72
        generalize exV σ b kind x L ns t n en way m = v at ih ⊢
        rw [nI_1]
        by_cases hv : v < 0
        · rw [if_pos hv]
          rw [exU, if_pos hv] at ih
          exact ih
        · rw [if_neg hv]
          refine rm_gI ?_
          rw [exU, if_neg hv] at ih
          have new : RM M (bX11_extreme_96 k16 (fX11_extreme_25 k16 f) M (nI b) kind (nI x) (nI t) en way (nI m) v) (stB σ s) Q → True := fun _ => trivial
          by_cases hw : s.2.1 < 0
          · rw [if_pos (show (stB σ s).i 21 < 0 from hw)]
            rw [if_pos hw] at ih
            unfold bX11_extreme_96
            refine rm_pI ?_
            refine rm_pI ?_
            rw [stB_st σ s v, nI_1]
            exact ih
          · rw [if_neg (show ¬ (stB σ s).i 21 < 0 from hw)]
            rw [if_neg hw] at ih
            by_cases hl : v ≤ s.1
            · rw [if_pos hl]
              rw [if_pos hl] at ih
              exact ih
            · rw [if_neg hl]
              rw [if_neg hl] at ih
              unfold bX11_extreme_96
              refine rm_pI ?_
              refine rm_pI ?_
              rw [stB_st σ s v, nI_1]
              exact ih
      by_cases he : en = 0
      · rw [if_pos he]
        rw [exV, if_pos he] at key
        exact key
      · rw [if_neg he]
        rw [exV, if_neg he] at key
        exact key
theorem extreme_m {M : Nat} {σ : MS} {b x L ns t n G : Nat} {kind en : Int32} {Q : Int64 → MS → Prop} (hb : b < 6) (hL : σ.a 1 b = nI L) (hL6 : L ≤ 60) (hns : ns ≤ 5) (hs : σ.a 2 b = nI ns) (hx : x ≤ 60) (hx5 : kind = 0 → x < 5) (ht : t < 8) (hn : n ≤ 8) (ha : σ.a 13 t = nI n) (hG : agM σ t n = nI G) (hG3 : G ≤ 1000)
    (q : Q (exA en (exM σ b kind x L ns t n en (L + G))) (stB σ (exM σ b kind x L ns t n en (L + G)))) : RM M (pX11_extreme M (nI b) kind (nI x) (nI t) en) σ Q := by
  unfold pX11_extreme
  refine rm_pI ?_
  refine rm_pI ?_
  have e0 : (σ.si 21 (-1)).si 22 (-1) = stB σ (0, -1, -1) := rfl
  rw [e0]
  -- the second way, then the end
  have h2 : ∀ (f : Nat), 0 < f → RM M (fX11_extreme_16 f M (nI b) kind (nI x) (nI t) en (exM σ b kind x L ns t n en (L + G)).1 (1 + 1)) (stB σ (exM σ b kind x L ns t n en (L + G))) Q := by
    intro f hf
    obtain ⟨f, rfl⟩ : ∃ g, f = g + 1 := ⟨f - 1, by omega⟩
    show RM M (bX11_extreme_16 (fX11_extreme_16 f) M (nI b) kind (nI x) (nI t) en (exM σ b kind x L ns t n en (L + G)).1 (1 + 1)) _ Q
    unfold bX11_extreme_16
    rw [if_pos (by decide)]
    by_cases he : en = 0
    · rw [if_pos he]
      rw [exA, if_pos he] at q
      exact rm_rn q
    · rw [if_neg he]
      rw [exA, if_neg he] at q
      exact rm_rn q
  have h1 : ∀ (f : Nat), 1 < f → RM M (fX11_extreme_16 f M (nI b) kind (nI x) (nI t) en (exS (exV σ b kind x L ns t n en 0) 0 (0, -1, -1) (L + G + 1)).1 (0 + 1)) (stB σ (exS (exV σ b kind x L ns t n en 0) 0 (0, -1, -1) (L + G + 1))) Q := by
    intro f hf
    obtain ⟨f, rfl⟩ : ∃ g, f = g + 1 := ⟨f - 1, by omega⟩
    show RM M (bX11_extreme_16 (fX11_extreme_16 f) M (nI b) kind (nI x) (nI t) en _ (0 + 1)) _ Q
    unfold bX11_extreme_16
    rw [if_neg (by decide)]
    exact extreme_in (way := 0 + 1) hb hL hL6 hns hs hx hx5 ht hn ha hG hG3 (h2 f (by omega)) FU 0 (by omega) (by unfold FU; omega)
  obtain ⟨f, hf⟩ : ∃ f, FU = f + 1 := ⟨999999999, rfl⟩
  rw [hf]
  show RM M (bX11_extreme_16 (fX11_extreme_16 f) M (nI b) kind (nI x) (nI t) en 0 0) _ Q
  unfold bX11_extreme_16
  rw [if_neg (by decide)]
  exact extreme_in (way := 0) (s0 := (0, -1, -1)) hb hL hL6 hns hs hx hx5 ht hn ha hG hG3 (h1 f (by unfold FU at hf; omega)) FU 0 (by omega) (by unfold FU; omega)
