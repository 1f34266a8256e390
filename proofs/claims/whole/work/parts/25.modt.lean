/-! Totals and checks, in the reference. -/
def Ld (σ : MS) (b : Nat) : Nat := (σ.a 1 b).toNatClampNeg
def nsd (σ : MS) (b : Nat) : Nat := (σ.a 2 b).toNatClampNeg
def nad (σ : MS) (t : Nat) : Nat := (σ.a 13 t).toNatClampNeg
def agd (σ : MS) (t : Nat) : Nat := (agM σ t (nad σ t)).toNatClampNeg
def ncd (σ : MS) (b : Nat) : Nat := (σ.a 23 b).toNatClampNeg
def WB (σ : MS) (b : Nat) : Prop := b < 6 ∧ σ.a 1 b = nI (Ld σ b) ∧ Ld σ b ≤ 60 ∧ σ.a 2 b = nI (nsd σ b) ∧ nsd σ b ≤ 5
def WT (σ : MS) (t : Nat) : Prop := t < 8 ∧ σ.a 13 t = nI (nad σ t) ∧ nad σ t ≤ 8 ∧ agM σ t (nad σ t) = nI (agd σ t) ∧ agd σ t ≤ 1000
def WU (σ : MS) : Prop := ¬ σ.i 17 < 0 → σ.i 17 = nI (σ.i 17).toNatClampNeg ∧ WT (σ.si 20 (-1)) (σ.i 17).toNatClampNeg
def WK (σ : MS) (b c : Nat) : Prop := σ.a 25 (5 * b + c) = nI (σ.a 25 (5 * b + c)).toNatClampNeg ∧ (σ.a 25 (5 * b + c)).toNatClampNeg ≤ 60 ∧ (σ.a 24 (5 * b + c) = 0 → (σ.a 25 (5 * b + c)).toNatClampNeg < 5)
def WCs (σ : MS) (b : Nat) : Prop := σ.a 23 b = nI (ncd σ b) ∧ ncd σ b ≤ 5 ∧ ∀ c, c < ncd σ b → WK σ b c
theorem WT_c {σ τ : MS} {t : Nat} (e : EQr σ τ) (h : WT σ t) : WT τ t := by
  have e7 : τ.a 13 t = σ.a 13 t := e.2.2.2.2.2.2.1 t
  have n1 : nad τ t = nad σ t := by rw [nad, nad, e7]
  have g1 : agd τ t = agd σ t := by rw [agd, agd, n1, agM_c t e]
  unfold WT
  rw [n1, g1, e7, agM_c t e]
  exact h
/-- the greatest (least) of train t for a response, with its way and time -/
def GRx (σ : MS) (b : Nat) (kind : Int32) (x t : Nat) (en : Int32) : Bs := exM σ b kind x (Ld σ b) (nsd σ b) t (nad σ t) en (Ld σ b + agd σ t)
theorem exS_c {V V' : Nat → Int64} (way : Int32) (s : Bs) (h : ∀ m, V m = V' m) : ∀ m, exS V way s m = exS V' way s m
  | 0 => rfl
  | m + 1 => by rw [exS, exS, exS_c way s h m, h m]
theorem exM_c {σ τ : MS} (b : Nat) (kind : Int32) (x L ns t n : Nat) (en : Int32) (T : Nat) (e : EQr σ τ) : exM τ b kind x L ns t n en T = exM σ b kind x L ns t n en T := by
  have h : ∀ way m, exV τ b kind x L ns t n en way m = exV σ b kind x L ns t n en way m := fun way m => by rw [exV, exV, effM_c b kind x L ns t way n (nI m) e]
  rw [exM, exM, exS_c 1 _ (h 1), exS_c 0 _ (h 0)]
theorem GRx_c {σ τ : MS} (b : Nat) (kind : Int32) (x t : Nat) (en : Int32) (e : EQr σ τ) : GRx τ b kind x t en = GRx σ b kind x t en := by
  have e7 : τ.a 13 t = σ.a 13 t := e.2.2.2.2.2.2.1 t
  have n1 : nad τ t = nad σ t := by rw [nad, nad, e7]
  have g1 : agd τ t = agd σ t := by rw [agd, agd, n1, agM_c t e]
  have l1 : Ld τ b = Ld σ b := by rw [Ld, Ld, e.2.2.2.1 b]
  have s1 : nsd τ b = nsd σ b := by rw [nsd, nsd, e.2.2.2.2.1 b]
  rw [GRx, GRx, exM_c b kind x _ _ t _ en _ e, n1, g1, l1, s1]
theorem extreme_w {M : Nat} {σ : MS} {b x t : Nat} {kind en : Int32} {Q : Int64 → MS → Prop} (hB : WB σ b) (hT : WT σ t) (hx : x ≤ 60) (hx5 : kind = 0 → x < 5) (q : Q (exA en (GRx σ b kind x t en)) (stB σ (GRx σ b kind x t en))) : RM M (pX11_extreme M (nI b) kind (nI x) (nI t) en) σ Q :=
  extreme_m hB.1 hB.2.1 hB.2.2.1 hB.2.2.2.2 hB.2.2.2.1 hx hx5 hT.1 hT.2.2.1 hT.2.1 hT.2.2.2.1 hT.2.2.2.2 q
def kdC (σ : MS) (b c : Nat) : Int32 := σ.a 24 (5 * b + c)
def atC (σ : MS) (b c : Nat) : Nat := (σ.a 25 (5 * b + c)).toNatClampNeg
def othM (σ : MS) (b c : Nat) (mode en : Int32) : Int64 := if mode = 0 ∧ ¬ σ.i 17 < 0 ∧ ¬ σ.a 6 b ≤ 1 then (σ.a 6 b - 1).toInt64 * (σ.a 7 b).toInt64 * exA en (GRx (σ.si 20 (-1)) b (kdC σ b c) (atC σ b c) (σ.i 17).toNatClampNeg en) else 0
def shkM (σ : MS) (b : Nat) (mode : Int32) : Int64 := if mode = 2 then (100 : Int32).toInt64 else ((100 : Int32) + σ.a 5 b).toInt64
def totM (σ : MS) (b c t : Nat) (mode en : Int32) : Int64 := (100 * exA en (GRx σ b (kdC σ b c) (atC σ b c) t en) + othM σ b c mode en) * shkM σ b mode
theorem stB_20 (σ : MS) (s s2 : Bs) : (stB ((stB σ s).si 20 (-1)) s2).si 20 (σ.i 20) = stB σ s2 := by
  refine Prod.ext (funext fun k => ?_) rfl
  simp only [stB, MS.si, MS.i]
  by_cases h : k = 20
  · subst h; rfl
  · by_cases h1 : k = 21
    · subst h1; rfl
    · by_cases h2 : k = 22
      · subst h2; rfl
      · simp [h, h1, h2]
theorem stB_20E (σ : MS) (s : Bs) : EQr (σ.si 20 (-1)) ((stB σ s).si 20 (-1)) := ⟨rfl, rfl, rfl, fun _ => rfl, fun _ => rfl, fun _ => rfl, fun _ => rfl, fun _ => rfl, fun _ => rfl, fun _ => rfl, fun _ => rfl⟩
theorem totM_c (σ : MS) (s : Bs) (b c t : Nat) (mode en : Int32) : totM (stB σ s) b c t mode en = totM σ b c t mode en := by
  have h1 := GRx_c b (kdC σ b c) (atC σ b c) t en (stB_EQ σ s)
  have h2 := GRx_c b (kdC σ b c) (atC σ b c) (σ.i 17).toNatClampNeg en (stB_20E σ s)
  show (100 * exA en (GRx (stB σ s) b (kdC σ b c) (atC σ b c) t en) + othM (stB σ s) b c mode en) * shkM σ b mode = _
  have h3 : othM (stB σ s) b c mode en = othM σ b c mode en := by
    show (if mode = 0 ∧ ¬ σ.i 17 < 0 ∧ ¬ σ.a 6 b ≤ 1 then (σ.a 6 b - 1).toInt64 * (σ.a 7 b).toInt64 * exA en (GRx ((stB σ s).si 20 (-1)) b (kdC σ b c) (atC σ b c) (σ.i 17).toNatClampNeg en) else 0) = _
    rw [h2]
    rfl
  rw [h1, h3]
  rfl
theorem totalOf_end {M : Nat} {σ τ : MS} {b : Nat} {mode : Int32} {v : Int64} {Q : Int64 → MS → Prop} (hb : b < 6) (h5 : τ.a 5 b = σ.a 5 b) (q : Q (v * shkM σ b mode) τ) : RM M (bX11_totalOf_122 M (nI b) mode v) τ Q := by
  unfold bX11_totalOf_122
  unfold shkM at q
  by_cases h : mode = 2
  · rw [if_pos h]
    rw [if_pos h] at q
    exact rm_rn q
  · rw [if_neg h]
    rw [if_neg h] at q
    refine rm_gA ?_
    refine rm_ldI b rfl (by show _ < 6; omega) ?_
    rw [h5]
    exact rm_rn q
theorem totalOf_m {M : Nat} {σ : MS} {b c t : Nat} {mode en : Int32} {Q : Int64 → MS → Prop} (hB : WB σ b) (hT : WT σ t) (hU : WU σ) (hc : c < 5) (hC : WK σ b c) (q : ∀ s : Bs, Q (totM σ b c t mode en) (stB σ s)) : RM M (pX11_totalOf M (nI b) (nI c) (nI t) mode en) σ Q := by
  have hb := hB.1
  obtain ⟨c1, c2, c3⟩ := hC
  unfold pX11_totalOf
  refine rm_gA ?_
  refine rm_ldI (5 * b + c) (ix5 b c) (by show _ < 30; omega) ?_
  refine rm_gA ?_
  refine rm_ldI (5 * b + c) (ix5 b c) (by show _ < 30; omega) ?_
  rw [c1]
  refine rm_bd (rm_vc (extreme_w hB hT c2 c3 ?_))
  generalize hs : GRx σ b (σ.a 24 (5 * b + c)) (σ.a 25 (5 * b + c)).toNatClampNeg t en = s
  have q0 : ∀ z, Q ((100 * exA en s + othM σ b c mode en) * shkM σ b mode) (stB σ z) := fun z => by
    have := q z
    rw [totM, show GRx σ b (kdC σ b c) (atC σ b c) t en = s from hs] at this
    exact this
  by_cases hm : mode = 0
  · rw [if_pos hm]
    refine rm_gI ?_
    by_cases hu : σ.i 17 < 0
    · rw [if_pos (show (stB σ s).i 17 < 0 from hu)]
      refine totalOf_end (σ := σ) hb rfl ?_
      have := q0 s
      rw [othM, if_neg (fun h => h.2.1 hu), Int64.add_zero] at this
      exact this
    · rw [if_neg (show ¬ (stB σ s).i 17 < 0 from hu)]
      refine rm_gA ?_
      refine rm_ldI b rfl (by show _ < 6; omega) ?_
      by_cases hl : σ.a 6 b ≤ 1
      · rw [if_pos (show (stB σ s).a 6 b ≤ 1 from hl)]
        refine totalOf_end (σ := σ) hb rfl ?_
        have := q0 s
        rw [othM, if_neg (fun h => h.2.2 hl), Int64.add_zero] at this
        exact this
      · rw [if_neg (show ¬ (stB σ s).a 6 b ≤ 1 from hl)]
        refine rm_gI ?_
        refine rm_pI ?_
        refine rm_gA ?_
        refine rm_ldI b rfl (by show _ < 6; omega) ?_
        refine rm_gA ?_
        refine rm_ldI b rfl (by show _ < 6; omega) ?_
        refine rm_gA ?_
        refine rm_ldI (5 * b + c) (ix5 b c) (by show _ < 30; omega) ?_
        refine rm_gA ?_
        refine rm_ldI (5 * b + c) (ix5 b c) (by show _ < 30; omega) ?_
        refine rm_gI ?_
        obtain ⟨u1, u2⟩ := hU hu
        have E := stB_20E σ s
        rw [show ((stB σ s).si 20 (-1)).a 25 (5 * b + c) = nI (σ.a 25 (5 * b + c)).toNatClampNeg from c1, show ((stB σ s).si 20 (-1)).i 17 = nI (σ.i 17).toNatClampNeg from u1]
        refine rm_bd (rm_vc (extreme_w (show WB ((stB σ s).si 20 (-1)) b from hB) (WT_c E u2) c2 c3 ?_))
        refine rm_pI ?_
        rw [show (stB ((stB σ s).si 20 (-1)) (GRx ((stB σ s).si 20 (-1)) b (((stB σ s).si 20 (-1)).a 24 (5 * b + c)) (σ.a 25 (5 * b + c)).toNatClampNeg (σ.i 17).toNatClampNeg en)).si 20 ((stB σ s).i 20) = stB σ (GRx ((stB σ s).si 20 (-1)) b (((stB σ s).si 20 (-1)).a 24 (5 * b + c)) (σ.a 25 (5 * b + c)).toNatClampNeg (σ.i 17).toNatClampNeg en) from stB_20 σ s _]
        refine totalOf_end (σ := σ) hb rfl ?_
        have := q0 (GRx ((stB σ s).si 20 (-1)) b (((stB σ s).si 20 (-1)).a 24 (5 * b + c)) (σ.a 25 (5 * b + c)).toNatClampNeg (σ.i 17).toNatClampNeg en)
        rw [othM, if_pos ⟨hm, hu, hl⟩] at this
        rw [GRx_c b _ _ _ en E]
        rw [GRx_c b _ _ _ en E] at this
        exact this
  · rw [if_neg hm]
    refine totalOf_end (σ := σ) hb rfl ?_
    have := q0 s
    rw [othM, if_neg (fun h => hm h.1), Int64.add_zero] at this
    exact this
def oneM (σ : MS) (b : Nat) : Int64 := 10000 * σ.l 9 b
def metM (σ : MS) (b c t : Nat) (mode : Int32) : Bool := !decide ((σ.a 26 (5 * b + c)).toInt64 * oneM σ b < totM σ b c t mode 0) && !decide (totM σ b c t mode 1 < (σ.a 27 (5 * b + c)).toInt64 * oneM σ b)
theorem stB_stB (σ : MS) (s s2 : Bs) : stB (stB σ s) s2 = stB σ s2 := stB_st σ s s2.1 s2.2.1 s2.2.2
theorem isMet_m {M : Nat} {σ : MS} {b c t : Nat} {mode : Int32} {Q : Int32 → MS → Prop} (hB : WB σ b) (hT : WT σ t) (hU : WU σ) (hc : c < 5) (hC : WK σ b c) (q : ∀ s : Bs, Q (bI (metM σ b c t mode)) (stB σ s)) : RM M (pX11_isMet M (nI b) (nI c) (nI t) mode) σ Q := by
  have hb := hB.1
  unfold pX11_isMet
  refine rm_gA ?_
  refine rm_ldL b rfl (by show _ < 6; omega) ?_
  refine rm_bd (rm_vc (totalOf_m hB hT hU hc hC (fun s => ?_)))
  refine rm_gA ?_
  refine rm_ldI (5 * b + c) (ix5 b c) (by show _ < 30; omega) ?_
  by_cases h1 : (σ.a 26 (5 * b + c)).toInt64 * (10000 * σ.l 9 b) < totM σ b c t mode 0
  · rw [if_pos (show ((stB σ s).a 26 (5 * b + c)).toInt64 * (10000 * σ.l 9 b) < totM σ b c t mode 0 from h1)]
    have := q s
    rw [metM, oneM, decide_eq_true h1] at this
    exact rm_rnZ (Or.inl rfl) this
  · rw [if_neg (show ¬ ((stB σ s).a 26 (5 * b + c)).toInt64 * (10000 * σ.l 9 b) < totM σ b c t mode 0 from h1)]
    have hU2 : WU (stB σ s) := fun h => ⟨(hU h).1, WT_c (stB_20E σ s) (hU h).2⟩
    refine rm_bd (rm_vc (totalOf_m (show WB (stB σ s) b from hB) (WT_c (stB_EQ σ s) hT) hU2 hc (show WK (stB σ s) b c from hC) (fun s2 => ?_)))
    rw [totM_c, stB_stB]
    refine rm_gA ?_
    refine rm_ldI (5 * b + c) (ix5 b c) (by show _ < 30; omega) ?_
    by_cases h2 : totM σ b c t mode 1 < (σ.a 27 (5 * b + c)).toInt64 * (10000 * σ.l 9 b)
    · rw [if_pos (show totM σ b c t mode 1 < ((stB σ s2).a 27 (5 * b + c)).toInt64 * (10000 * σ.l 9 b) from h2)]
      have := q s2
      rw [metM, oneM, decide_eq_false h1, decide_eq_true h2] at this
      exact rm_rnZ (Or.inl rfl) this
    · rw [if_neg (show ¬ totM σ b c t mode 1 < ((stB σ s2).a 27 (5 * b + c)).toInt64 * (10000 * σ.l 9 b) from h2)]
      have := q s2
      rw [metM, oneM, decide_eq_false h1, decide_eq_false h2] at this
      exact rm_rnZ (Or.inr rfl) this
