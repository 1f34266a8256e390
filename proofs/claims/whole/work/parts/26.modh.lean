/-! The first check that is not met; postings and spreads, in the reference. -/
theorem metM_c (σ : MS) (s : Bs) (b c t : Nat) (mode : Int32) : metM (stB σ s) b c t mode = metM σ b c t mode := by
  show (!decide ((σ.a 26 (5 * b + c)).toInt64 * oneM σ b < totM (stB σ s) b c t mode 0) && !decide (totM (stB σ s) b c t mode 1 < (σ.a 27 (5 * b + c)).toInt64 * oneM σ b)) = _
  rw [totM_c, totM_c]
  rfl
/-- the first check from c on, of k, that is not met -/
def flM (σ : MS) (b t : Nat) (mode : Int32) : Nat → Nat → Int32
  | 0, _ => -1
  | k + 1, c => if metM σ b c t mode then flM σ b t mode k (c + 1) else nI c
def failM (σ : MS) (b t : Nat) (mode : Int32) : Int32 := flM σ b t mode (ncd σ b) 0
theorem WU_s {σ : MS} (s : Bs) (h : WU σ) : WU (stB σ s) := fun h9 => ⟨(h h9).1, WT_c (stB_20E σ s) (h h9).2⟩
theorem failing_l {M : Nat} {σ : MS} {b t : Nat} {mode : Int32} {Q : Int32 → MS → Prop} (hB : WB σ b) (hT : WT σ t) (hU : WU σ) (hC : WCs σ b) (q : ∀ s : Bs, Q (failM σ b t mode) (stB σ s)) : ∀ (f c : Nat) (s : Bs), c ≤ ncd σ b → ncd σ b < c + f → flM σ b t mode (ncd σ b - c) c = failM σ b t mode → RM M (fX11_failing_3 f M (nI b) (nI t) mode (nI c)) (stB σ s) Q
  | 0, c, s, h1, h2, h3 => by omega
  | f + 1, c, s, h1, h2, h3 => by
    have hb := hB.1
    show RM M (bX11_failing_3 (fX11_failing_3 f) M (nI b) (nI t) mode (nI c)) (stB σ s) Q
    unfold bX11_failing_3
    refine rm_gA ?_
    refine rm_ldI b rfl (by show _ < 6; omega) ?_
    rw [show (stB σ s).a 23 b = nI (ncd σ b) from hC.1]
    have h5 := hC.2.1
    by_cases hc : ncd σ b ≤ c
    · rw [if_pos (nI_le hc (by omega))]
      have e : ncd σ b - c = 0 := by omega
      rw [e, flM] at h3
      have := q s
      rw [← h3] at this
      exact rm_rn this
    · rw [if_neg (nI_ge (by omega) (by omega))]
      refine rm_bd (rm_vc (isMet_m (show WB (stB σ s) b from hB) (WT_c (stB_EQ σ s) hT) (WU_s s hU) (by omega) (show WK (stB σ s) b c from hC.2.2 c (by omega)) (fun s2 => ?_)))
      rw [metM_c, stB_stB]
      have e : ncd σ b - c = (ncd σ b - (c + 1)) + 1 := by omega
      rw [e, flM] at h3
      by_cases hm : metM σ b c t mode = true
      · rw [hm, if_neg (by decide), nI_1]
        rw [if_pos hm] at h3
        exact failing_l hB hT hU hC q f (c + 1) s2 (by omega) (by omega) h3
      · rw [Bool.eq_false_iff.mpr hm, if_pos (by rfl)]
        rw [if_neg hm] at h3
        have := q s2
        rw [← h3] at this
        exact rm_rn this
theorem stB_self (σ : MS) : σ = stB σ (0, σ.i 21, σ.i 22) := by
  refine Prod.ext (funext fun k => ?_) rfl
  simp only [stB, MS.si, MS.i]
  by_cases h : k = 22
  · simp [h]
  · by_cases h2 : k = 21 <;> simp [h, h2]
theorem failing_m {M : Nat} {σ : MS} {b t : Nat} {mode : Int32} {Q : Int32 → MS → Prop} (hB : WB σ b) (hT : WT σ t) (hU : WU σ) (hC : WCs σ b) (q : ∀ s : Bs, Q (failM σ b t mode) (stB σ s)) : RM M (pX11_failing M (nI b) (nI t) mode) σ Q := by
  have h := failing_l (M := M) hB hT hU hC q FU 0 (0, σ.i 21, σ.i 22) (by omega) (by have := hC.2.1; unfold FU; omega) rfl
  rw [← stB_self] at h
  exact h
/-- train t with its weights in hundredths p, its gaps wider by k -/
def scl (σ : MS) (t p k : Int32) : MS := ((σ.si 20 t).si 18 p).si 19 k
def holdM (σ : MS) (b t : Nat) (mode p k : Int32) : Bool := !decide (0 ≤ failM (scl σ (nI t) p k) b t mode)
/-- no train is scaled -/
def unS (σ : MS) : Prop := σ.i 20 = -1 ∧ σ.i 18 = 100 ∧ σ.i 19 = 0
theorem scl_back {σ : MS} (h : unS σ) (s : Bs) (t p k : Int32) : (((stB (scl σ t p k) s).si 20 (-1)).si 18 100).si 19 0 = stB σ s := by
  obtain ⟨h1, h2, h3⟩ := h
  simp only [MS.i] at h1 h2 h3
  refine Prod.ext (funext fun x => ?_) rfl
  simp only [stB, scl, MS.si]
  by_cases a1 : x = 19
  · subst a1; simp [h3]
  · by_cases a2 : x = 18
    · subst a2; simp [h2]
    · by_cases a3 : x = 20
      · subst a3; simp [h1]
      · simp [a1, a2, a3]
theorem holds_m {M : Nat} {σ : MS} {b t : Nat} {mode p k : Int32} {Q : Int32 → MS → Prop} (hn : unS σ) (hB : WB σ b) (hT : WT (scl σ (nI t) p k) t) (hU : WU (scl σ (nI t) p k)) (hC : WCs σ b) (q : ∀ s : Bs, Q (bI (holdM σ b t mode p k)) (stB σ s)) : RM M (pX11_holds M (nI b) (nI t) mode p k) σ Q := by
  unfold pX11_holds
  refine rm_pI ?_
  refine rm_pI ?_
  refine rm_pI ?_
  refine rm_bd (rm_vc (failing_m (σ := scl σ (nI t) p k) (show WB (scl σ (nI t) p k) b from hB) hT hU (show WCs (scl σ (nI t) p k) b from hC) (fun s => ?_)))
  by_cases h : 0 ≤ failM (scl σ (nI t) p k) b t mode
  · rw [if_pos h]
    unfold bX11_holds_32
    refine rm_pI ?_
    refine rm_pI ?_
    refine rm_pI ?_
    rw [scl_back hn]
    have := q s
    rw [holdM, decide_eq_true h] at this
    exact rm_rnZ (Or.inl rfl) this
  · rw [if_neg h]
    unfold bX11_holds_32
    refine rm_pI ?_
    refine rm_pI ?_
    refine rm_pI ?_
    rw [scl_back hn]
    have := q s
    rw [holdM, decide_eq_false h] at this
    exact rm_rnZ (Or.inr rfl) this
/-- a scaled state behind another's greatest -/
theorem scl_EQ (σ : MS) (s : Bs) (t p k : Int32) : EQr (scl σ t p k) (scl (stB σ s) t p k) := ⟨rfl, rfl, rfl, fun _ => rfl, fun _ => rfl, fun _ => rfl, fun _ => rfl, fun _ => rfl, fun _ => rfl, fun _ => rfl, fun _ => rfl⟩
theorem scl_st (σ : MS) (s : Bs) (t p k : Int32) : scl (stB σ s) t p k = stB (scl σ t p k) s := by
  refine Prod.ext (funext fun x => ?_) rfl
  simp only [stB, scl, MS.si]
  by_cases a1 : x = 19
  · subst a1; rfl
  · by_cases a2 : x = 18
    · subst a2; rfl
    · by_cases a3 : x = 20
      · subst a3; rfl
      · simp [a1, a2, a3]
theorem flM_c (σ : MS) (s : Bs) (b t : Nat) (mode : Int32) : ∀ k c, flM (stB σ s) b t mode k c = flM σ b t mode k c
  | 0, _ => rfl
  | k + 1, c => by rw [flM, flM, flM_c σ s b t mode k (c + 1), metM_c]
theorem failM_c (σ : MS) (s : Bs) (b t : Nat) (mode : Int32) : failM (stB σ s) b t mode = failM σ b t mode := flM_c σ s b t mode _ 0
theorem holdM_c (σ : MS) (s : Bs) (b t : Nat) (mode p k : Int32) : holdM (stB σ s) b t mode p k = holdM σ b t mode p k := by rw [holdM, holdM, scl_st, failM_c]
/-- the greatest p up to n that holds; -1: none -/
def pstM (σ : MS) (b t : Nat) : Nat → Int32
  | 0 => if holdM σ b t 0 (nI 0) 0 then nI 0 else -1
  | p + 1 => if holdM σ b t 0 (nI (p + 1)) 0 then nI (p + 1) else pstM σ b t p
theorem posted_l {M : Nat} {σ : MS} {b t : Nat} {Q : Int32 → MS → Prop} (hn : unS σ) (hB : WB σ b) (hT : ∀ p, p ≤ 300 → WT (scl σ (nI t) (nI p) 0) t) (hU : ∀ p, p ≤ 300 → WU (scl σ (nI t) (nI p) 0)) (hC : WCs σ b) : ∀ (p f : Nat) (s : Bs), p ≤ 300 → p + 1 < f → (∀ s : Bs, Q (pstM σ b t p) (stB σ s)) → RM M (fX11_posted_24 f M (nI b) (nI t) (nI p)) (stB σ s) Q
  | p, 0, s, h1, h2, q => by omega
  | 0, f + 1, s, h1, h2, q => by
    show RM M (bX11_posted_24 (fX11_posted_24 f) M (nI b) (nI t) (nI 0)) (stB σ s) Q
    unfold bX11_posted_24
    rw [if_neg (by decide)]
    refine rm_bd (rm_vc (holds_m (show unS (stB σ s) from hn) (show WB (stB σ s) b from hB) (WT_c (scl_EQ σ s _ _ _) (hT 0 (by omega))) (by rw [scl_st]; exact WU_s s (hU 0 (by omega))) (show WCs (stB σ s) b from hC) (fun s2 => ?_)))
    rw [holdM_c, stB_stB]
    by_cases h : holdM σ b t 0 (nI 0) 0 = true
    · rw [h, if_neg (by decide)]
      have := q s2
      rw [pstM, if_pos h] at this
      exact rm_rn this
    · rw [Bool.eq_false_iff.mpr h, if_pos (by rfl)]
      obtain ⟨f, rfl⟩ : ∃ g, f = g + 1 := ⟨f - 1, by omega⟩
      show RM M (bX11_posted_24 (fX11_posted_24 f) M (nI b) (nI t) (-1)) (stB σ s2) Q
      unfold bX11_posted_24
      rw [if_pos (by decide)]
      have := q s2
      rw [pstM, if_neg h] at this
      exact rm_rn this
  | p + 1, f + 1, s, h1, h2, q => by
    show RM M (bX11_posted_24 (fX11_posted_24 f) M (nI b) (nI t) (nI (p + 1))) (stB σ s) Q
    unfold bX11_posted_24
    rw [if_neg (nI_pos (by omega))]
    refine rm_bd (rm_vc (holds_m (show unS (stB σ s) from hn) (show WB (stB σ s) b from hB) (WT_c (scl_EQ σ s _ _ _) (hT (p + 1) (by omega))) (by rw [scl_st]; exact WU_s s (hU (p + 1) (by omega))) (show WCs (stB σ s) b from hC) (fun s2 => ?_)))
    rw [holdM_c, stB_stB]
    by_cases h : holdM σ b t 0 (nI (p + 1)) 0 = true
    · rw [h, if_neg (by decide)]
      have := q s2
      rw [pstM, if_pos h] at this
      exact rm_rn this
    · rw [Bool.eq_false_iff.mpr h, if_pos (by rfl), pk_m1]
      exact posted_l hn hB hT hU hC p f s2 (by omega) (by omega) (fun s3 => by have := q s3; rw [pstM, if_neg h] at this; exact this)
/-- the least k from n on, up to 20, that holds -/
def sprM (σ : MS) (b t : Nat) (mode : Int32) : Nat → Nat → Int32
  | 0, _ => -1
  | m + 1, k => if holdM σ b t mode 100 (nI k) then nI k else sprM σ b t mode m (k + 1)
theorem spread_l {M : Nat} {σ : MS} {b t : Nat} {mode : Int32} {Q : Int32 → MS → Prop} (hn : unS σ) (hB : WB σ b) (hT : ∀ k, k ≤ 20 → WT (scl σ (nI t) 100 (nI k)) t) (hU : ∀ k, k ≤ 20 → WU (scl σ (nI t) 100 (nI k))) (hC : WCs σ b) : ∀ (f k : Nat) (s : Bs), k ≤ 21 → 21 < k + f → (∀ s : Bs, Q (sprM σ b t mode (21 - k) k) (stB σ s)) → RM M (fX11_spread_34 f M (nI b) (nI t) mode (nI k)) (stB σ s) Q
  | 0, k, s, h1, h2, q => by omega
  | f + 1, k, s, h1, h2, q => by
    show RM M (bX11_spread_34 (fX11_spread_34 f) M (nI b) (nI t) mode (nI k)) (stB σ s) Q
    unfold bX11_spread_34
    by_cases hk : 20 < k
    · have e : k = 21 := by omega
      subst e
      rw [if_pos (by decide)]
      unfold bX11_spread_61
      rw [if_neg (by decide)]
      exact rm_rn (q s)
    · rw [if_neg (show ¬ (20 : Int32) < nI k from nI_nlt (a := 20) (by omega) (by omega))]
      refine rm_bd (rm_vc (holds_m (show unS (stB σ s) from hn) (show WB (stB σ s) b from hB) (WT_c (scl_EQ σ s _ _ _) (hT k (by omega))) (by rw [scl_st]; exact WU_s s (hU k (by omega))) (show WCs (stB σ s) b from hC) (fun s2 => ?_)))
      rw [holdM_c, stB_stB]
      have e : 21 - k = (21 - (k + 1)) + 1 := by omega
      rw [e] at q
      by_cases h : holdM σ b t mode 100 (nI k) = true
      · rw [h, if_neg (by decide)]
        unfold bX11_spread_61
        rw [if_pos (show nI k ≤ (20 : Int32) from nI_le (b := 20) (by omega) (by omega))]
        have := q s2
        rw [sprM, if_pos h] at this
        exact rm_rn this
      · rw [Bool.eq_false_iff.mpr h, if_pos (by rfl), nI_1]
        exact spread_l hn hB hT hU hC f (k + 1) s2 (by omega) (by omega) (fun s3 => by have := q s3; rw [sprM, if_neg h] at this; exact this)
