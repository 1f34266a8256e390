/-! Solver.writeCondition, Solver.solve, lower, upper. -/
theorem nI_subI {a b : Nat} (ha : a < 2 ^ 30) (hb : b < 2 ^ 30) : (nI a - nI b).toInt = (a : Int) - b := by
  rw [Int32.toInt_sub, nI_toInt (by omega), nI_toInt (by omega), Int.bmod_def]
  omega
theorem mx_o {a b : Nat} (ha : a < 2 ^ 30) (hb : b < 2 ^ 30) : (mxI 0 (nI a - nI b)).toInt64 = oL (max 0 ((a : Int) - b)) := by
  rw [← Int64.toInt_inj, oL_toInt (by omega), Int32.toInt_toInt64]
  unfold mxI
  by_cases h : (0 : Int32) < nI a - nI b
  · rw [if_pos h, nI_subI ha hb]
    rw [Int32.lt_iff_toInt_lt, nI_subI ha hb, Int32.toInt_zero] at h
    omega
  · rw [if_neg h, Int32.toInt_zero]
    rw [Int32.lt_iff_toInt_lt, nI_subI ha hb, Int32.toInt_zero] at h
    omega
/-- where a column's load is: the supports, then every place -/
def psn (sn : Nat → Nat) (n j : Nat) : Nat := if j < n then sn j else j - n
def posI (sn : Nat → Nat) (n j : Nat) : Int := (psn sn n j : Int)
/-- what a row's condition turns about, in the class -/
def hgC (L : Nat) (hn : Nat → Nat) (i : Nat) : Int := if i = 1 then (L : Int) else (hn (i - 2) : Int)
/-- the solver's cells -/
def sT (s y : Nat) : Prop := s ≤ y ∧ y < s + 7
theorem Slv.row {h h2 : Hp} {s n w i : Nat} {ρ : Nat → Nat} {F : Nat → Nat → Int64} {G : Nat → Int64} (H : Slv h s n w ρ F) (hi : i < 5) (f1 : Fr (fun y => y = ρ i) h h2) (e1 : h2.1 (ρ i) = some (al (arL 66 G))) : Slv h2 s n w ρ (fun r y => if r = i then G y else F r y) := by
  obtain ⟨H1, H2, H3, H4, H5⟩ := id H
  have r1 := H3 i hi
  refine ⟨f1.at H1 (show ¬ s = ρ i by omega), f1.at H2 (show ¬ s + 1 = ρ i by omega), H3, H4, fun r hr => ?_⟩
  by_cases e : r = i
  · subst e
    rw [e1]
    congr 2
    exact arL_c (fun y hy => by simp)
  · rw [f1.at (H5 r hr) (fun z => e (H4 r i hr hi z))]
    congr 2
    exact arL_c (fun y hy => by simp [e])
theorem write2_l {h : Hp} {s n w row hh : Nat} {ρ : Nat → Nat} {F : Nat → Nat → Int64} {sn : Nat → Nat} (H : Slv h s n w ρ F) (hn : n ≤ 5) (hw : w ≤ 66) (hr : row < 5) (hh6 : hh ≤ 60) {Q : Unit → Hp → Prop}
    (q : ∀ h2, Fr (fun y => y = ρ row) h h2 → h2.1 (ρ row) = some (al (arL 66 (fun y => if y < w then oL (max 0 ((hh : Int) - psn sn n y)) else F row y))) → Q () h2) : ∀ (f j : Nat) (h' : Hp), n ≤ j → j ≤ w → w < j + f → Fr (fun y => y = ρ row) h h' → h'.1 (ρ row) = some (al (arL 66 (fun y => if y < j then oL (max 0 ((hh : Int) - psn sn n y)) else F row y))) → WP (fX6_writeCondition_44 f s (nI row) (nI hh) (nI j)) h' Q
  | 0, j, h', h0, h1, h2, h3, h4 => by omega
  | f + 1, j, h', h0, h1, h2, h3, h4 => by
    obtain ⟨H1, H2, H3, H4, H5⟩ := id H
    have r1 := H3 row hr
    have s1 := h3.at H1 (show ¬ s = ρ row by omega)
    have s2 := h3.at H2 (show ¬ s + 1 = ρ row by omega)
    show WP (bX6_writeCondition_44 (fX6_writeCondition_44 f) s (nI row) (nI hh) (nI j)) h' Q
    unfold bX6_writeCondition_44
    refine wp_gI (k := 2) s1 rfl ?_
    by_cases hj : w ≤ j
    · have e : j = w := by omega
      subst e
      rw [if_pos (nI_le hj (by omega))]
      exact wp_rn (q h' h3 h4)
    · rw [if_neg (nI_ge (by omega) (by omega))]
      refine wp_gA (k := 0) s1 rfl ?_
      refine wp_ldQ s2 rfl (by omega) (by omega) ?_
      refine wp_gI (k := 1) s1 rfl ?_
      refine wp_stL h4 rfl (by omega) (by omega) ?_
      rw [nI_1, pk_sub h0, mx_o (by omega) (by omega)]
      refine write2_l H hn hw hr hh6 q f (j + 1) _ (by omega) (by omega) (by omega) (h3.put _ rfl) ?_
      rw [up_s]
      congr 2
      refine arL_c (fun y hy => ?_)
      by_cases e1 : y = j
      · subst e1
        simp [psn, show ¬ y < n by omega]
      · by_cases e2 : y < j
        · simp [e1, e2, show y < j + 1 by omega]
        · simp [e1, e2, show ¬ y < j + 1 by omega]
theorem write1_l {h : Hp} {s n w row hh β : Nat} {ρ : Nat → Nat} {F : Nat → Nat → Int64} {sn : Nat → Nat} (H : Slv h s n w ρ F) (hb : h.1 β = some (ai 0 (arI n (fun k => nI (sn k))))) (hs : ∀ k, k < n → sn k ≤ 60) (hn : n ≤ 5) (hnw : n ≤ w) (hw : w ≤ 66) (hr : row < 5) (hh6 : hh ≤ 60) (hβ : ¬ sT s β) {Q : Unit → Hp → Prop}
    (q : ∀ h2, Fr (fun y => y = ρ row) h h2 → h2.1 (ρ row) = some (al (arL 66 (fun y => if y < w then oL (max 0 ((hh : Int) - psn sn n y)) else F row y))) → Q () h2) : ∀ (f j : Nat) (h' : Hp), j ≤ n → n < j + f → Fr (fun y => y = ρ row) h h' → h'.1 (ρ row) = some (al (arL 66 (fun y => if y < j then oL (max 0 ((hh : Int) - psn sn n y)) else F row y))) → WP (fX6_writeCondition_3 f s (nI row) (nI hh) (some β) (nI j)) h' Q
  | 0, j, h', h1, h2, h3, h4 => by omega
  | f + 1, j, h', h1, h2, h3, h4 => by
    obtain ⟨H1, H2, H3, H4, H5⟩ := id H
    have r1 := H3 row hr
    have s1 := h3.at H1 (show ¬ s = ρ row by omega)
    have s2 := h3.at H2 (show ¬ s + 1 = ρ row by omega)
    have s3 := h3.at hb (show ¬ β = ρ row from fun e => hβ (by unfold sT; omega))
    show WP (bX6_writeCondition_3 (fX6_writeCondition_3 f) s (nI row) (nI hh) (some β) (nI j)) h' Q
    unfold bX6_writeCondition_3
    refine wp_gI (k := 1) s1 rfl ?_
    by_cases hj : n ≤ j
    · have e : j = n := by omega
      subst e
      rw [if_pos (nI_le hj (by omega))]
      refine wp_gI (k := 1) s1 rfl ?_
      exact write2_l H hn hw hr hh6 q FU j h' (by omega) (by omega) (by unfold FU; omega) h3 h4
    · rw [if_neg (nI_ge (by omega) (by omega))]
      refine wp_gA (k := 0) s1 rfl ?_
      refine wp_ldQ s2 rfl (by omega) (by omega) ?_
      refine wp_ldI s3 rfl (by omega) (by omega) ?_
      refine wp_stL h4 rfl (by omega) (by omega) ?_
      have := hs j (by omega)
      rw [nI_1, mx_o (by omega) (by omega)]
      refine write1_l H hb hs hn hnw hw hr hh6 hβ q f (j + 1) _ (by omega) (by omega) (h3.put _ rfl) ?_
      rw [up_s]
      congr 2
      refine arL_c (fun y hy => ?_)
      by_cases e1 : y = j
      · subst e1
        simp [psn, show y < n by omega]
      · by_cases e2 : y < j
        · simp [e1, e2, show y < j + 1 by omega]
        · simp [e1, e2, show ¬ y < j + 1 by omega]
theorem write_w {h : Hp} {s n w row hh β : Nat} {ρ : Nat → Nat} {F : Nat → Nat → Int64} {sn : Nat → Nat} (H : Slv h s n w ρ F) (hb : h.1 β = some (ai 0 (arI n (fun k => nI (sn k))))) (hs : ∀ k, k < n → sn k ≤ 60) (hn : n ≤ 5) (hnw : n ≤ w) (hw : w ≤ 66) (hr : row < 5) (hh6 : hh ≤ 60) (hβ : ¬ sT s β) {Q : Unit → Hp → Prop}
    (q : ∀ h2, Fr (sS s) h h2 → Slv h2 s n w ρ (fun r y => if r = row then (if y < w then oL (max 0 ((hh : Int) - psn sn n y)) else F row y) else F r y) → Q () h2) : WP (pX6_writeCondition s (nI row) (nI hh) (some β)) h Q := by
  have r1 := H.2.2.1 row hr
  refine write1_l H hb hs hn hnw hw hr hh6 hβ (fun h2 f2 e2 => ?_) FU 0 h (by omega) (by unfold FU; omega) (Fr.rf _ h) (by simpa using H.2.2.2.2 row hr)
  exact q h2 (f2.mono (fun y hy => by unfold sS; omega)) (H.row hr f2 e2)
theorem mnI_n {a b : Nat} (h : a ≤ b) (hb : b < 2 ^ 30) : mnI (nI a) (nI b) = nI a := by
  unfold mnI
  rw [if_neg (nI_nlt h (by omega))]
/-- the rows that are written: the first m -/
def rwW (L n w : Nat) (sn hn : Nat → Nat) (m : Nat) (F : Nat → Nat → Int64) (r y : Nat) : Int64 := if r < m ∧ y < w then oL (con (hgC L hn) (posI sn n) r y) else F r y
theorem solve_l {h : Hp} {s n w β η L : Nat} {ρ : Nat → Nat} {F : Nat → Nat → Int64} {sn hn : Nat → Nat} (hb : h.1 β = some (ai 0 (arI n (fun k => nI (sn k))))) (he : h.1 η = some (ai 0 (arI (n - 2) (fun k => nI (hn k))))) (hn2 : 2 ≤ n ∧ n ≤ 5) (hL : L ≤ 60) (hw : w = n + L + 1) (hs : ∀ k, k < n → sn k ≤ 60) (hh : ∀ k, k < n - 2 → hn k ≤ 60) (hβ : ¬ sT s β) (hη : ¬ sT s η) (hc : CoB n (hgC L hn) (posI sn n)) {Q : Int32 → Hp → Prop}
    (q0 : ∀ h2 ρ F, PRd n (dco (hgC L hn) (posI sn n)) = 0 → Fr (sS s) h h2 → Slv h2 s n w ρ F → Q 0 h2) (q1 : ∀ h2 ρ F pr A, FiB n (dco (hgC L hn) (posI sn n)) pr A → Fr (sS s) h h2 → Slv h2 s n w ρ F → (∀ i j, i < n → j < w → F i j = oL (A i j)) → Q 1 h2) : ∀ (f j : Nat) (h' : Hp), j ≤ n - 2 → n < j + f + 2 → Fr (sS s) h h' → Slv h' s n w ρ (rwW L n w sn hn (j + 2) F) → WP (fX6_solve_52 f s (some β) (some η) (nI j)) h' Q
  | 0, j, h', h1, h2, h3, h4 => by omega
  | f + 1, j, h', h1, h2, h3, h4 => by
    have s1 := h3.at hb (fun z => hβ (by unfold sS at z; unfold sT; omega))
    have s2 := h3.at he (fun z => hη (by unfold sS at z; unfold sT; omega))
    show WP (bX6_solve_52 (fX6_solve_52 f) s (some β) (some η) (nI j)) h' Q
    unfold bX6_solve_52
    refine wp_alnI s2 ?_
    by_cases hj : n - 2 ≤ j
    · have e : j = n - 2 := by omega
      rw [if_pos (nI_le hj (by omega))]
      unfold bX6_solve_89
      refine wp_bd (wp_vc h4.1 ?_)
      have e1 : (1 : Int64) = oL 1 := rfl
      show WP (fX6_eliminate_4 FU s (oL 1) (nI 0)) h' _
      refine elim_l hn2 (by omega) (by omega) hc (fun h9 ρ9 F9 p9 f9 s9 => wp_rnZ (Or.inl rfl) (q0 h9 ρ9 F9 p9 (h3.tr f9) s9)) (fun h9 ρ9 F9 pr A p9 f9 s9 g9 => wp_rnZ (Or.inr rfl) (q1 h9 ρ9 F9 pr A p9 (h3.tr f9) s9 g9)) FU 0 h' 1 (con (hgC L hn) (posI sn n)) _ _ (by omega) (by unfold FU; omega) (Fr.rf _ _) h4 (fun r y hr hy => ?_) (GdB_0 _ _ _)
      rw [rwW, if_pos ⟨by omega, hy⟩]
    · rw [if_neg (nI_ge (by omega) (by omega))]
      refine wp_gI (k := 1) h4.1 rfl ?_
      rw [show nI j + (2 : Int32) = nI (j + 2) from nI_add j 2, if_neg (nI_ge (by omega) (by omega))]
      refine wp_ldI s2 rfl (by omega) (by omega) ?_
      refine wp_bd (wp_vc h4.1 (write_w h4 s1 hs hn2.2 (by omega) (by omega) (by omega) (hh j (by omega)) hβ (fun h9 f9 s9 => ?_)))
      rw [nI_1]
      refine solve_l (F := F) hb he hn2 hL hw hs hh hβ hη hc q0 q1 f (j + 1) h9 (by omega) (by omega) (h3.tr f9) (s9.cg (fun r y _ _ => ?_))
      by_cases c : r = j + 2
      · subst c
        by_cases cy : y < w
        · simp [rwW, cy, con, hgC, posI]
        · simp [rwW, cy]
      · by_cases c2 : r < j + 2
        · simp [rwW, c, c2, show r < j + 1 + 2 by omega]
        · simp [rwW, c, c2, show ¬ r < j + 1 + 2 by omega]
theorem solve_w {h : Hp} {s n n0 w0 β η L : Nat} {ρ : Nat → Nat} {F : Nat → Nat → Int64} {sn hn : Nat → Nat} (H : Slv h s n0 w0 ρ F) (hb : h.1 β = some (ai 0 (arI n (fun k => nI (sn k))))) (he : h.1 η = some (ai 0 (arI (n - 2) (fun k => nI (hn k))))) (hn2 : 2 ≤ n ∧ n ≤ 5) (hL : L ≤ 60) (hs : ∀ k, k < n → sn k ≤ 60) (hh : ∀ k, k < n - 2 → hn k ≤ 60) (hβ : ¬ sT s β) (hη : ¬ sT s η) (hc : CoB n (hgC L hn) (posI sn n)) {Q : Int32 → Hp → Prop}
    (q0 : ∀ h2 ρ F, PRd n (dco (hgC L hn) (posI sn n)) = 0 → Fr (sT s) h h2 → Slv h2 s n (n + L + 1) ρ F → Q 0 h2) (q1 : ∀ h2 ρ F pr A, FiB n (dco (hgC L hn) (posI sn n)) pr A → Fr (sT s) h h2 → Slv h2 s n (n + L + 1) ρ F → (∀ i j, i < n → j < n + L + 1 → F i j = oL (A i j)) → Q 1 h2) : WP (pX6_solve s (nI L) (some β) (some η)) h Q := by
  obtain ⟨H1, H2, H3, H4, H5⟩ := H
  have mT : ∀ y, sS s y → sT s y := fun y hy => by unfold sS at hy; unfold sT; omega
  unfold pX6_solve
  refine wp_alnI hb ?_
  rw [show mnI (nI n) (5 : Int32) = nI n from mnI_n (b := 5) hn2.2 (by omega), show mnI (nI L) (60 : Int32) = nI L from mnI_n (b := 60) hL (by omega)]
  refine wp_pF (k := 1) H1 (by simp) ?_
  have f1 : Fr (fun y => y = s) h (up h s (ob 6 ([vr (some (s + 1)), vi (nI n0), vi (nI w0)].set 1 (vi (nI n))))) := (Fr.rf _ h).put _ rfl
  have e1 : (up h s (ob 6 ([vr (some (s + 1)), vi (nI n0), vi (nI w0)].set 1 (vi (nI n))))).1 s = some (ob 6 [vr (some (s + 1)), vi (nI n), vi (nI w0)]) := up_s _ _ _
  generalize up h s (ob 6 ([vr (some (s + 1)), vi (nI n0), vi (nI w0)].set 1 (vi (nI n)))) = h1 at f1 e1 ⊢
  refine wp_gI (k := 1) e1 rfl ?_
  refine wp_pF (k := 2) e1 (by simp) ?_
  rw [nI_add, nI_1]
  have f2 : Fr (fun y => y = s) h (up h1 s (ob 6 ([vr (some (s + 1)), vi (nI n), vi (nI w0)].set 2 (vi (nI (n + L + 1)))))) := f1.put _ rfl
  have e2 : (up h1 s (ob 6 ([vr (some (s + 1)), vi (nI n), vi (nI w0)].set 2 (vi (nI (n + L + 1)))))).1 s = some (ob 6 [vr (some (s + 1)), vi (nI n), vi (nI (n + L + 1))]) := up_s _ _ _
  generalize up h1 s (ob 6 ([vr (some (s + 1)), vi (nI n), vi (nI w0)].set 2 (vi (nI (n + L + 1))))) = h2 at f2 e2 ⊢
  have f2' : Fr (sT s) h h2 := f2.mono (fun y hy => by unfold sT; omega)
  have S2 : Slv h2 s n (n + L + 1) ρ F := ⟨e2, f2.at H2 (show ¬ s + 1 = s by omega), H3, H4, fun i hi => f2.at (H5 i hi) (by have := H3 i hi; show ¬ ρ i = s; omega)⟩
  have b2 := f2'.at hb hβ
  have c2 := f2'.at he hη
  obtain ⟨G1, G2, G3, G4, G5⟩ := id S2
  have r0 := H3 0 (by omega)
  refine wp_gA (k := 0) G1 rfl ?_
  refine wp_ldQ (j := 0) G2 rfl (by omega) (by omega) ?_
  refine wp_gI (k := 2) G1 rfl ?_
  refine wp_bd (fill_w (T := n + L + 1) (G5 0 (by omega)) (by omega) (by omega) (fun h3 f3 e3 => ?_))
  have S3 := S2.row (by omega) f3 e3
  have f3' : Fr (sT s) h h3 := f2'.tr (f3.mono (fun y hy => by unfold sT; omega))
  refine wp_bd (wp_vc S3.1 (write_w (row := 1) S3 (f3'.at hb hβ) hs hn2.2 (by omega) (by omega) (by omega) hL hβ (fun h4 f4 S4 => ?_)))
  have f4' : Fr (sT s) h h4 := f3'.tr (f4.mono mT)
  refine solve_l (F := F) (f4'.at hb hβ) (f4'.at he hη) hn2 hL rfl hs hh hβ hη hc (fun h5 ρ5 F5 p5 f5 s5 => q0 h5 ρ5 F5 p5 (f4'.tr (f5.mono mT)) s5) (fun h5 ρ5 F5 pr A p5 f5 s5 g5 => q1 h5 ρ5 F5 pr A p5 (f4'.tr (f5.mono mT)) s5 g5) FU 0 h4 (by omega) (by unfold FU; omega) (Fr.rf _ _) (S4.cg (fun r y _ _ => ?_))
  by_cases c0 : r = 0
  · subst c0
    by_cases cy : y < n + L + 1
    · simp [rwW, cy, con]
      rfl
    · simp [rwW, cy]
  · by_cases c1 : r = 1
    · subst c1
      by_cases cy : y < n + L + 1
      · simp [rwW, cy, con, hgC, posI]
      · simp [rwW, cy]
    · simp [rwW, c0, c1, show ¬ r < 2 by omega]
theorem lower_e {h : Hp} {s n w : Nat} {ρ : Nat → Nat} {F : Nat → Nat → Int64} (H : Slv h s n w ρ F) : pX6_lower s h = some (abL (F 0 0), h) := by
  obtain ⟨H1, H2, H3, H4, H5⟩ := H
  unfold pX6_lower
  rw [show (0 : Int32) = nI 0 from rfl, bd_e (gA_e (k := 0) H1 rfl), bd_e (ldQ_e (j := 0) H2 (by rw [arQ_len]; omega) (by rw [arQ_len]; omega)), arQ_get _ (by omega), bd_e (ldL_e (j := 0) (H5 0 (by omega)) (by rw [arL_len]; omega) (by rw [arL_len]; omega)), arL_get _ (by omega)]
  rfl
theorem upper_e {h : Hp} {s n w i a : Nat} {ρ : Nat → Nat} {F : Nat → Nat → Int64} (H : Slv h s n w ρ F) (hi : i < 5) (ha : n + a < 66) : pX6_upper s (nI i) (nI a) h = some (if 0 ≤ F 0 0 then F i (n + a) else - F i (n + a), h) := by
  obtain ⟨H1, H2, H3, H4, H5⟩ := H
  unfold pX6_upper
  rw [show (0 : Int32) = nI 0 from rfl, bd_e (gA_e (k := 0) H1 rfl), bd_e (ldQ_e (j := 0) H2 (by rw [arQ_len]; omega) (by rw [arQ_len]; omega)), arQ_get _ (by omega), bd_e (ldL_e (j := 0) (H5 0 (by omega)) (by rw [arL_len]; omega) (by rw [arL_len]; omega)), arL_get _ (by omega)]
  by_cases c : 0 ≤ F 0 0
  · rw [if_pos c, if_pos c, bd_e (gA_e (k := 0) H1 rfl), bd_e (ldQ_e H2 (by rw [arQ_len]; omega) (by rw [arQ_len]; omega)), arQ_get _ (by omega), bd_e (gI_e (k := 1) H1 rfl), nI_add, bd_e (ldL_e (H5 i hi) (by rw [arL_len]; omega) (by rw [arL_len]; omega)), arL_get _ (by omega)]
    rfl
  · rw [if_neg c, if_neg c, bd_e (gA_e (k := 0) H1 rfl), bd_e (ldQ_e H2 (by rw [arQ_len]; omega) (by rw [arQ_len]; omega)), arQ_get _ (by omega), bd_e (gI_e (k := 1) H1 rfl), nI_add, bd_e (ldL_e (H5 i hi) (by rw [arL_len]; omega) (by rw [arL_len]; omega)), arL_get _ (by omega)]
    rfl
