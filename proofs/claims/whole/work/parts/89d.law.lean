/-! The law's loop: every call answers alike, all holds again. -/
theorem scr_f {L j : Nat} {xs : Nat → Int32} {R : Type} {v : Int32} (hv : v = nI j) (hj : j < L) (hL : L ≤ 4096) (k : Int32 → Mo R) : bd (scr L xs v) k = k (xs j) := by
  subst hv
  funext h
  refine bd_e ?_
  have h1 := ix_ok hj (show L < 2 ^ 31 by omega)
  rw [nI_clamp (by omega)] at h1
  unfold scr
  rw [nI_clamp (by omega), if_neg h1]
theorem law_st {R : Type} {B : Nat} {h : Hp} {g : Gh} {σ : MS} {P P' : Nat → Mo R} {dec : ∀ a b : R, Decidable (a = b)} {K : Mo Int32} {Q : Int32 → Hp → Prop} (s : StC B (P B) (P' (B + 42))) (i : Inv h B g σ) (q : ∀ h2 g2 σ2, Inv h2 B g2 σ2 → h2.2.1 ≤ h.2.1 + 20 → h2.2.2 ≤ h.2.2 + 1000 → WP K h2 Q) : WP (bd (vc 10 (some B) P) fun a => bd (vc 11 (some (B + 42)) P') fun b => @ite (Mo Int32) (a = b) (dec a b) K (rnZ (0 : Int32))) h Q := by
  obtain ⟨r, h1, h2, g', τ, e1, e2, i2, b1, b2, fs, e3⟩ := s h g σ i
  refine wp_e (by rw [vc_e i.1.1.1]; exact e1) (wp_e (by rw [vc_e e3]; exact e2) ?_)
  rw [if_pos rfl]
  exact q h2 g' τ i2 b1 b2
section lawl
variable {L B i : Nat} {xs : Nat → Int32} {k18 : Option Nat → Option Nat → Int32 → Mo Int32} {h : Hp} {g : Gh} {σ : MS} {Q : Int32 → Hp → Prop}
theorem law_0 (hL : L ≤ 4096) (hi : 8 * i + 8 ≤ L) (iv : Inv h B g σ) (q : ∀ h2 g2 σ2, Inv h2 B g2 σ2 → h2.2.1 ≤ h.2.1 + 20 → h2.2.2 ≤ h.2.2 + 1000 → WP (k18 (some B) (some (B + 42)) (nI (8 * i) + 8)) h2 Q) : WP (bL_law_140 L xs k18 (some B) (some (B + 42)) (nI (8 * i))) h Q := by
  have s1 : ∀ k : Int32 → Mo Int32, bd (scr L xs (nI (8 * i) + 1)) k = k (xs (8 * i + 1)) := scr_f (nI_add _ 1) (by omega) hL
  have s2 : ∀ k : Int32 → Mo Int32, bd (scr L xs (nI (8 * i) + 2)) k = k (xs (8 * i + 2)) := scr_f (nI_add _ 2) (by omega) hL
  have s3 : ∀ k : Int32 → Mo Int32, bd (scr L xs (nI (8 * i) + 3)) k = k (xs (8 * i + 3)) := scr_f (nI_add _ 3) (by omega) hL
  have s4 : ∀ k : Int32 → Mo Int32, bd (scr L xs (nI (8 * i) + 4)) k = k (xs (8 * i + 4)) := scr_f (nI_add _ 4) (by omega) hL
  have s5 : ∀ k : Int32 → Mo Int32, bd (scr L xs (nI (8 * i) + 5)) k = k (xs (8 * i + 5)) := scr_f (nI_add _ 5) (by omega) hL
  unfold bL_law_140
  simp only [s1, s2, s3, s4, s5]
  refine law_st ?_ iv q
  exact bridge_s B _ _ _
theorem law_1 (hL : L ≤ 4096) (hi : 8 * i + 8 ≤ L) (iv : Inv h B g σ) (q : ∀ h2 g2 σ2, Inv h2 B g2 σ2 → h2.2.1 ≤ h.2.1 + 20 → h2.2.2 ≤ h.2.2 + 1000 → WP (k18 (some B) (some (B + 42)) (nI (8 * i) + 8)) h2 Q) : WP (bL_law_243 L xs k18 (some B) (some (B + 42)) (nI (8 * i))) h Q := by
  have s1 : ∀ k : Int32 → Mo Int32, bd (scr L xs (nI (8 * i) + 1)) k = k (xs (8 * i + 1)) := scr_f (nI_add _ 1) (by omega) hL
  have s2 : ∀ k : Int32 → Mo Int32, bd (scr L xs (nI (8 * i) + 2)) k = k (xs (8 * i + 2)) := scr_f (nI_add _ 2) (by omega) hL
  unfold bL_law_243
  simp only [s1, s2]
  refine law_st ?_ iv q
  exact told_s B _ _
theorem law_2 (hL : L ≤ 4096) (hi : 8 * i + 8 ≤ L) (iv : Inv h B g σ) (q : ∀ h2 g2 σ2, Inv h2 B g2 σ2 → h2.2.1 ≤ h.2.1 + 20 → h2.2.2 ≤ h.2.2 + 1000 → WP (k18 (some B) (some (B + 42)) (nI (8 * i) + 8)) h2 Q) : WP (bL_law_276 L xs k18 (some B) (some (B + 42)) (nI (8 * i))) h Q := by
  have s1 : ∀ k : Int32 → Mo Int32, bd (scr L xs (nI (8 * i) + 1)) k = k (xs (8 * i + 1)) := scr_f (nI_add _ 1) (by omega) hL
  have s2 : ∀ k : Int32 → Mo Int32, bd (scr L xs (nI (8 * i) + 2)) k = k (xs (8 * i + 2)) := scr_f (nI_add _ 2) (by omega) hL
  have s3 : ∀ k : Int32 → Mo Int32, bd (scr L xs (nI (8 * i) + 3)) k = k (xs (8 * i + 3)) := scr_f (nI_add _ 3) (by omega) hL
  have s4 : ∀ k : Int32 → Mo Int32, bd (scr L xs (nI (8 * i) + 4)) k = k (xs (8 * i + 4)) := scr_f (nI_add _ 4) (by omega) hL
  have s5 : ∀ k : Int32 → Mo Int32, bd (scr L xs (nI (8 * i) + 5)) k = k (xs (8 * i + 5)) := scr_f (nI_add _ 5) (by omega) hL
  unfold bL_law_276
  simp only [s1, s2, s3, s4, s5]
  refine law_st ?_ iv q
  exact influence_s B _ _ _ _ _
theorem law_3 (hL : L ≤ 4096) (hi : 8 * i + 8 ≤ L) (iv : Inv h B g σ) (q : ∀ h2 g2 σ2, Inv h2 B g2 σ2 → h2.2.1 ≤ h.2.1 + 20 → h2.2.2 ≤ h.2.2 + 1000 → WP (k18 (some B) (some (B + 42)) (nI (8 * i) + 8)) h2 Q) : WP (bL_law_340 L xs k18 (some B) (some (B + 42)) (nI (8 * i))) h Q := by
  have s1 : ∀ k : Int32 → Mo Int32, bd (scr L xs (nI (8 * i) + 1)) k = k (xs (8 * i + 1)) := scr_f (nI_add _ 1) (by omega) hL
  have s2 : ∀ k : Int32 → Mo Int32, bd (scr L xs (nI (8 * i) + 2)) k = k (xs (8 * i + 2)) := scr_f (nI_add _ 2) (by omega) hL
  have s3 : ∀ k : Int32 → Mo Int32, bd (scr L xs (nI (8 * i) + 3)) k = k (xs (8 * i + 3)) := scr_f (nI_add _ 3) (by omega) hL
  unfold bL_law_340
  simp only [s1, s2, s3]
  refine law_st ?_ iv q
  exact rule_s B _ _ _
theorem law_4 (hL : L ≤ 4096) (hi : 8 * i + 8 ≤ L) (iv : Inv h B g σ) (q : ∀ h2 g2 σ2, Inv h2 B g2 σ2 → h2.2.1 ≤ h.2.1 + 20 → h2.2.2 ≤ h.2.2 + 1000 → WP (k18 (some B) (some (B + 42)) (nI (8 * i) + 8)) h2 Q) : WP (bL_law_383 L xs k18 (some B) (some (B + 42)) (nI (8 * i))) h Q := by
  have s1 : ∀ k : Int32 → Mo Int32, bd (scr L xs (nI (8 * i) + 1)) k = k (xs (8 * i + 1)) := scr_f (nI_add _ 1) (by omega) hL
  unfold bL_law_383
  simp only [s1]
  refine law_st ?_ iv q
  exact train_s B _
theorem law_5 (hL : L ≤ 4096) (hi : 8 * i + 8 ≤ L) (iv : Inv h B g σ) (q : ∀ h2 g2 σ2, Inv h2 B g2 σ2 → h2.2.1 ≤ h.2.1 + 20 → h2.2.2 ≤ h.2.2 + 1000 → WP (k18 (some B) (some (B + 42)) (nI (8 * i) + 8)) h2 Q) : WP (bL_law_406 L xs k18 (some B) (some (B + 42)) (nI (8 * i))) h Q := by
  have s1 : ∀ k : Int32 → Mo Int32, bd (scr L xs (nI (8 * i) + 1)) k = k (xs (8 * i + 1)) := scr_f (nI_add _ 1) (by omega) hL
  have s2 : ∀ k : Int32 → Mo Int32, bd (scr L xs (nI (8 * i) + 2)) k = k (xs (8 * i + 2)) := scr_f (nI_add _ 2) (by omega) hL
  have s3 : ∀ k : Int32 → Mo Int32, bd (scr L xs (nI (8 * i) + 3)) k = k (xs (8 * i + 3)) := scr_f (nI_add _ 3) (by omega) hL
  unfold bL_law_406
  simp only [s1, s2, s3]
  refine law_st ?_ iv q
  exact axle_s B _ _ _
theorem law_6 (hL : L ≤ 4096) (hi : 8 * i + 8 ≤ L) (iv : Inv h B g σ) (q : ∀ h2 g2 σ2, Inv h2 B g2 σ2 → h2.2.1 ≤ h.2.1 + 20 → h2.2.2 ≤ h.2.2 + 1000 → WP (k18 (some B) (some (B + 42)) (nI (8 * i) + 8)) h2 Q) : WP (bL_law_449 L xs k18 (some B) (some (B + 42)) (nI (8 * i))) h Q := by
  have s1 : ∀ k : Int32 → Mo Int32, bd (scr L xs (nI (8 * i) + 1)) k = k (xs (8 * i + 1)) := scr_f (nI_add _ 1) (by omega) hL
  have s2 : ∀ k : Int32 → Mo Int32, bd (scr L xs (nI (8 * i) + 2)) k = k (xs (8 * i + 2)) := scr_f (nI_add _ 2) (by omega) hL
  have s3 : ∀ k : Int32 → Mo Int32, bd (scr L xs (nI (8 * i) + 3)) k = k (xs (8 * i + 3)) := scr_f (nI_add _ 3) (by omega) hL
  unfold bL_law_449
  simp only [s1, s2, s3]
  refine law_st ?_ iv q
  exact axles_s B _ _ _
theorem law_7 (hL : L ≤ 4096) (hi : 8 * i + 8 ≤ L) (iv : Inv h B g σ) (q : ∀ h2 g2 σ2, Inv h2 B g2 σ2 → h2.2.1 ≤ h.2.1 + 20 → h2.2.2 ≤ h.2.2 + 1000 → WP (k18 (some B) (some (B + 42)) (nI (8 * i) + 8)) h2 Q) : WP (bL_law_492 L xs k18 (some B) (some (B + 42)) (nI (8 * i))) h Q := by
  have s1 : ∀ k : Int32 → Mo Int32, bd (scr L xs (nI (8 * i) + 1)) k = k (xs (8 * i + 1)) := scr_f (nI_add _ 1) (by omega) hL
  have s2 : ∀ k : Int32 → Mo Int32, bd (scr L xs (nI (8 * i) + 2)) k = k (xs (8 * i + 2)) := scr_f (nI_add _ 2) (by omega) hL
  have s3 : ∀ k : Int32 → Mo Int32, bd (scr L xs (nI (8 * i) + 3)) k = k (xs (8 * i + 3)) := scr_f (nI_add _ 3) (by omega) hL
  have s4 : ∀ k : Int32 → Mo Int32, bd (scr L xs (nI (8 * i) + 4)) k = k (xs (8 * i + 4)) := scr_f (nI_add _ 4) (by omega) hL
  have s5 : ∀ k : Int32 → Mo Int32, bd (scr L xs (nI (8 * i) + 5)) k = k (xs (8 * i + 5)) := scr_f (nI_add _ 5) (by omega) hL
  have s6 : ∀ k : Int32 → Mo Int32, bd (scr L xs (nI (8 * i) + 6)) k = k (xs (8 * i + 6)) := scr_f (nI_add _ 6) (by omega) hL
  have s7 : ∀ k : Int32 → Mo Int32, bd (scr L xs (nI (8 * i) + 7)) k = k (xs (8 * i + 7)) := scr_f (nI_add _ 7) (by omega) hL
  unfold bL_law_492
  simp only [s1, s2, s3, s4, s5, s6, s7]
  refine law_st ?_ iv q
  exact effect_s B _ _ _ _ _ _ _
theorem law_8 (hL : L ≤ 4096) (hi : 8 * i + 8 ≤ L) (iv : Inv h B g σ) (q : ∀ h2 g2 σ2, Inv h2 B g2 σ2 → h2.2.1 ≤ h.2.1 + 20 → h2.2.2 ≤ h.2.2 + 1000 → WP (k18 (some B) (some (B + 42)) (nI (8 * i) + 8)) h2 Q) : WP (bL_law_580 L xs k18 (some B) (some (B + 42)) (nI (8 * i))) h Q := by
  have s1 : ∀ k : Int32 → Mo Int32, bd (scr L xs (nI (8 * i) + 1)) k = k (xs (8 * i + 1)) := scr_f (nI_add _ 1) (by omega) hL
  have s2 : ∀ k : Int32 → Mo Int32, bd (scr L xs (nI (8 * i) + 2)) k = k (xs (8 * i + 2)) := scr_f (nI_add _ 2) (by omega) hL
  have s3 : ∀ k : Int32 → Mo Int32, bd (scr L xs (nI (8 * i) + 3)) k = k (xs (8 * i + 3)) := scr_f (nI_add _ 3) (by omega) hL
  have s4 : ∀ k : Int32 → Mo Int32, bd (scr L xs (nI (8 * i) + 4)) k = k (xs (8 * i + 4)) := scr_f (nI_add _ 4) (by omega) hL
  have s5 : ∀ k : Int32 → Mo Int32, bd (scr L xs (nI (8 * i) + 5)) k = k (xs (8 * i + 5)) := scr_f (nI_add _ 5) (by omega) hL
  have s6 : ∀ k : Int32 → Mo Int32, bd (scr L xs (nI (8 * i) + 6)) k = k (xs (8 * i + 6)) := scr_f (nI_add _ 6) (by omega) hL
  unfold bL_law_580
  simp only [s1, s2, s3, s4, s5, s6]
  refine law_st ?_ iv q
  exact worst_s B _ _ _ _ _ _
theorem law_9 (hL : L ≤ 4096) (hi : 8 * i + 8 ≤ L) (iv : Inv h B g σ) (q : ∀ h2 g2 σ2, Inv h2 B g2 σ2 → h2.2.1 ≤ h.2.1 + 20 → h2.2.2 ≤ h.2.2 + 1000 → WP (k18 (some B) (some (B + 42)) (nI (8 * i) + 8)) h2 Q) : WP (bL_law_656 L xs k18 (some B) (some (B + 42)) (nI (8 * i))) h Q := by
  have s1 : ∀ k : Int32 → Mo Int32, bd (scr L xs (nI (8 * i) + 1)) k = k (xs (8 * i + 1)) := scr_f (nI_add _ 1) (by omega) hL
  have s2 : ∀ k : Int32 → Mo Int32, bd (scr L xs (nI (8 * i) + 2)) k = k (xs (8 * i + 2)) := scr_f (nI_add _ 2) (by omega) hL
  have s3 : ∀ k : Int32 → Mo Int32, bd (scr L xs (nI (8 * i) + 3)) k = k (xs (8 * i + 3)) := scr_f (nI_add _ 3) (by omega) hL
  have s4 : ∀ k : Int32 → Mo Int32, bd (scr L xs (nI (8 * i) + 4)) k = k (xs (8 * i + 4)) := scr_f (nI_add _ 4) (by omega) hL
  have s5 : ∀ k : Int32 → Mo Int32, bd (scr L xs (nI (8 * i) + 5)) k = k (xs (8 * i + 5)) := scr_f (nI_add _ 5) (by omega) hL
  unfold bL_law_656
  simp only [s1, s2, s3, s4, s5]
  refine law_st ?_ iv q
  exact check_s B _ _ _ _ _
theorem law_10 (hL : L ≤ 4096) (hi : 8 * i + 8 ≤ L) (iv : Inv h B g σ) (q : ∀ h2 g2 σ2, Inv h2 B g2 σ2 → h2.2.1 ≤ h.2.1 + 20 → h2.2.2 ≤ h.2.2 + 1000 → WP (k18 (some B) (some (B + 42)) (nI (8 * i) + 8)) h2 Q) : WP (bL_law_719 L xs k18 (some B) (some (B + 42)) (nI (8 * i))) h Q := by
  have s1 : ∀ k : Int32 → Mo Int32, bd (scr L xs (nI (8 * i) + 1)) k = k (xs (8 * i + 1)) := scr_f (nI_add _ 1) (by omega) hL
  have s2 : ∀ k : Int32 → Mo Int32, bd (scr L xs (nI (8 * i) + 2)) k = k (xs (8 * i + 2)) := scr_f (nI_add _ 2) (by omega) hL
  have s3 : ∀ k : Int32 → Mo Int32, bd (scr L xs (nI (8 * i) + 3)) k = k (xs (8 * i + 3)) := scr_f (nI_add _ 3) (by omega) hL
  have s4 : ∀ k : Int32 → Mo Int32, bd (scr L xs (nI (8 * i) + 4)) k = k (xs (8 * i + 4)) := scr_f (nI_add _ 4) (by omega) hL
  unfold bL_law_719
  simp only [s1, s2, s3, s4]
  refine law_st ?_ iv q
  exact limit_s B _ _ _ _
theorem law_11 (hL : L ≤ 4096) (hi : 8 * i + 8 ≤ L) (iv : Inv h B g σ) (q : ∀ h2 g2 σ2, Inv h2 B g2 σ2 → h2.2.1 ≤ h.2.1 + 20 → h2.2.2 ≤ h.2.2 + 1000 → WP (k18 (some B) (some (B + 42)) (nI (8 * i) + 8)) h2 Q) : WP (bL_law_772 L xs k18 (some B) (some (B + 42)) (nI (8 * i))) h Q := by
  have s1 : ∀ k : Int32 → Mo Int32, bd (scr L xs (nI (8 * i) + 1)) k = k (xs (8 * i + 1)) := scr_f (nI_add _ 1) (by omega) hL
  unfold bL_law_772
  simp only [s1]
  refine law_st ?_ iv q
  exact usual_s B _
theorem law_12 (hL : L ≤ 4096) (hi : 8 * i + 8 ≤ L) (iv : Inv h B g σ) (q : ∀ h2 g2 σ2, Inv h2 B g2 σ2 → h2.2.1 ≤ h.2.1 + 20 → h2.2.2 ≤ h.2.2 + 1000 → WP (k18 (some B) (some (B + 42)) (nI (8 * i) + 8)) h2 Q) : WP (bL_law_795 L xs k18 (some B) (some (B + 42)) (nI (8 * i))) h Q := by
  have s1 : ∀ k : Int32 → Mo Int32, bd (scr L xs (nI (8 * i) + 1)) k = k (xs (8 * i + 1)) := scr_f (nI_add _ 1) (by omega) hL
  have s2 : ∀ k : Int32 → Mo Int32, bd (scr L xs (nI (8 * i) + 2)) k = k (xs (8 * i + 2)) := scr_f (nI_add _ 2) (by omega) hL
  have s3 : ∀ k : Int32 → Mo Int32, bd (scr L xs (nI (8 * i) + 3)) k = k (xs (8 * i + 3)) := scr_f (nI_add _ 3) (by omega) hL
  have s4 : ∀ k : Int32 → Mo Int32, bd (scr L xs (nI (8 * i) + 4)) k = k (xs (8 * i + 4)) := scr_f (nI_add _ 4) (by omega) hL
  have s5 : ∀ k : Int32 → Mo Int32, bd (scr L xs (nI (8 * i) + 5)) k = k (xs (8 * i + 5)) := scr_f (nI_add _ 5) (by omega) hL
  have s6 : ∀ k : Int32 → Mo Int32, bd (scr L xs (nI (8 * i) + 6)) k = k (xs (8 * i + 6)) := scr_f (nI_add _ 6) (by omega) hL
  unfold bL_law_795
  simp only [s1, s2, s3, s4, s5, s6]
  refine law_st ?_ iv q
  exact total_s B _ _ _ _ _ _
theorem law_13 (hL : L ≤ 4096) (hi : 8 * i + 8 ≤ L) (iv : Inv h B g σ) (q : ∀ h2 g2 σ2, Inv h2 B g2 σ2 → h2.2.1 ≤ h.2.1 + 20 → h2.2.2 ≤ h.2.2 + 1000 → WP (k18 (some B) (some (B + 42)) (nI (8 * i) + 8)) h2 Q) : WP (bL_law_871 L xs k18 (some B) (some (B + 42)) (nI (8 * i))) h Q := by
  have s1 : ∀ k : Int32 → Mo Int32, bd (scr L xs (nI (8 * i) + 1)) k = k (xs (8 * i + 1)) := scr_f (nI_add _ 1) (by omega) hL
  have s2 : ∀ k : Int32 → Mo Int32, bd (scr L xs (nI (8 * i) + 2)) k = k (xs (8 * i + 2)) := scr_f (nI_add _ 2) (by omega) hL
  have s3 : ∀ k : Int32 → Mo Int32, bd (scr L xs (nI (8 * i) + 3)) k = k (xs (8 * i + 3)) := scr_f (nI_add _ 3) (by omega) hL
  unfold bL_law_871
  simp only [s1, s2, s3]
  refine law_st ?_ iv q
  exact fails_s B _ _ _
theorem law_14 (hL : L ≤ 4096) (hi : 8 * i + 8 ≤ L) (iv : Inv h B g σ) (q : ∀ h2 g2 σ2, Inv h2 B g2 σ2 → h2.2.1 ≤ h.2.1 + 20 → h2.2.2 ≤ h.2.2 + 1000 → WP (k18 (some B) (some (B + 42)) (nI (8 * i) + 8)) h2 Q) : WP (bL_law_914 L xs k18 (some B) (some (B + 42)) (nI (8 * i))) h Q := by
  have s1 : ∀ k : Int32 → Mo Int32, bd (scr L xs (nI (8 * i) + 1)) k = k (xs (8 * i + 1)) := scr_f (nI_add _ 1) (by omega) hL
  have s2 : ∀ k : Int32 → Mo Int32, bd (scr L xs (nI (8 * i) + 2)) k = k (xs (8 * i + 2)) := scr_f (nI_add _ 2) (by omega) hL
  unfold bL_law_914
  simp only [s1, s2]
  refine law_st ?_ iv q
  exact posted_s B _ _
theorem law_15 (hL : L ≤ 4096) (hi : 8 * i + 8 ≤ L) (iv : Inv h B g σ) (q : ∀ h2 g2 σ2, Inv h2 B g2 σ2 → h2.2.1 ≤ h.2.1 + 20 → h2.2.2 ≤ h.2.2 + 1000 → WP (k18 (some B) (some (B + 42)) (nI (8 * i) + 8)) h2 Q) : WP (bL_law_947 L xs k18 (some B) (some (B + 42)) (nI (8 * i))) h Q := by
  have s1 : ∀ k : Int32 → Mo Int32, bd (scr L xs (nI (8 * i) + 1)) k = k (xs (8 * i + 1)) := scr_f (nI_add _ 1) (by omega) hL
  have s2 : ∀ k : Int32 → Mo Int32, bd (scr L xs (nI (8 * i) + 2)) k = k (xs (8 * i + 2)) := scr_f (nI_add _ 2) (by omega) hL
  have s3 : ∀ k : Int32 → Mo Int32, bd (scr L xs (nI (8 * i) + 3)) k = k (xs (8 * i + 3)) := scr_f (nI_add _ 3) (by omega) hL
  unfold bL_law_947
  simp only [s1, s2, s3]
  refine law_st ?_ iv q
  exact spread_s B _ _ _
theorem law_16 (hL : L ≤ 4096) (hi : 8 * i + 8 ≤ L) (iv : Inv h B g σ) (q : ∀ h2 g2 σ2, Inv h2 B g2 σ2 → h2.2.1 ≤ h.2.1 + 20 → h2.2.2 ≤ h.2.2 + 1000 → WP (k18 (some B) (some (B + 42)) (nI (8 * i) + 8)) h2 Q) : WP (bL_law_990 L xs k18 (some B) (some (B + 42)) (nI (8 * i))) h Q := by
  have s1 : ∀ k : Int32 → Mo Int32, bd (scr L xs (nI (8 * i) + 1)) k = k (xs (8 * i + 1)) := scr_f (nI_add _ 1) (by omega) hL
  have s2 : ∀ k : Int32 → Mo Int32, bd (scr L xs (nI (8 * i) + 2)) k = k (xs (8 * i + 2)) := scr_f (nI_add _ 2) (by omega) hL
  have s3 : ∀ k : Int32 → Mo Int32, bd (scr L xs (nI (8 * i) + 3)) k = k (xs (8 * i + 3)) := scr_f (nI_add _ 3) (by omega) hL
  have s4 : ∀ k : Int32 → Mo Int32, bd (scr L xs (nI (8 * i) + 4)) k = k (xs (8 * i + 4)) := scr_f (nI_add _ 4) (by omega) hL
  unfold bL_law_990
  simp only [s1, s2, s3, s4]
  refine law_st ?_ iv q
  exact road_s B _ _ _ _
theorem law_17 (hL : L ≤ 4096) (hi : 8 * i + 8 ≤ L) (iv : Inv h B g σ) (q : ∀ h2 g2 σ2, Inv h2 B g2 σ2 → h2.2.1 ≤ h.2.1 + 20 → h2.2.2 ≤ h.2.2 + 1000 → WP (k18 (some B) (some (B + 42)) (nI (8 * i) + 8)) h2 Q) : WP (bL_law_1043 L xs k18 (some B) (some (B + 42)) (nI (8 * i))) h Q := by
  have s1 : ∀ k : Int32 → Mo Int32, bd (scr L xs (nI (8 * i) + 1)) k = k (xs (8 * i + 1)) := scr_f (nI_add _ 1) (by omega) hL
  have s2 : ∀ k : Int32 → Mo Int32, bd (scr L xs (nI (8 * i) + 2)) k = k (xs (8 * i + 2)) := scr_f (nI_add _ 2) (by omega) hL
  have s3 : ∀ k : Int32 → Mo Int32, bd (scr L xs (nI (8 * i) + 3)) k = k (xs (8 * i + 3)) := scr_f (nI_add _ 3) (by omega) hL
  have s4 : ∀ k : Int32 → Mo Int32, bd (scr L xs (nI (8 * i) + 4)) k = k (xs (8 * i + 4)) := scr_f (nI_add _ 4) (by omega) hL
  have s5 : ∀ k : Int32 → Mo Int32, bd (scr L xs (nI (8 * i) + 5)) k = k (xs (8 * i + 5)) := scr_f (nI_add _ 5) (by omega) hL
  unfold bL_law_1043
  simp only [s1, s2, s3, s4, s5]
  refine law_st ?_ iv q
  exact route_s B _ _ _ _ _
theorem law_18 (hL : L ≤ 4096) (hi : 8 * i + 8 ≤ L) (iv : Inv h B g σ) (q : ∀ h2 g2 σ2, Inv h2 B g2 σ2 → h2.2.1 ≤ h.2.1 + 20 → h2.2.2 ≤ h.2.2 + 1000 → WP (k18 (some B) (some (B + 42)) (nI (8 * i) + 8)) h2 Q) : WP (bL_law_1106 L xs k18 (some B) (some (B + 42)) (nI (8 * i))) h Q := by
  have s1 : ∀ k : Int32 → Mo Int32, bd (scr L xs (nI (8 * i) + 1)) k = k (xs (8 * i + 1)) := scr_f (nI_add _ 1) (by omega) hL
  have s2 : ∀ k : Int32 → Mo Int32, bd (scr L xs (nI (8 * i) + 2)) k = k (xs (8 * i + 2)) := scr_f (nI_add _ 2) (by omega) hL
  have s3 : ∀ k : Int32 → Mo Int32, bd (scr L xs (nI (8 * i) + 3)) k = k (xs (8 * i + 3)) := scr_f (nI_add _ 3) (by omega) hL
  have s4 : ∀ k : Int32 → Mo Int32, bd (scr L xs (nI (8 * i) + 4)) k = k (xs (8 * i + 4)) := scr_f (nI_add _ 4) (by omega) hL
  unfold bL_law_1106
  simp only [s1, s2, s3, s4]
  refine law_st ?_ iv q
  exact why_s B _ _ _ _
theorem law_19 (hL : L ≤ 4096) (hi : 8 * i + 8 ≤ L) (iv : Inv h B g σ) (q : ∀ h2 g2 σ2, Inv h2 B g2 σ2 → h2.2.1 ≤ h.2.1 + 20 → h2.2.2 ≤ h.2.2 + 1000 → WP (k18 (some B) (some (B + 42)) (nI (8 * i) + 8)) h2 Q) : WP (bL_law_1159 L xs k18 (some B) (some (B + 42)) (nI (8 * i))) h Q := by
  have s1 : ∀ k : Int32 → Mo Int32, bd (scr L xs (nI (8 * i) + 1)) k = k (xs (8 * i + 1)) := scr_f (nI_add _ 1) (by omega) hL
  have s2 : ∀ k : Int32 → Mo Int32, bd (scr L xs (nI (8 * i) + 2)) k = k (xs (8 * i + 2)) := scr_f (nI_add _ 2) (by omega) hL
  have s3 : ∀ k : Int32 → Mo Int32, bd (scr L xs (nI (8 * i) + 3)) k = k (xs (8 * i + 3)) := scr_f (nI_add _ 3) (by omega) hL
  have s4 : ∀ k : Int32 → Mo Int32, bd (scr L xs (nI (8 * i) + 4)) k = k (xs (8 * i + 4)) := scr_f (nI_add _ 4) (by omega) hL
  have s5 : ∀ k : Int32 → Mo Int32, bd (scr L xs (nI (8 * i) + 5)) k = k (xs (8 * i + 5)) := scr_f (nI_add _ 5) (by omega) hL
  unfold bL_law_1159
  simp only [s1, s2, s3, s4, s5]
  refine law_st ?_ iv q
  exact wear_s B _ _ _ _ _
theorem law_20 (hL : L ≤ 4096) (hi : 8 * i + 8 ≤ L) (iv : Inv h B g σ) (q : ∀ h2 g2 σ2, Inv h2 B g2 σ2 → h2.2.1 ≤ h.2.1 + 20 → h2.2.2 ≤ h.2.2 + 1000 → WP (k18 (some B) (some (B + 42)) (nI (8 * i) + 8)) h2 Q) : WP (bL_law_1223 L xs k18 (some B) (some (B + 42)) (nI (8 * i))) h Q := by
  have s1 : ∀ k : Int32 → Mo Int32, bd (scr L xs (nI (8 * i) + 1)) k = k (xs (8 * i + 1)) := scr_f (nI_add _ 1) (by omega) hL
  have s2 : ∀ k : Int32 → Mo Int32, bd (scr L xs (nI (8 * i) + 2)) k = k (xs (8 * i + 2)) := scr_f (nI_add _ 2) (by omega) hL
  unfold bL_law_1223
  simp only [s1, s2]
  refine law_st ?_ iv q
  exact traffic_s B _ _
theorem law_21 (hL : L ≤ 4096) (hi : 8 * i + 8 ≤ L) (iv : Inv h B g σ) (q : ∀ h2 g2 σ2, Inv h2 B g2 σ2 → h2.2.1 ≤ h.2.1 + 20 → h2.2.2 ≤ h.2.2 + 1000 → WP (k18 (some B) (some (B + 42)) (nI (8 * i) + 8)) h2 Q) : WP (bL_law_1256 L xs k18 (some B) (some (B + 42)) (nI (8 * i))) h Q := by
  have s1 : ∀ k : Int32 → Mo Int32, bd (scr L xs (nI (8 * i) + 1)) k = k (xs (8 * i + 1)) := scr_f (nI_add _ 1) (by omega) hL
  have s2 : ∀ k : Int32 → Mo Int32, bd (scr L xs (nI (8 * i) + 2)) k = k (xs (8 * i + 2)) := scr_f (nI_add _ 2) (by omega) hL
  have s3 : ∀ k : Int32 → Mo Int32, bd (scr L xs (nI (8 * i) + 3)) k = k (xs (8 * i + 3)) := scr_f (nI_add _ 3) (by omega) hL
  unfold bL_law_1256
  simp only [s1, s2, s3]
  refine law_st ?_ iv q
  exact worn_s B _ _ _
theorem law_22 (hL : L ≤ 4096) (hi : 8 * i + 8 ≤ L) (iv : Inv h B g σ) (q : ∀ h2 g2 σ2, Inv h2 B g2 σ2 → h2.2.1 ≤ h.2.1 + 20 → h2.2.2 ≤ h.2.2 + 1000 → WP (k18 (some B) (some (B + 42)) (nI (8 * i) + 8)) h2 Q) : WP (bL_law_1300 L xs k18 (some B) (some (B + 42)) (nI (8 * i))) h Q := by
  have s1 : ∀ k : Int32 → Mo Int32, bd (scr L xs (nI (8 * i) + 1)) k = k (xs (8 * i + 1)) := scr_f (nI_add _ 1) (by omega) hL
  unfold bL_law_1300
  simp only [s1]
  refine law_st ?_ iv q
  exact count_s B _
end lawl
set_option maxRecDepth 100000 in
set_option maxHeartbeats 1000000 in
theorem law_l {L : Nat} {xs : Nat → Int32} {B : Nat} (hL : L ≤ 4096) : ∀ (f i : Nat) (h : Hp) (g : Gh) (σ : MS), 8 * i ≤ L + 8 → L + 8 < 8 * i + 8 * f → Inv h B g σ → h.2.1 ≤ B + 72 + 20 * i → h.2.2 ≤ 6000 + 1000 * i → WP (fL_law_18 L xs f (some B) (some (B + 42)) (nI (8 * i))) h (fun r h' => r = 1 ∧ h'.2.1 ≤ B + 600000 ∧ h'.2.2 ≤ 7302250)
  | 0, i, h, g, σ, h1, h2, iv, b1, b2 => by omega
  | f + 1, i, h, g, σ, h1, h2, iv, b1, b2 => by
    show WP (bL_law_18 L xs (fL_law_18 L xs f) (some B) (some (B + 42)) (nI (8 * i))) h _
    unfold bL_law_18
    have lt : (Int32.ofNat L - 8 < nI (8 * i)) ↔ L < 8 * i + 8 := by
      rw [Int32.lt_iff_toInt_lt, show Int32.ofNat L - 8 = nI L - nI 8 from rfl, nI_subI (by omega) (by omega), nI_toInt (by omega)]
      omega
    by_cases c : L < 8 * i + 8
    · rw [if_pos (lt.mpr c)]
      exact wp_rnZ (Or.inr rfl) ⟨rfl, by omega, by omega⟩
    · rw [if_neg (fun q => c (lt.mp q)), scr_f (j := 8 * i) rfl (by omega) hL]
      have hi : 8 * i + 8 ≤ L := by omega
      have nx : ∀ h2 g2 σ2, Inv h2 B g2 σ2 → h2.2.1 ≤ h.2.1 + 20 → h2.2.2 ≤ h.2.2 + 1000 → WP (fL_law_18 L xs f (some B) (some (B + 42)) (nI (8 * i) + 8)) h2 (fun r h' => r = 1 ∧ h'.2.1 ≤ B + 600000 ∧ h'.2.2 ≤ 7302250) := by
        intro h2 g2 σ2 i2 d1 d2
        rw [show nI (8 * i) + 8 = nI (8 * (i + 1)) from nI_add _ 8]
        exact law_l hL f (i + 1) h2 g2 σ2 (by omega) (by omega) i2 (by omega) (by omega)
      rcases swt_c (xs (8 * i) &&& 31) 23 with z | ⟨k, hk, e⟩
      · rw [swt_d z]
        exact nx h g σ iv (by omega) (by omega)
      · rw [e, swt_i hk (by simp)]
        match k, hk with
        | 0, _ => exact law_0 hL hi iv nx
        | 1, _ => exact law_1 hL hi iv nx
        | 2, _ => exact law_2 hL hi iv nx
        | 3, _ => exact law_3 hL hi iv nx
        | 4, _ => exact law_4 hL hi iv nx
        | 5, _ => exact law_5 hL hi iv nx
        | 6, _ => exact law_6 hL hi iv nx
        | 7, _ => exact law_7 hL hi iv nx
        | 8, _ => exact law_8 hL hi iv nx
        | 9, _ => exact law_9 hL hi iv nx
        | 10, _ => exact law_10 hL hi iv nx
        | 11, _ => exact law_11 hL hi iv nx
        | 12, _ => exact law_12 hL hi iv nx
        | 13, _ => exact law_13 hL hi iv nx
        | 14, _ => exact law_14 hL hi iv nx
        | 15, _ => exact law_15 hL hi iv nx
        | 16, _ => exact law_16 hL hi iv nx
        | 17, _ => exact law_17 hL hi iv nx
        | 18, _ => exact law_18 hL hi iv nx
        | 19, _ => exact law_19 hL hi iv nx
        | 20, _ => exact law_20 hL hi iv nx
        | 21, _ => exact law_21 hL hi iv nx
        | 22, _ => exact law_22 hL hi iv nx
        | k + 23, hk => omega
/-! THE PURE THEOREM: on every script the law's program answers 1, within the room. -/
theorem law_pure (L : Nat) (xs : Nat → Int32) (B : Nat) (hL : L ≤ 4096) : ∃ h' : Hp, pL_law L xs (fun _ => none, B, 0) = some (1, h') ∧ h'.2.1 ≤ B + 600000 ∧ h'.2.2 ≤ 7302250 := by
  have w : WP (pL_law L xs) (LH (fun _ => none) B 0 []) (fun r h' => r = 1 ∧ h'.2.1 ≤ B + 600000 ∧ h'.2.2 ≤ 7302250) := by
    unfold pL_law
    refine ini10 (K := fun x0 => bd (nwO 11 [vi 0, vr none, vr none, vr none, vr none, vr none, vr none, vr none, vr none, vr none, vr none, vr none, vi 0, vr none, vr none, vr none, vr none, vi 0, vi 0, vi 0, vi 0, vi 0, vi 0, vr none, vr none, vr none, vr none, vr none, vi 0, vr none, vr none, vr none, vr none, vr none, vr none, vr none, vr none, vr none, vi 0, vi 0, vi 0]) fun x8 => bd (vn x8 (fun o => pX11_init o )) fun _ => fL_law_18 L xs FU x0 x8 0) ?_
    have e0 : LH (fun _ => none) B 1678 (c10 B) = LH (LH (fun _ => none) B 1678 (c10 B)).1 (B + 42) 1678 [] := LH_n (LH (fun _ => none) B 1678 (c10 B)) (fun a ha => by
      have hl : (c10 B).length = 42 := rfl
      have ha' : B + (c10 B).length ≤ a := ha
      show (if a < B then none else (c10 B)[a - B]?) = none
      rw [if_neg (by omega), List.getElem?_eq_none (by omega)])
    rw [e0]
    refine ini11 (K := fun x8 => fL_law_18 L xs FU (some B) x8 0) (start_w (fun h g σ iv b1 b2 => ?_))
    exact law_l hL FU 0 h g σ (by omega) (by unfold FU; omega) iv (by omega) (by omega)
  obtain ⟨r, h', e, e1, e2, e3⟩ := w
  subst e1
  rw [LH_0]
  exact ⟨h', e, e2, e3⟩
