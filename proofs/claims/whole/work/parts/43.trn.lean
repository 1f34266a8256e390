/-! Line.effectOf; trains that are copied. -/
theorem nI_subneg {j z : Nat} (h : j < z) (hz : z < 2 ^ 30) : nI j - nI z < 0 := by
  rw [Int32.lt_iff_toInt_lt, Int32.toInt_sub, nI_toInt (by omega), nI_toInt (by omega), Int32.toInt_zero]
  rw [Int.bmod_def]
  omega
theorem within_e (v lo hi : Int32) (h : Hp) : pX10_within v lo hi h = some (bI (inB v lo hi), h) := pX10_within_e v lo hi h
theorem inB_sub {j z L : Nat} (hj : j < 2 ^ 30) (hz : z < 2 ^ 30) (hL : L < 2 ^ 30) : inB (nI j - nI z) 0 (nI L) = decide (z ≤ j ∧ j < z + (L + 1)) := by
  by_cases h : z ≤ j
  · rw [pk_sub h]
    simp only [inB]
    by_cases h2 : j < z + (L + 1)
    · rw [decide_eq_true (⟨nI_pos' (by omega), nI_le (by omega) (by omega)⟩ : (0 : Int32) ≤ nI (j - z) ∧ nI (j - z) ≤ nI L), decide_eq_true ⟨h, h2⟩]
    · rw [decide_eq_false (fun q : (0 : Int32) ≤ nI (j - z) ∧ nI (j - z) ≤ nI L => nI_ge (by omega) (by omega) q.2), decide_eq_false (fun q => h2 q.2)]
  · rw [decide_eq_false (fun q => h q.1)]
    simp only [inB]
    rw [decide_eq_false (fun q => ?_)]
    have := nI_subneg (j := j) (z := z) (by omega) hz
    have q1 := q.1
    rw [Int32.le_iff_toInt_le] at q1
    rw [Int32.lt_iff_toInt_lt] at this
    omega
theorem effectOf_l {h : Hp} {l u t w g L n j : Nat} {lo : Int64} {way r : Int32} {lf : Nat → Int64} {W : Nat → Int32} {gn : Nat → Nat} (hl : Lin h l u L lo lf) (ht : Trn h t w g n r W (fun k => nI (gn k))) (hL : L ≤ 60) (hn : n ≤ 8) (hG : bhN gn n ≤ 1000) (hj : j ≤ 2000) : ∀ (f k : Nat), k ≤ n → n < k + f → fX4_effectOf_15 f l (some t) way (nI j) (nI (bhN gn n)) (nI (bhN gn k)) (cS L W lf (bhW gn n way) j k) (nI k) h = some (cS L W lf (bhW gn n way) j n, h)
  | 0, k, h1, h2 => by omega
  | f + 1, k, h1, h2 => by
    show bX4_effectOf_15 (fX4_effectOf_15 f) l (some t) way (nI j) (nI (bhN gn n)) (nI (bhN gn k)) (cS L W lf (bhW gn n way) j k) (nI k) h = _
    unfold bX4_effectOf_15
    rw [bd_e (gI_e (k := 2) ht.1 rfl)]
    by_cases hk : n ≤ k
    · have e : k = n := by omega
      subst e
      rw [if_pos (nI_le hk (by omega))]
      rfl
    · rw [if_neg (nI_ge (by omega) (by omega)), bd_e (gA_e (k := 1) ht.1 rfl), bd_e (ldI_e ht.2.2 (by rw [arI_len]; omega) (by rw [arI_len]; omega)), arI_get _ (by omega)]
      rw [nI_add, show bhN gn k + gn k = bhN gn (k + 1) from rfl]
      have hm := bhN_mono gn (a := k + 1) (b := n) (by omega)
      have ih := effectOf_l (way := way) hl ht hL hn hG hj f (k + 1) (by omega) (by omega)
      rw [cS] at ih
      have key : ∀ z : Nat, z = bhW gn n way k → bX4_effectOf_51 (fX4_effectOf_15 f) l (some t) way (nI j) (nI (bhN gn n)) (nI (bhN gn (k + 1))) (cS L W lf (bhW gn n way) j k) (nI k) (nI j) (nI z) h = some (cS L W lf (bhW gn n way) j n, h) := by
        intro z hz
        have hz2 := bhW_le (gn := gn) way (show k < n by omega)
        rw [← hz] at hz2
        unfold bX4_effectOf_51
        rw [bd_e (gI_e (k := 2) hl.1 rfl), bd_e (within_e _ _ _ h), inB_sub (by omega) (by omega) (by omega)]
        rw [← hz] at ih
        by_cases hc : z ≤ j ∧ j < z + (L + 1)
        · rw [decide_eq_true hc, if_neg (by decide), bd_e (gA_e (k := 0) ht.1 rfl), bd_e (ldI_e ht.2.1 (by rw [arI_len]; omega) (by rw [arI_len]; omega)), arI_get _ (by omega), bd_e (gA_e (k := 0) hl.1 rfl), pk_sub hc.1, bd_e (ldL_e hl.2 (by rw [arL_len]; omega) (by rw [arL_len]; omega)), arL_get _ (by omega), nI_1]
          rw [if_pos hc] at ih
          exact ih
        · rw [decide_eq_false hc, if_pos (by rfl), nI_1]
          rw [if_neg hc, Int64.add_zero] at ih
          exact ih
      by_cases hw : way = 0
      · rw [if_pos hw]
        exact key _ (by rw [bhW, if_pos hw])
      · rw [if_neg hw, pk_sub hm]
        exact key _ (by rw [bhW, if_neg hw])
theorem effectOf_w {h : Hp} {l u t w g L n j : Nat} {lo : Int64} {way r : Int32} {lf : Nat → Int64} {W : Nat → Int32} {gn : Nat → Nat} (hl : Lin h l u L lo lf) (ht : Trn h t w g n r W (fun k => nI (gn k))) (hL : L ≤ 60) (hn : n ≤ 8) (hG : bhN gn n ≤ 1000) (hj : j ≤ 2000) : pX4_effectOf l (some t) way (nI j) h = some (cS L W lf (bhW gn n way) j n, h) := by
  unfold pX4_effectOf
  rw [bd_e (by rw [vc_e ht.1]; exact allGaps_w ht hn)]
  exact effectOf_l hl ht hL hn hG hj FU 0 (by omega) (by unfold FU; omega)
def toN (x : Int32) : Nat := x.toBitVec.toNat
theorem nI_toN (x : Int32) : nI (toN x) = x := by
  unfold nI toN
  apply Int32.toBitVec_inj.mp
  simp
/-- every row of ints is a row of nats -/
theorem row_nat (F : Nat → Int32) : F = fun k => nI (toN (F k)) := funext fun k => (nI_toN (F k)).symm
theorem copyW_l {h : Hp} {t w g n t2 w2 g2 : Nat} {r r2 p : Int32} {W : Nat → Int32} {gn : Nat → Nat} (ht : Trn h t w g n r W (fun k => nI (gn k))) (h2 : h.1 t2 = some (ob 8 [vr (some w2), vr (some g2), vi (nI n), vi r2])) (hn : n ≤ 8) (hd : t2 ≠ w2 ∧ t2 ≠ g2 ∧ w2 ≠ g2) (hd2 : ¬ (t = w2 ∨ t = g2) ∧ ¬ (w = w2 ∨ w = g2) ∧ ¬ (g = w2 ∨ g = g2)) {Q : Unit → Hp → Prop}
    (q : ∀ (h' : Hp) (W' G' : Nat → Int32), Fr (fun y => y = w2 ∨ y = g2) h h' → h'.1 w2 = some (ai 0 (arI 8 W')) → h'.1 g2 = some (ai 0 (arI 8 G')) → (∀ k, k < n → W' k = W k * p / 100 ∧ G' k = nI (gn k)) → Q () h') : ∀ (f k : Nat) (h' : Hp) (W' G' : Nat → Int32), k ≤ n → n < k + f → Fr (fun y => y = w2 ∨ y = g2) h h' → h'.1 w2 = some (ai 0 (arI 8 W')) → h'.1 g2 = some (ai 0 (arI 8 G')) → (∀ i, i < k → W' i = W i * p / 100 ∧ G' i = nI (gn i)) →
    WP (fX8_copyWeighing_10 f t2 (some t) p (nI k)) h' Q
  | 0, k, h', W', G', a1, a2, a3, a4, a5, a6 => by omega
  | f + 1, k, h', W', G', a1, a2, a3, a4, a5, a6 => by
    obtain ⟨d1, d2, d3⟩ := hd
    have ht' := ht.fr a3 hd2
    have ht2 := a3.at h2 (no2 d1 d2)
    show WP (bX8_copyWeighing_10 (fX8_copyWeighing_10 f) t2 (some t) p (nI k)) h' Q
    unfold bX8_copyWeighing_10
    refine wp_gI (k := 2) ht2 rfl ?_
    by_cases hk : n ≤ k
    · have e : k = n := by omega
      subst e
      rw [if_pos (nI_le hk (by omega))]
      exact wp_rn (q h' W' G' a3 a4 a5 a6)
    · rw [if_neg (nI_ge (by omega) (by omega))]
      refine wp_gA (k := 1) ht2 rfl ?_
      refine wp_gA (k := 1) ht'.1 rfl ?_
      refine wp_ldI ht'.2.2 rfl (by omega) (by omega) ?_
      refine wp_stI a5 rfl (by omega) (by omega) ?_
      have b3 := a3.put (ai 0 (arI 8 fun y => if y = k then nI (gn k) else G' y)) (x := g2) (Or.inr rfl)
      have b4 : (up h' g2 (ai 0 (arI 8 fun y => if y = k then nI (gn k) else G' y))).1 w2 = some (ai 0 (arI 8 W')) := by rw [up_n d3]; exact a4
      have b5 : (up h' g2 (ai 0 (arI 8 fun y => if y = k then nI (gn k) else G' y))).1 g2 = some (ai 0 (arI 8 fun y => if y = k then nI (gn k) else G' y)) := up_s _ _ _
      generalize up h' g2 (ai 0 (arI 8 fun y => if y = k then nI (gn k) else G' y)) = h1 at b3 b4 b5 ⊢
      have ht1 := ht.fr b3 hd2
      refine wp_gA (k := 0) (b3.at h2 (no2 d1 d2)) rfl ?_
      refine wp_gA (k := 0) ht1.1 rfl ?_
      refine wp_ldI ht1.2.1 rfl (by omega) (by omega) ?_
      refine wp_e (dvI_e (by decide)) ?_
      refine wp_stI b4 rfl (by omega) (by omega) ?_
      rw [nI_1]
      refine copyW_l ht h2 hn ⟨d1, d2, d3⟩ hd2 q f (k + 1) _ _ _ (by omega) (by omega) (b3.put _ (Or.inl rfl)) (up_s _ _ _) (by rw [up_n d3.symm]; exact b5) (fun i hi => ?_)
      by_cases e : i = k
      · subst e
        simp
      · simp [e, a6 i (by omega)]
theorem copyWeighing_w {h : Hp} {t w g n t2 w2 g2 : Nat} {r r2 p n2 : Int32} {W W2 G2 : Nat → Int32} {gn : Nat → Nat} (ht : Trn h t w g n r W (fun k => nI (gn k))) (h2 : h.1 t2 = some (ob 8 [vr (some w2), vr (some g2), vi n2, vi r2])) (h3 : h.1 w2 = some (ai 0 (arI 8 W2))) (h4 : h.1 g2 = some (ai 0 (arI 8 G2))) (hn : n ≤ 8) (hd : t2 ≠ w2 ∧ t2 ≠ g2 ∧ w2 ≠ g2) (hd2 : ¬ (t = t2 ∨ t = w2 ∨ t = g2) ∧ ¬ (w = t2 ∨ w = w2 ∨ w = g2) ∧ ¬ (g = t2 ∨ g = w2 ∨ g = g2)) {Q : Unit → Hp → Prop}
    (q : ∀ (h' : Hp) (W' : Nat → Int32) (gn' : Nat → Nat), Fr (fun y => y = t2 ∨ y = w2 ∨ y = g2) h h' → Trn h' t2 w2 g2 n r2 W' (fun k => nI (gn' k)) → (∀ k, k < n → W' k = W k * p / 100 ∧ nI (gn' k) = nI (gn k)) → Q () h') : WP (pX8_copyWeighing t2 (some t) p) h Q := by
  obtain ⟨d1, d2, d3⟩ := id hd
  unfold pX8_copyWeighing
  refine wp_gI (k := 2) ht.1 rfl ?_
  refine wp_pF (k := 2) h2 (by simp) ?_
  have f1 : Fr (fun y => y = t2 ∨ y = w2 ∨ y = g2) h (up h t2 (ob 8 ([vr (some w2), vr (some g2), vi n2, vi r2].set 2 (vi (nI n))))) := (Fr.rf _ h).put _ (Or.inl rfl)
  have e1 : (up h t2 (ob 8 ([vr (some w2), vr (some g2), vi n2, vi r2].set 2 (vi (nI n))))).1 t2 = some (ob 8 [vr (some w2), vr (some g2), vi (nI n), vi r2]) := up_s _ _ _
  have e2 : (up h t2 (ob 8 ([vr (some w2), vr (some g2), vi n2, vi r2].set 2 (vi (nI n))))).1 w2 = some (ai 0 (arI 8 W2)) := by rw [up_n d1.symm]; exact h3
  have e3 : (up h t2 (ob 8 ([vr (some w2), vr (some g2), vi n2, vi r2].set 2 (vi (nI n))))).1 g2 = some (ai 0 (arI 8 G2)) := by rw [up_n d2.symm]; exact h4
  generalize up h t2 (ob 8 ([vr (some w2), vr (some g2), vi n2, vi r2].set 2 (vi (nI n)))) = h1 at f1 e1 e2 e3 ⊢
  refine copyW_l (ht.fr f1 hd2) e1 hn hd ⟨fun q => hd2.1 (Or.inr q), fun q => hd2.2.1 (Or.inr q), fun q => hd2.2.2 (Or.inr q)⟩ (fun h' W' G' f2 w1 w3 w4 => ?_) FU 0 h1 W2 G2 (by omega) (by unfold FU; omega) (Fr.rf _ _) e2 e3 (fun i hi => by omega)
  refine q h' W' (fun k => toN (G' k)) (f1.tr (f2.mono (fun y => Or.inr))) ⟨f2.at e1 (no2 d1 d2), w1, ?_⟩ (fun k hk => ⟨(w4 k hk).1, by rw [nI_toN]; exact (w4 k hk).2⟩)
  rw [w3, ← row_nat G']
theorem copyS_l {h : Hp} {t w g n t2 w2 g2 : Nat} {r r2 p : Int32} {W : Nat → Int32} {gn : Nat → Nat} (ht : Trn h t w g n r W (fun k => nI (gn k))) (h2 : h.1 t2 = some (ob 8 [vr (some w2), vr (some g2), vi (nI n), vi r2])) (hn : n ≤ 8) (hd : t2 ≠ w2 ∧ t2 ≠ g2 ∧ w2 ≠ g2) (hd2 : ¬ (t = w2 ∨ t = g2) ∧ ¬ (w = w2 ∨ w = g2) ∧ ¬ (g = w2 ∨ g = g2)) {Q : Unit → Hp → Prop}
    (q : ∀ (h' : Hp) (W' G' : Nat → Int32), Fr (fun y => y = w2 ∨ y = g2) h h' → h'.1 w2 = some (ai 0 (arI 8 W')) → h'.1 g2 = some (ai 0 (arI 8 G')) → (∀ k, k < n → W' k = W k ∧ G' k = if k = 0 then 0 else nI (gn k) + p) → Q () h') : ∀ (f k : Nat) (h' : Hp) (W' G' : Nat → Int32), k ≤ n → n < k + f → Fr (fun y => y = w2 ∨ y = g2) h h' → h'.1 w2 = some (ai 0 (arI 8 W')) → h'.1 g2 = some (ai 0 (arI 8 G')) → (∀ i, i < k → W' i = W i ∧ G' i = if i = 0 then 0 else nI (gn i) + p) →
    WP (fX8_copySpread_10 f t2 (some t) p (nI k)) h' Q
  | 0, k, h', W', G', a1, a2, a3, a4, a5, a6 => by omega
  | f + 1, k, h', W', G', a1, a2, a3, a4, a5, a6 => by
    obtain ⟨d1, d2, d3⟩ := hd
    have ht' := ht.fr a3 hd2
    have ht2 := a3.at h2 (no2 d1 d2)
    show WP (bX8_copySpread_10 (fX8_copySpread_10 f) t2 (some t) p (nI k)) h' Q
    unfold bX8_copySpread_10
    refine wp_gI (k := 2) ht2 rfl ?_
    by_cases hk : n ≤ k
    · have e : k = n := by omega
      subst e
      rw [if_pos (nI_le hk (by omega))]
      exact wp_rn (q h' W' G' a3 a4 a5 a6)
    · rw [if_neg (nI_ge (by omega) (by omega))]
      refine wp_gA (k := 1) ht2 rfl ?_
      have key : ∀ v : Int32, v = (if k = 0 then 0 else nI (gn k) + p) → WP (bX8_copySpread_39 (fX8_copySpread_10 f) t2 (some t) p (nI k) (some g2) (nI k) v) h' Q := by
        intro v hv
        unfold bX8_copySpread_39
        refine wp_stI a5 rfl (by omega) (by omega) ?_
        have b3 := a3.put (ai 0 (arI 8 fun y => if y = k then v else G' y)) (x := g2) (Or.inr rfl)
        have b4 : (up h' g2 (ai 0 (arI 8 fun y => if y = k then v else G' y))).1 w2 = some (ai 0 (arI 8 W')) := by rw [up_n d3]; exact a4
        have b5 : (up h' g2 (ai 0 (arI 8 fun y => if y = k then v else G' y))).1 g2 = some (ai 0 (arI 8 fun y => if y = k then v else G' y)) := up_s _ _ _
        generalize up h' g2 (ai 0 (arI 8 fun y => if y = k then v else G' y)) = h1 at b3 b4 b5 ⊢
        have ht1 := ht.fr b3 hd2
        refine wp_gA (k := 0) (b3.at h2 (no2 d1 d2)) rfl ?_
        refine wp_gA (k := 0) ht1.1 rfl ?_
        refine wp_ldI ht1.2.1 rfl (by omega) (by omega) ?_
        refine wp_stI b4 rfl (by omega) (by omega) ?_
        rw [nI_1]
        refine copyS_l ht h2 hn ⟨d1, d2, d3⟩ hd2 q f (k + 1) _ _ _ (by omega) (by omega) (b3.put _ (Or.inl rfl)) (up_s _ _ _) (by rw [up_n d3.symm]; exact b5) (fun i hi => ?_)
        by_cases e : i = k
        · subst e
          simp [hv]
        · simp [e, a6 i (by omega)]
      by_cases h0 : k = 0
      · subst h0
        rw [if_pos (by rfl)]
        exact key 0 rfl
      · rw [if_neg (nI_ne0 (by omega) (by omega))]
        refine wp_gA (k := 1) ht'.1 rfl ?_
        refine wp_ldI ht'.2.2 rfl (by omega) (by omega) ?_
        exact key _ (by rw [if_neg h0])
theorem copySpread_w {h : Hp} {t w g n t2 w2 g2 : Nat} {r r2 p n2 : Int32} {W W2 G2 : Nat → Int32} {gn : Nat → Nat} (ht : Trn h t w g n r W (fun k => nI (gn k))) (h2 : h.1 t2 = some (ob 8 [vr (some w2), vr (some g2), vi n2, vi r2])) (h3 : h.1 w2 = some (ai 0 (arI 8 W2))) (h4 : h.1 g2 = some (ai 0 (arI 8 G2))) (hn : n ≤ 8) (hd : t2 ≠ w2 ∧ t2 ≠ g2 ∧ w2 ≠ g2) (hd2 : ¬ (t = t2 ∨ t = w2 ∨ t = g2) ∧ ¬ (w = t2 ∨ w = w2 ∨ w = g2) ∧ ¬ (g = t2 ∨ g = w2 ∨ g = g2)) {Q : Unit → Hp → Prop}
    (q : ∀ (h' : Hp) (W' : Nat → Int32) (gn' : Nat → Nat), Fr (fun y => y = t2 ∨ y = w2 ∨ y = g2) h h' → Trn h' t2 w2 g2 n r2 W' (fun k => nI (gn' k)) → (∀ k, k < n → W' k = W k ∧ nI (gn' k) = if k = 0 then 0 else nI (gn k) + p) → Q () h') : WP (pX8_copySpread t2 (some t) p) h Q := by
  obtain ⟨d1, d2, d3⟩ := id hd
  unfold pX8_copySpread
  refine wp_gI (k := 2) ht.1 rfl ?_
  refine wp_pF (k := 2) h2 (by simp) ?_
  have f1 : Fr (fun y => y = t2 ∨ y = w2 ∨ y = g2) h (up h t2 (ob 8 ([vr (some w2), vr (some g2), vi n2, vi r2].set 2 (vi (nI n))))) := (Fr.rf _ h).put _ (Or.inl rfl)
  have e1 : (up h t2 (ob 8 ([vr (some w2), vr (some g2), vi n2, vi r2].set 2 (vi (nI n))))).1 t2 = some (ob 8 [vr (some w2), vr (some g2), vi (nI n), vi r2]) := up_s _ _ _
  have e2 : (up h t2 (ob 8 ([vr (some w2), vr (some g2), vi n2, vi r2].set 2 (vi (nI n))))).1 w2 = some (ai 0 (arI 8 W2)) := by rw [up_n d1.symm]; exact h3
  have e3 : (up h t2 (ob 8 ([vr (some w2), vr (some g2), vi n2, vi r2].set 2 (vi (nI n))))).1 g2 = some (ai 0 (arI 8 G2)) := by rw [up_n d2.symm]; exact h4
  generalize up h t2 (ob 8 ([vr (some w2), vr (some g2), vi n2, vi r2].set 2 (vi (nI n)))) = h1 at f1 e1 e2 e3 ⊢
  refine copyS_l (ht.fr f1 hd2) e1 hn hd ⟨fun q => hd2.1 (Or.inr q), fun q => hd2.2.1 (Or.inr q), fun q => hd2.2.2 (Or.inr q)⟩ (fun h' W' G' f2 w1 w3 w4 => ?_) FU 0 h1 W2 G2 (by omega) (by unfold FU; omega) (Fr.rf _ _) e2 e3 (fun i hi => by omega)
  refine q h' W' (fun k => toN (G' k)) (f1.tr (f2.mono (fun y => Or.inr))) ⟨f2.at e1 (no2 d1 d2), w1, ?_⟩ (fun k hk => ⟨(w4 k hk).1, by rw [nI_toN]; exact (w4 k hk).2⟩)
  rw [w3, ← row_nat G']
