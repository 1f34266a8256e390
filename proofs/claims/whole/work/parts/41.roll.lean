/-! Sweep.roll: the effects at all times of one way. -/
theorem fill_l {h : Hp} {a n T : Nat} {v : Int64} {F : Nat → Int64} (he : h.1 a = some (al (arL n F))) (hT : T ≤ n) (hn : n < 2 ^ 30) : ∀ (f j : Nat) (h' : Hp), j ≤ T → T < j + f → Fr (fun x => x = a) h h' → h'.1 a = some (al (arL n (fun y => if y < j then v else F y))) →
    WP (fJ7_fill_bad5a_10 f (some a) (nI T) v (nI j)) h' (fun _ h2 => Fr (fun x => x = a) h h2 ∧ h2.1 a = some (al (arL n (fun y => if y < T then v else F y))))
  | 0, j, h', h1, h2, h3, h4 => by omega
  | f + 1, j, h', h1, h2, h3, h4 => by
    show WP (bJ7_fill_bad5a_10 (fJ7_fill_bad5a_10 f) (some a) (nI T) v (nI j)) h' _
    unfold bJ7_fill_bad5a_10
    by_cases hj : T ≤ j
    · have e : j = T := by omega
      subst e
      rw [if_pos (nI_le hj (by omega))]
      exact wp_rn ⟨h3, h4⟩
    · rw [if_neg (nI_ge (by omega) (by omega))]
      refine wp_stL h4 rfl (by omega) (by omega) ?_
      rw [nI_1]
      refine fill_l he hT hn f (j + 1) _ (by omega) (by omega) (h3.put _ rfl) ?_
      rw [up_s]
      congr 2
      refine arL_c (fun y hy => ?_)
      by_cases e1 : y = j
      · simp [e1]
      · by_cases e2 : y < j
        · simp [e1, e2, show y < j + 1 by omega]
        · simp [e1, e2, show ¬ y < j + 1 by omega]
theorem fill_w {h : Hp} {a n T : Nat} {v : Int64} {F : Nat → Int64} (he : h.1 a = some (al (arL n F))) (hT : T ≤ n) (hn : n < 2 ^ 20) {Q : Unit → Hp → Prop} (q : ∀ h2, Fr (fun x => x = a) h h2 → h2.1 a = some (al (arL n (fun y => if y < T then v else F y))) → Q () h2) : WP (pJ7_fill_bad5a (some a) 0 (nI T) v) h Q := by
  unfold pJ7_fill_bad5a
  refine wp_alnL he ?_
  refine wp_e (r := ()) (h' := h) (by
    unfold pJ7_rangeCheck_23922
    rw [if_pos (show (0 : Int32) ≤ nI T from nI_pos' (by omega)), if_pos (by decide), if_pos (nI_le hT (by omega))]
    rfl) ?_
  exact wp_mono (fill_l he hT (by omega) FU 0 h (by omega) (by unfold FU; omega) (Fr.rf _ h) (by simpa using he)) (fun _ h2 hh => q h2 hh.1 hh.2)
theorem addAxle_l {h : Hp} {s e l u L T bh : Nat} {lo w : Int64} {lf F : Nat → Int64} (hl : Lin h l u L lo lf) (hs : Swp h s e (nI T) F) (hL : L ≤ 60) (hT : T ≤ 341) (hb : bh + L < T) (hd : s ≠ e ∧ l ≠ e ∧ u ≠ e) : ∀ (f a : Nat) (h' : Hp), a ≤ L + 1 → L + 1 < a + f → Fr (fun x => x = e) h h' → h'.1 e = some (al (arL 341 (fun y => if bh ≤ y ∧ y < bh + a then F y + w * lf (y - bh) else F y))) →
    WP (fX7_addAxle_3 f s (some l) w (nI bh) (nI a)) h' (fun _ h2 => Fr (fun x => x = e) h h2 ∧ h2.1 e = some (al (arL 341 (fun y => if bh ≤ y ∧ y < bh + (L + 1) then F y + w * lf (y - bh) else F y))))
  | 0, a, h', h1, h2, h3, h4 => by omega
  | f + 1, a, h', h1, h2, h3, h4 => by
    obtain ⟨d1, d2, d3⟩ := hd
    have l1 := h3.at hl.1 d2
    have l2 := h3.at hl.2 d3
    have s1 := h3.at hs.1 d1
    show WP (bX7_addAxle_3 (fX7_addAxle_3 f) s (some l) w (nI bh) (nI a)) h' _
    unfold bX7_addAxle_3
    refine wp_gI (k := 2) l1 rfl ?_
    by_cases ha : L < a
    · have ea : a = L + 1 := by omega
      subst ea
      rw [if_pos (nI_lt ha (by omega))]
      exact wp_rn ⟨h3, h4⟩
    · rw [if_neg (nI_nlt (by omega) (by omega))]
      refine wp_gI (k := 1) s1 rfl ?_
      rw [nI_add, if_neg (nI_ge (by omega) (by omega))]
      refine wp_gA (k := 0) s1 rfl ?_
      refine wp_ldL h4 rfl (by omega) (by omega) ?_
      refine wp_gA (k := 0) l1 rfl ?_
      refine wp_ldL l2 rfl (by omega) (by omega) ?_
      refine wp_stL h4 rfl (by omega) (by omega) ?_
      rw [nI_1]
      refine addAxle_l hl hs hL hT hb ⟨d1, d2, d3⟩ f (a + 1) _ (by omega) (by omega) (h3.put _ rfl) ?_
      rw [up_s]
      congr 2
      refine arL_c (fun y hy => ?_)
      by_cases e1 : y = bh + a
      · subst e1
        simp
      · by_cases e2 : bh ≤ y ∧ y < bh + a
        · simp [e1, e2, show bh ≤ y ∧ y < bh + (a + 1) by omega]
        · simp [e1, e2, show ¬ (bh ≤ y ∧ y < bh + (a + 1)) by omega]
/-- the effect at a time j: what the first k axles bring -/
def cS (L : Nat) (W : Nat → Int32) (lf : Nat → Int64) (bh : Nat → Nat) (j : Nat) : Nat → Int64
  | 0 => 0
  | k + 1 => cS L W lf bh j k + (if bh k ≤ j ∧ j < bh k + (L + 1) then (W k).toInt64 * lf (j - bh k) else 0)
/-- how far axle k is behind the first: by way -/
def bhW (gn : Nat → Nat) (n : Nat) (way : Int32) (k : Nat) : Nat := if way = 0 then bhN gn (k + 1) else bhN gn n - bhN gn (k + 1)
theorem bhN_mono (gn : Nat → Nat) : ∀ {a b : Nat}, a ≤ b → bhN gn a ≤ bhN gn b := by
  intro a b h
  induction b with
  | zero => have e : a = 0 := by omega
            subst e; exact Nat.le_refl _
  | succ b ih =>
    by_cases e : a = b + 1
    · subst e; exact Nat.le_refl _
    · exact Nat.le_trans (ih (by omega)) (Nat.le_add_right _ _)
theorem bhW_le {gn : Nat → Nat} {n k : Nat} (way : Int32) (hk : k < n) : bhW gn n way k ≤ bhN gn n := by
  unfold bhW
  split
  · exact bhN_mono gn (by omega)
  · omega
theorem roll_l {h : Hp} {s e l u t w g L n T : Nat} {lo : Int64} {way r : Int32} {lf : Nat → Int64} {W : Nat → Int32} {gn : Nat → Nat} (hl : Lin h l u L lo lf) (ht : Trn h t w g n r W (fun k => nI (gn k))) (hL : L ≤ 60) (hn : n ≤ 8) (hT : T = L + bhN gn n + 1) (hT3 : T ≤ 341) (hs : h.1 s = some (ob 7 [vr (some e), vi (nI T)])) (hd : s ≠ e ∧ l ≠ e ∧ u ≠ e ∧ t ≠ e ∧ w ≠ e ∧ g ≠ e) (F0 : Nat → Int64) : ∀ (f k : Nat) (h' : Hp) (F : Nat → Int64), k ≤ n → n < k + f → Fr (fun x => x = e) h h' → h'.1 e = some (al (arL 341 F)) → (∀ y, y < T → F y = cS L W lf (bhW gn n way) y k) →
    WP (fX7_roll_44 f s (some l) (some t) way (nI (bhN gn n)) (nI (bhN gn k)) (nI k)) h' (fun _ h2 => ∃ F2, Fr (fun x => x = e) h h2 ∧ h2.1 e = some (al (arL 341 F2)) ∧ (∀ y, y < T → F2 y = cS L W lf (bhW gn n way) y n))
  | 0, k, h', F, h1, h2, h3, h4, h5 => by omega
  | f + 1, k, h', F, h1, h2, h3, h4, h5 => by
    obtain ⟨d1, d2, d3, d4, d5, d6⟩ := id hd
    have t1 := h3.at ht.1 d4
    have t2 := h3.at ht.2.1 d5
    have t3 := h3.at ht.2.2 d6
    show WP (bX7_roll_44 (fX7_roll_44 f) s (some l) (some t) way (nI (bhN gn n)) (nI (bhN gn k)) (nI k)) h' _
    unfold bX7_roll_44
    refine wp_gI (k := 2) t1 rfl ?_
    by_cases hk : n ≤ k
    · have ek : k = n := by omega
      subst ek
      rw [if_pos (nI_le hk (by omega))]
      exact wp_rn ⟨F, h3, h4, h5⟩
    · rw [if_neg (nI_ge (by omega) (by omega))]
      refine wp_gA (k := 1) t1 rfl ?_
      refine wp_ldI t3 rfl (by omega) (by omega) ?_
      refine wp_gA (k := 0) t1 rfl ?_
      refine wp_ldI t2 rfl (by omega) (by omega) ?_
      rw [nI_add, show bhN gn k + gn k = bhN gn (k + 1) from rfl]
      have hm := bhN_mono gn (a := k + 1) (b := n) (by omega)
      have key : ∀ z : Nat, z = bhW gn n way k → WP (bX7_roll_89 (fX7_roll_44 f) s (some l) (some t) way (nI (bhN gn n)) (nI (bhN gn (k + 1))) (nI k) (some s) (some l) ((W k).toInt64) (nI z)) h' (fun _ h2 => ∃ F2, Fr (fun x => x = e) h h2 ∧ h2.1 e = some (al (arL 341 F2)) ∧ (∀ y, y < T → F2 y = cS L W lf (bhW gn n way) y n)) := by
        intro z hz
        have hz2 := bhW_le (gn := gn) way (show k < n by omega)
        rw [← hz] at hz2
        unfold bX7_roll_89
        refine wp_bd (wp_vc (h3.at hs d1) ?_)
        unfold pX7_addAxle
        refine wp_mono (addAxle_l (T := T) (w := (W k).toInt64) (bh := z) (hl.fr h3 ⟨d2, d3⟩) ⟨h3.at hs d1, h4⟩ hL hT3 (by omega) ⟨d1, d2, d3⟩ FU 0 h' (by omega) (by unfold FU; omega) (Fr.rf _ _) (by
          rw [h4]
          congr 2
          refine arL_c (fun y hy => ?_)
          rw [if_neg (by omega)])) (fun _ h2 hh => ?_)
        rw [nI_1]
        refine roll_l hl ht hL hn hT hT3 hs hd F0 f (k + 1) h2 _ (by omega) (by omega) (h3.tr hh.1) hh.2 (fun y hy => ?_)
        rw [cS, ← hz, ← h5 y hy]
        split
        · rfl
        · rw [Int64.add_zero]
      by_cases hw : way = 0
      · rw [if_pos hw]
        exact key _ (by rw [bhW, if_pos hw])
      · rw [if_neg hw, pk_sub hm]
        exact key _ (by rw [bhW, if_neg hw])
theorem roll_w {h : Hp} {s e l u t w g L n : Nat} {lo : Int64} {way r T0 : Int32} {lf F0 : Nat → Int64} {W : Nat → Int32} {gn : Nat → Nat} (hl : Lin h l u L lo lf) (ht : Trn h t w g n r W (fun k => nI (gn k))) (hs : Swp h s e T0 F0) (hL : L ≤ 60) (hn : n ≤ 8) (hT3 : bhN gn n ≤ 280) (hd : s ≠ e ∧ l ≠ e ∧ u ≠ e ∧ t ≠ e ∧ w ≠ e ∧ g ≠ e ∧ l ≠ s ∧ u ≠ s ∧ t ≠ s ∧ w ≠ s ∧ g ≠ s) {Q : Unit → Hp → Prop}
    (q : ∀ h2 F2, Fr (fun x => x = s ∨ x = e) h h2 → Swp h2 s e (nI (L + bhN gn n + 1)) F2 → (∀ y, y < L + bhN gn n + 1 → F2 y = cS L W lf (bhW gn n way) y n) → Q () h2) : WP (pX7_roll s (some l) (some t) way) h Q := by
  obtain ⟨d1, d2, d3, d4, d5, d6, d7, d8, d9, d10, d11⟩ := hd
  unfold pX7_roll
  refine wp_e (by rw [vc_e ht.1]; exact allGaps_w ht hn) ?_
  refine wp_gI (k := 2) hl.1 rfl ?_
  rw [nI_add, nI_1, show mnI (nI (L + bhN gn n + 1)) 341 = nI (L + bhN gn n + 1) from by
    rw [mnI, if_neg (show ¬ (341 : Int32) < nI (L + bhN gn n + 1) from nI_nlt (a := 341) (by omega) (by omega))]]
  refine wp_pF (k := 1) hs.1 (by simp) ?_
  have f1 : Fr (fun x => x = s ∨ x = e) h (up h s (ob 7 ([vr (some e), vi T0].set 1 (vi (nI (L + bhN gn n + 1)))))) := (Fr.rf _ h).put _ (Or.inl rfl)
  have e1 : (up h s (ob 7 ([vr (some e), vi T0].set 1 (vi (nI (L + bhN gn n + 1)))))).1 s = some (ob 7 [vr (some e), vi (nI (L + bhN gn n + 1))]) := up_s _ _ _
  have e2 : (up h s (ob 7 ([vr (some e), vi T0].set 1 (vi (nI (L + bhN gn n + 1)))))).1 e = some (al (arL 341 F0)) := by rw [up_n (fun x => d1 x.symm)]; exact hs.2
  generalize up h s (ob 7 ([vr (some e), vi T0].set 1 (vi (nI (L + bhN gn n + 1))))) = h1 at f1 e1 e2 ⊢
  have f0 : Fr (fun x => x = s) h h1 → True := fun _ => trivial
  have hl1 : Lin h1 l u L lo lf := hl.fr f1 (by omega)
  have ht1 : Trn h1 t w g n r W (fun k => nI (gn k)) := ht.fr f1 (by omega)
  refine wp_gA (k := 0) e1 rfl ?_
  refine wp_gI (k := 1) e1 rfl ?_
  refine wp_bd (fill_w e2 (by omega) (by omega) (fun h2 f2 e3 => ?_))
  have hl2 : Lin h2 l u L lo lf := hl1.fr f2 ⟨d2, d3⟩
  have ht2 : Trn h2 t w g n r W (fun k => nI (gn k)) := ht1.fr f2 ⟨d4, d5, d6⟩
  have es := f2.at e1 d1
  refine wp_mono (roll_l hl2 ht2 hL hn rfl (by omega) es ⟨d1, d2, d3, d4, d5, d6⟩ F0 FU 0 h2 _ (by omega) (by unfold FU; omega) (Fr.rf _ _) e3 (fun y hy => by rw [if_pos hy]; rfl)) (fun _ h3 hh => ?_)
  obtain ⟨F2, f3, e4, e5⟩ := hh
  exact q h3 F2 (f1.tr ((f2.tr f3).mono (fun x hx => Or.inr hx))) ⟨f3.at es d1, e4⟩ e5
