/-! bridge. -/
theorem abL_o {z : Int} (hz : z.natAbs < 2 ^ 63) : abL (oL z) = oL (z.natAbs : Int) := by
  unfold abL
  by_cases c : 0 < oL z
  · rw [if_pos c]
    rw [Int64.lt_iff_toInt_lt, oL_toInt hz, Int64.toInt_zero] at c
    congr 1
    omega
  · rw [if_neg c]
    rw [Int64.lt_iff_toInt_lt, oL_toInt hz, Int64.toInt_zero] at c
    unfold oL
    rw [← Int64.ofInt_neg]
    congr 1
    omega
/-- the solver holds what was solved -/
def SlvF (h : Hp) (s n w : Nat) (D : Nat → Nat → Int) : Prop := ∃ ρ F pr A, FiB n D pr A ∧ Slv h s n w ρ F ∧ ∀ i j, i < n → j < w → F i j = oL (A i j)
theorem SlvF.ag {h h' : Hp} {s n w : Nat} {D : Nat → Nat → Int} (x : SlvF h s n w D) (e : ∀ a, s ≤ a → a < s + 7 → h'.1 a = h.1 a) : SlvF h' s n w D := by
  obtain ⟨ρ, F, pr, A, f, ⟨a, b, c, d, e'⟩, g⟩ := x
  refine ⟨ρ, F, pr, A, f, ⟨(e s (by omega) (by omega)).trans a, (e (s + 1) (by omega) (by omega)).trans b, c, d, fun i hi => ?_⟩, g⟩
  have := c i hi
  exact (e (ρ i) (by omega) (by omega)).trans (e' i hi)
theorem SlvF.lo {h : Hp} {s n w : Nat} {D : Nat → Nat → Int} (x : SlvF h s n w D) (hn : 2 ≤ n ∧ n ≤ 5) (hw : n ≤ w) (hD : DB n D) : pX6_lower s h = some (oL (lwT n D), h) := by
  obtain ⟨ρ, F, pr, A, f, sl, g⟩ := x
  obtain ⟨f0, f1, t, t1, f2, f3⟩ := f
  have pb := PRd_b hn hD
  rw [lower_e sl, g 0 0 (by omega) (by omega), f1 0 (by omega), f2, abL_o (by rw [sg_abs t1]; omega), sg_abs t1]
  rfl
theorem SlvF.up {h : Hp} {s n w i a : Nat} {D : Nat → Nat → Int} (x : SlvF h s n w D) (hn : 2 ≤ n ∧ n ≤ 5) (hw : w ≤ 66) (hD : DB n D) (hi : i < n) (ha : n + a < w) : pX6_upper s (nI i) (nI a) h = some (oL (rcT n D i (n + a)), h) := by
  obtain ⟨ρ, F, pr, A, f, sl, g⟩ := x
  obtain ⟨f0, f1, t, t1, f2, f3⟩ := f
  have pb := PRd_b hn hD
  rw [upper_e sl (by omega) (by omega), g 0 0 (by omega) (by omega), f1 0 (by omega), g i (n + a) hi ha, f3 i _ hi]
  have pz : pr.natAbs < 2 ^ 63 := by rw [f2, sg_abs t1]; omega
  congr 2
  unfold rcT
  by_cases c : 0 ≤ pr
  · rw [if_pos ((oL_le0 pz).mpr c)]
    congr 1
    rcases t1 with rfl | rfl
    · rw [if_neg (by omega)]; omega
    · rw [if_pos (by omega)]; omega
  · rw [if_neg (fun q => c ((oL_le0 pz).mp q))]
    unfold oL
    rw [← Int64.ofInt_neg]
    congr 1
    rcases t1 with rfl | rfl
    · rw [if_pos (by omega)]; omega
    · rw [if_neg (by omega)]; omega
theorem fill1_l {h : Hp} {s n w L o i : Nat} {D : Nat → Nat → Int} {t : Nat} {fs : List TV} {k78 : Nat → Int32 → Option Nat → Option Nat → Int32 → Mo Unit} {sup : Option Nat} {Q : Unit → Hp → Prop} (hn : 2 ≤ n ∧ n ≤ 5) (hL : L ≤ 60) (hw : w = n + L + 1) (hD : DB n D) (hi : i < n) (e1 : h.1 t = some (ob 0 fs)) (e2 : fs[4]? = some (vr (some o))) (e3 : h.1 o = some (aq 6 (arQ n fun i => some (o + 1 + i)))) (sl : SlvF h s n w D) (dt : t < o) (ds : s + 7 ≤ o) {F0 : Nat → Int64} (q : ∀ h2 F2, Fr (fun y => y = o + 1 + i) h h2 → h2.1 (o + 1 + i) = some (al (arL (L + 1) F2)) → (∀ a, a ≤ L → F2 a = oL (rcT n D i (n + a))) → WP (k78 t (nI L) sup (some s) (nI (i + 1))) h2 Q) : ∀ (f a : Nat) (h' : Hp) (F : Nat → Int64), a ≤ L + 1 → L + 1 < a + f → Fr (fun y => y = o + 1 + i) h h' → h'.1 (o + 1 + i) = some (al (arL (L + 1) F)) → (∀ b, b < a → F b = oL (rcT n D i (n + b))) → WP (fX0_init_88 k78 f t (nI L) sup (some s) (nI i) (nI a)) h' Q
  | 0, a, h', F, h1, h2, h3, h4, h5 => by omega
  | f + 1, a, h', F, h1, h2, h3, h4, h5 => by
    show WP (bX0_init_88 k78 (fX0_init_88 k78 f) t (nI L) sup (some s) (nI i) (nI a)) h' Q
    unfold bX0_init_88
    have s1 := h3.at e1 (show ¬ t = o + 1 + i by omega)
    have s3 := h3.at e3 (show ¬ o = o + 1 + i by omega)
    have sl' := sl.ag (h' := h') (fun b b1 b2 => h3.2 b (by omega))
    by_cases ha : L < a
    · rw [if_pos (nI_lt ha (by omega)), nI_1]
      exact q h' F h3 h4 (fun b hb => h5 b (by omega))
    · rw [if_neg (nI_nlt (by omega) (by omega))]
      refine wp_gA s1 e2 ?_
      refine wp_ldQ s3 rfl hi (by omega) ?_
      obtain ⟨ρ, F', pr, A, ff, ss, gg⟩ := id sl'
      refine wp_e (by rw [vc_e ss.1]; exact sl'.up hn (by omega) hD hi (by omega)) ?_
      refine wp_stL h4 rfl (by omega) (by omega) ?_
      rw [nI_1]
      refine fill1_l hn hL hw hD hi e1 e2 e3 sl dt ds (F0 := F0) q f (a + 1) _ _ (by omega) (by omega) (h3.put _ rfl) (up_s _ _ _) (fun b hb => ?_)
      by_cases c : b = a
      · subst c; simp
      · rw [if_neg c]; exact h5 b (by omega)
theorem fill_bl {h : Hp} {s n w L o β : Nat} {D : Nat → Nat → Int} {t : Nat} {fs : List TV} {G : Nat → Int32} {Q : Unit → Hp → Prop} (hn : 2 ≤ n ∧ n ≤ 5) (hL : L ≤ 60) (hw : w = n + L + 1) (hD : DB n D) (e1 : h.1 t = some (ob 0 fs)) (e2 : fs[4]? = some (vr (some o))) (e3 : h.1 o = some (aq 6 (arQ n fun i => some (o + 1 + i)))) (e4 : h.1 β = some (ai 0 (arI n G))) (sl : SlvF h s n w D) (dt : t < o) (ds : s + 7 ≤ o) (db : β < o) (q : ∀ h2 (R : Nat → Nat → Int64), Fr (fun y => o < y ∧ y < o + 1 + n) h h2 → (∀ i, i < n → h2.1 (o + 1 + i) = some (al (arL (L + 1) (R i))) ∧ ∀ a, a ≤ L → R i a = oL (rcT n D i (n + a))) → Q () h2) : ∀ (f i : Nat) (h' : Hp), i ≤ n → n < i + f → Fr (fun y => o < y ∧ y < o + 1 + n) h h' → (∀ j, i ≤ j → j < n → h'.1 (o + 1 + j) = some (al (arL (L + 1) fun _ => 0))) → (∃ R : Nat → Nat → Int64, ∀ j, j < i → h'.1 (o + 1 + j) = some (al (arL (L + 1) (R j))) ∧ ∀ a, a ≤ L → R j a = oL (rcT n D j (n + a))) → WP (fX0_init_78 f t (nI L) (some β) (some s) (nI i)) h' Q
  | 0, i, h', h1, h2, h3, h4, h5 => by omega
  | f + 1, i, h', h1, h2, h3, h4, h5 => by
    obtain ⟨R, hR⟩ := h5
    show WP (bX0_init_78 (fX0_init_78 f) t (nI L) (some β) (some s) (nI i)) h' Q
    unfold bX0_init_78
    have s4 := h3.at e4 (by omega)
    refine wp_alnI s4 ?_
    by_cases c : n ≤ i
    · have e : i = n := by omega
      subst e
      rw [if_pos (nI_le c (by omega))]
      exact wp_rn (q h' R h3 hR)
    · rw [if_neg (nI_ge (by omega) (by omega))]
      have s1 := h3.at e1 (by omega)
      have s3 := h3.at e3 (by omega)
      have sl' := sl.ag (h' := h') (fun b b1 b2 => h3.2 b (by omega))
      refine fill1_l (F0 := fun _ => 0) hn hL hw hD (by omega) s1 e2 s3 sl' dt ds (fun h9 F9 f9 e9 g9 => ?_) FU 0 h' _ (by omega) (by unfold FU; omega) (Fr.rf _ _) (h4 i (by omega) (by omega)) (fun b hb => by omega)
      refine fill_bl hn hL hw hD e1 e2 e3 e4 sl dt ds db q f (i + 1) h9 (by omega) (by omega) (h3.tr (f9.mono (fun y hy => by omega))) (fun j j1 j2 => (f9.2 _ (by omega)).trans (h4 j (by omega) j2)) ⟨fun j => if j = i then F9 else R j, fun j hj => ?_⟩
      by_cases q2 : j = i
      · subst q2; simp only [if_true]; exact ⟨e9, g9⟩
      · simp only [if_neg q2]
        obtain ⟨r1, r2⟩ := hR j (by omega)
        exact ⟨(f9.2 _ (by omega)).trans r1, r2⟩
theorem nwQ_e {h : Hp} {t n : Nat} (hn : n ≤ 1000) : nwQ t (nI n) h = some (some h.2.1, mk h (aq t (arQ n fun _ => none)) n) := by
  unfold nwQ
  rw [nI_clamp (by omega), if_neg, rep0Q]
  intro z
  rcases z with z | z
  · exact absurd z (by have := nI_pos' (n := n) (by omega); simpa using this)
  · omega
/-- new long[n][k] -/
theorem nwM_e {h : Hp} {n k : Nat} (hn : n ≤ 1000) (hk : k ≤ 1000) : ∃ h', nwM (nI n) (nI k) h = some (some h.2.1, h') ∧ h'.1 h.2.1 = some (aq 6 (arQ n fun i => some (h.2.1 + 1 + i))) ∧ (∀ i, i < n → h'.1 (h.2.1 + 1 + i) = some (al (arL k fun _ => 0))) ∧ (∀ a, a < h.2.1 → h'.1 a = h.1 a) ∧ h'.2 = (h.2.1 + 1 + n, h.2.2 + n + n * k) := by
  unfold nwM
  rw [nI_clamp (by omega), nI_clamp (by omega), if_neg]
  · refine ⟨_, rfl, ?_, fun i hi => ?_, fun a ha => ?_, ?_⟩
    · simp; rfl
    · simp [show ¬ (h.2.1 + 1 + i = h.2.1) by omega, show h.2.1 < h.2.1 + 1 + i by omega, show h.2.1 + 1 + i < h.2.1 + 1 + n by omega, rep0L]
    · simp [show ¬ (a = h.2.1) by omega, show ¬ (h.2.1 < a) by omega]
    · rfl
  · intro z
    rcases z with z | z | z | z
    · exact absurd z (by have := nI_pos' (n := n) (by omega); simpa using this)
    · exact absurd z (by have := nI_pos' (n := k) (by omega); simpa using this)
    · omega
    · omega
/-- new Bridge: the object at T + 2, its parts behind it -/
theorem bridge_new {h : Hp} {s L n nh T w : Nat} {D : Nat → Nat → Int} {G : Nat → Int32} {R' : Type} {K : Mo R'} {Q : R' → Hp → Prop} (hT : h.2.1 = T + 2) (hn : 2 ≤ n ∧ n ≤ 5) (hL : L ≤ 60) (hw : w = n + L + 1) (hD : DB n D) (e4 : h.1 T = some (ai 0 (arI n G))) (sl : SlvF h s n w D) (ds : s + 7 ≤ T)
    (q : ∀ h2 (R : Nat → Nat → Int64), (∀ a, a < T + 2 → h2.1 a = h.1 a) → h2.1 (T + 2) = some (ob 0 [vi (nI L), vr (some T), vi (nI nh), vl (oL (lwT n D)), vr (some (T + 5)), vr (some (T + 3)), vr (some (T + 4)), vi 0]) → h2.1 (T + 3) = some (ai 0 (arI 3 fun y => if y = 0 then 30 else if y = 1 then 1 else 50)) → h2.1 (T + 4) = some (aq 4 (arQ 5 fun _ => none)) → h2.1 (T + 5) = some (aq 6 (arQ n fun i => some (T + 6 + i))) → (∀ i, i < n → h2.1 (T + 6 + i) = some (al (arL (L + 1) (R i))) ∧ ∀ a, a ≤ L → R i a = oL (rcT n D i (n + a))) → h2.2 = (T + 6 + n, h.2.2 + 8 + 3 + 5 + n + n * (L + 1)) → WP K h2 Q) : WP (bd (nwO 0 [vi 0, vr none, vi 0, vl 0, vr none, vr none, vr none, vi 0]) fun x67 => bd (vn x67 (fun o => pX0_init o (nI L) (some T) (nI nh) (some s))) fun _ => K) h Q := by
  refine wp_nwO ?_
  refine wp_vn ?_
  refine wp_bd ?_
  unfold pX0_init
  rw [hT]
  refine wp_vn ?_
  refine wp_e rfl ?_
  refine wp_nwI (n := 3) rfl (by omega) ?_
  have t1 : (mk h (ob 0 [vi 0, vr none, vi 0, vl 0, vr none, vr none, vr none, vi 0]) [vi 0, vr none, vi 0, vl 0, vr none, vr none, vr none, vi 0].length).2.1 = T + 3 := by show h.2.1 + 1 = _; omega
  have c0 : ∀ a, a < T + 2 → (mk (mk h (ob 0 [vi 0, vr none, vi 0, vl 0, vr none, vr none, vr none, vi 0]) [vi 0, vr none, vi 0, vl 0, vr none, vr none, vr none, vi 0].length) (ai 0 (arI 3 fun _ => 0)) 3).1 a = h.1 a := fun a ha => by simp [mk, hT, show a ≠ T + 2 by omega, show a ≠ T + 2 + 1 by omega]
  have c1 : (mk (mk h (ob 0 [vi 0, vr none, vi 0, vl 0, vr none, vr none, vr none, vi 0]) [vi 0, vr none, vi 0, vl 0, vr none, vr none, vr none, vi 0].length) (ai 0 (arI 3 fun _ => 0)) 3).1 (T + 2) = some (ob 0 [vi 0, vr none, vi 0, vl 0, vr none, vr none, vr none, vi 0]) := by simp [mk, hT]
  have c2 : (mk (mk h (ob 0 [vi 0, vr none, vi 0, vl 0, vr none, vr none, vr none, vi 0]) [vi 0, vr none, vi 0, vl 0, vr none, vr none, vr none, vi 0].length) (ai 0 (arI 3 fun _ => 0)) 3).1 (T + 3) = some (ai 0 (arI 3 fun _ => 0)) := by simp [mk, hT]
  have c3 : (mk (mk h (ob 0 [vi 0, vr none, vi 0, vl 0, vr none, vr none, vr none, vi 0]) [vi 0, vr none, vi 0, vl 0, vr none, vr none, vr none, vi 0].length) (ai 0 (arI 3 fun _ => 0)) 3).2 = (T + 4, h.2.2 + 11) := by show (h.2.1 + 1 + 1, h.2.2 + 8 + 3) = _; rw [hT]
  rw [t1]
  generalize mk (mk h (ob 0 [vi 0, vr none, vi 0, vl 0, vr none, vr none, vr none, vi 0]) [vi 0, vr none, vi 0, vl 0, vr none, vr none, vr none, vi 0].length) (ai 0 (arI 3 fun _ => 0)) 3 = h1 at c0 c1 c2 c3 ⊢
  refine wp_stI (j := 0) c2 rfl (by omega) (by omega) ?_
  refine wp_stI (j := 1) (up_s _ _ _) rfl (by omega) (by omega) ?_
  rw [up_up]
  refine wp_stI (j := 2) (up_s _ _ _) rfl (by omega) (by omega) ?_
  rw [up_up]
  refine wp_pF (k := 5) ((up_n (by omega)).trans c1) (by simp) ?_
  have d0 : ∀ a, a < T + 2 → (up (up h1 (T + 3) (ai 0 (arI 3 fun y => if y = 2 then 50 else if y = 1 then 1 else if y = 0 then 30 else 0))) (T + 2) (ob 0 ([vi 0, vr none, vi 0, vl 0, vr none, vr none, vr none, vi 0].set 5 (vr (some (T + 3)))))).1 a = h.1 a := fun a ha => by rw [up_n (by omega), up_n (by omega)]; exact c0 a ha
  have d1 : (up (up h1 (T + 3) (ai 0 (arI 3 fun y => if y = 2 then 50 else if y = 1 then 1 else if y = 0 then 30 else 0))) (T + 2) (ob 0 ([vi 0, vr none, vi 0, vl 0, vr none, vr none, vr none, vi 0].set 5 (vr (some (T + 3)))))).1 (T + 2) = some (ob 0 [vi 0, vr none, vi 0, vl 0, vr none, vr (some (T + 3)), vr none, vi 0]) := up_s _ _ _
  have d2 : (up (up h1 (T + 3) (ai 0 (arI 3 fun y => if y = 2 then 50 else if y = 1 then 1 else if y = 0 then 30 else 0))) (T + 2) (ob 0 ([vi 0, vr none, vi 0, vl 0, vr none, vr none, vr none, vi 0].set 5 (vr (some (T + 3)))))).1 (T + 3) = some (ai 0 (arI 3 fun y => if y = 0 then 30 else if y = 1 then 1 else 50)) := by
    rw [up_n (by omega), up_s]
    congr 2
  have d3 : (up (up h1 (T + 3) (ai 0 (arI 3 fun y => if y = 2 then 50 else if y = 1 then 1 else if y = 0 then 30 else 0))) (T + 2) (ob 0 ([vi 0, vr none, vi 0, vl 0, vr none, vr none, vr none, vi 0].set 5 (vr (some (T + 3)))))).2 = (T + 4, h.2.2 + 11) := c3
  generalize up (up h1 (T + 3) (ai 0 (arI 3 fun y => if y = 2 then 50 else if y = 1 then 1 else if y = 0 then 30 else 0))) (T + 2) (ob 0 ([vi 0, vr none, vi 0, vl 0, vr none, vr none, vr none, vi 0].set 5 (vr (some (T + 3))))) = h2 at d0 d1 d2 d3 ⊢
  have t2 : h2.2.1 = T + 4 := by rw [d3]
  refine wp_e (nwQ_e (n := 5) (by omega)) ?_
  rw [t2]
  have m0 : ∀ a, a ≠ T + 4 → (mk h2 (aq 4 (arQ 5 fun _ => none)) 5).1 a = h2.1 a := fun a ha => by simp [mk, t2, ha]
  have m1 : (mk h2 (aq 4 (arQ 5 fun _ => none)) 5).1 (T + 4) = some (aq 4 (arQ 5 fun _ => none)) := by simp [mk, t2]
  have m2 : (mk h2 (aq 4 (arQ 5 fun _ => none)) 5).2 = (T + 5, h.2.2 + 16) := by show (h2.2.1 + 1, h2.2.2 + 5) = _; rw [d3]
  generalize mk h2 (aq 4 (arQ 5 fun _ => none)) 5 = h3 at m0 m1 m2 ⊢
  have k1 := (m0 (T + 2) (by omega)).trans d1
  refine wp_pF (k := 6) k1 (by simp) ?_
  refine wp_pF (k := 7) (up_s _ _ _) (by simp) ?_
  rw [up_up]
  refine wp_pF (k := 0) (up_s _ _ _) (by simp) ?_
  rw [up_up]
  refine wp_pF (k := 1) (up_s _ _ _) (by simp) ?_
  rw [up_up]
  refine wp_pF (k := 2) (up_s _ _ _) (by simp) ?_
  rw [up_up]
  have fn : ∀ c, Fr (fun y => y = T + 2) h3 (up h3 (T + 2) c) := fun c => (Fr.rf _ h3).put _ rfl
  have old : ∀ c a, a < T + 2 → (up h3 (T + 2) c).1 a = h.1 a := fun c a ha => by rw [up_n (by omega), m0 a (by omega), d0 a ha]
  obtain ⟨ρ, F', pr, A, ff, ss, gg⟩ := id sl
  refine wp_e (by rw [vc_e ((old _ s (by omega)).trans ss.1)]; exact (sl.ag (fun b b1 b2 => old _ b (by omega))).lo hn (by omega) hD) ?_
  refine wp_pF (k := 3) (up_s _ _ _) (by simp) ?_
  rw [up_up]
  refine wp_alnI ((old _ T (by omega)).trans e4) ?_
  rw [nI_1]
  generalize hc : (ob 0 ((((((([vi 0, vr none, vi 0, vl 0, vr none, vr (some (T + 3)), vr none, vi 0].set 6 (vr (some (T + 4)))).set 7 (vi 0)).set 0 (vi (nI L))).set 1 (vr (some T))).set 2 (vi (nI nh))).set 3 (vl (oL (lwT n D)))))) = ct
  have hct : ct = ob 0 [vi (nI L), vr (some T), vi (nI nh), vl (oL (lwT n D)), vr none, vr (some (T + 3)), vr (some (T + 4)), vi 0] := by rw [← hc]; rfl
  have g0 : ∀ a, a < T + 2 → (up h3 (T + 2) ct).1 a = h.1 a := fun a ha => old _ a ha
  have g1 : (up h3 (T + 2) ct).1 (T + 2) = some (ob 0 [vi (nI L), vr (some T), vi (nI nh), vl (oL (lwT n D)), vr none, vr (some (T + 3)), vr (some (T + 4)), vi 0]) := by rw [up_s, hct]
  have g2 : (up h3 (T + 2) ct).1 (T + 3) = some (ai 0 (arI 3 fun y => if y = 0 then 30 else if y = 1 then 1 else 50)) := by rw [up_n (by omega), m0 _ (by omega)]; exact d2
  have g3 : (up h3 (T + 2) ct).1 (T + 4) = some (aq 4 (arQ 5 fun _ => none)) := by rw [up_n (by omega)]; exact m1
  have g4 : (up h3 (T + 2) ct).2 = (T + 5, h.2.2 + 16) := m2
  generalize up h3 (T + 2) ct = h4 at g0 g1 g2 g3 g4 ⊢
  obtain ⟨h5, n1, n2, n3, n4, n5⟩ := nwM_e (h := h4) (n := n) (k := L + 1) (by omega) (by omega)
  have t4 : h4.2.1 = T + 5 := by rw [g4]
  rw [t4] at n1 n2 n3 n4 n5
  refine wp_e n1 ?_
  have k5 := (n4 (T + 2) (by omega)).trans g1
  refine wp_pF (k := 4) k5 (by simp) ?_
  have i0 : ∀ a, a < T + 5 → a ≠ T + 2 → (up h5 (T + 2) (ob 0 ([vi (nI L), vr (some T), vi (nI nh), vl (oL (lwT n D)), vr none, vr (some (T + 3)), vr (some (T + 4)), vi 0].set 4 (vr (some (T + 5)))))).1 a = h4.1 a := fun a ha hne => by rw [up_n hne]; exact n4 a ha
  have i1 : (up h5 (T + 2) (ob 0 ([vi (nI L), vr (some T), vi (nI nh), vl (oL (lwT n D)), vr none, vr (some (T + 3)), vr (some (T + 4)), vi 0].set 4 (vr (some (T + 5)))))).1 (T + 2) = some (ob 0 [vi (nI L), vr (some T), vi (nI nh), vl (oL (lwT n D)), vr (some (T + 5)), vr (some (T + 3)), vr (some (T + 4)), vi 0]) := up_s _ _ _
  have i2 : (up h5 (T + 2) (ob 0 ([vi (nI L), vr (some T), vi (nI nh), vl (oL (lwT n D)), vr none, vr (some (T + 3)), vr (some (T + 4)), vi 0].set 4 (vr (some (T + 5)))))).1 (T + 5) = some (aq 6 (arQ n fun i => some (T + 5 + 1 + i))) := by rw [up_n (by omega)]; exact n2
  have i3 : ∀ i, i < n → (up h5 (T + 2) (ob 0 ([vi (nI L), vr (some T), vi (nI nh), vl (oL (lwT n D)), vr none, vr (some (T + 3)), vr (some (T + 4)), vi 0].set 4 (vr (some (T + 5)))))).1 (T + 5 + 1 + i) = some (al (arL (L + 1) fun _ => 0)) := fun i hi => by rw [up_n (by omega)]; exact n3 i hi
  have i4 : (up h5 (T + 2) (ob 0 ([vi (nI L), vr (some T), vi (nI nh), vl (oL (lwT n D)), vr none, vr (some (T + 3)), vr (some (T + 4)), vi 0].set 4 (vr (some (T + 5)))))).2 = (T + 5 + 1 + n, h.2.2 + 16 + n + n * (L + 1)) := by show h5.2 = _; rw [n5, g4]
  generalize up h5 (T + 2) (ob 0 ([vi (nI L), vr (some T), vi (nI nh), vl (oL (lwT n D)), vr none, vr (some (T + 3)), vr (some (T + 4)), vi 0].set 4 (vr (some (T + 5))))) = h6 at i0 i1 i2 i3 i4 ⊢
  refine fill_bl (β := T) (t := T + 2) (o := T + 5) hn hL hw hD i1 rfl i2 ((i0 T (by omega) (by omega)).trans ((g0 T (by omega)).trans e4)) (sl.ag (fun b b1 b2 => (i0 b (by omega) (by omega)).trans (g0 b (by omega)))) (by omega) (by omega) (by omega) (fun h7 R f7 r7 => ?_) FU 0 h6 (by omega) (by unfold FU; omega) (Fr.rf _ _) (fun j _ hj => i3 j hj) ⟨fun _ _ => 0, fun j hj => by omega⟩
  refine q h7 R (fun a ha => ?_) (f7.at i1 (by omega)) ?_ ?_ ?_ r7 ?_
  · rw [f7.2 a (by omega), i0 a (by omega) (by omega), g0 a ha]
  · rw [f7.2 _ (by omega), i0 _ (by omega) (by omega)]; exact g2
  · rw [f7.2 _ (by omega), i0 _ (by omega) (by omega)]; exact g3
  · rw [f7.2 _ (by omega)]; exact i2
  · rw [f7.1, i4]
