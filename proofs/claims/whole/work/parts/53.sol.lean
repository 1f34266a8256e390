/-! Solver: the elimination in the class's heap. -/
def oL (z : Int) : Int64 := Int64.ofInt z
theorem oL_toInt {z : Int} (h : z.natAbs < 2 ^ 63) : (oL z).toInt = z := Int64.toInt_ofInt_of_le (by omega) (by omega)
theorem oL_0 {z : Int} (h : z.natAbs < 2 ^ 63) : oL z = 0 ↔ z = 0 := by
  rw [← Int64.toInt_inj, oL_toInt h]
  rfl
theorem oL_dv {x y : Int} (hx : x.natAbs < 2 ^ 63) (hy : y.natAbs < 2 ^ 63) : oL x / oL y = oL (x.tdiv y) := by
  have e1 : Int64.minValue.toInt = -2 ^ 63 := by decide
  have e2 : Int64.maxValue.toInt = 2 ^ 63 - 1 := by decide
  exact (Int64.ofInt_tdiv (by omega) (by omega) (by omega) (by omega)).symm
theorem oL_step {a b c d p : Int} (ha : a.natAbs ≤ 777600000) (hb : b.natAbs ≤ 777600000) (hc : c.natAbs ≤ 777600000) (hd : d.natAbs ≤ 777600000) (hp : p.natAbs ≤ 777600000) : (oL a * oL b - oL c * oL d) / oL p = oL ((a * b - c * d).tdiv p) := by
  have h1 := mulB ha hb
  have h2 := mulB hc hd
  unfold oL
  rw [← Int64.ofInt_mul, ← Int64.ofInt_mul, ← Int64.ofInt_sub]
  exact oL_dv (by omega) (by omega)
def Slv (h : Hp) (s n w : Nat) (ρ : Nat → Nat) (F : Nat → Nat → Int64) : Prop :=
  h.1 s = some (ob 6 [vr (some (s + 1)), vi (nI n), vi (nI w)]) ∧ h.1 (s + 1) = some (aq 6 (arQ 5 (fun i => some (ρ i)))) ∧ (∀ i, i < 5 → s + 2 ≤ ρ i ∧ ρ i < s + 7) ∧ (∀ i j, i < 5 → j < 5 → ρ i = ρ j → i = j) ∧ ∀ i, i < 5 → h.1 (ρ i) = some (al (arL 66 (F i)))
/-- the solver's arrays -/
def sS (s y : Nat) : Prop := s < y ∧ y < s + 7
theorem Slv.cg {h : Hp} {s n w : Nat} {ρ : Nat → Nat} {F G : Nat → Nat → Int64} (H : Slv h s n w ρ F) (e : ∀ i j, i < 5 → j < 66 → F i j = G i j) : Slv h s n w ρ G := by
  obtain ⟨h1, h2, h3, h4, h5⟩ := H
  refine ⟨h1, h2, h3, h4, fun i hi => ?_⟩
  rw [h5 i hi, arL_c (fun j hj => e i j hi hj)]
theorem clear_l {h : Hp} {s n w i k : Nat} {ρ : Nat → Nat} {F : Nat → Nat → Int64} (H : Slv h s n w ρ F) (hn : n ≤ 5) (hw : w ≤ 66) (hi : i < n) (hk : k < n) (hik : i ≠ k) {p : Int64} (hp : ¬ p = 0) (a b : Int64) : ∀ (f j : Nat) (h' : Hp), j ≤ w → w < j + f → Fr (fun y => y = ρ i) h h' → h'.1 (ρ i) = some (al (arL 66 (fun y => if y < j then (a * F i y - b * F k y) / p else F i y))) →
    WP (fX6_clear_30 f s (nI i) (nI k) p a b (nI j)) h' (fun _ h2 => Fr (fun y => y = ρ i) h h2 ∧ h2.1 (ρ i) = some (al (arL 66 (fun y => if y < w then (a * F i y - b * F k y) / p else F i y))))
  | 0, j, h', h1, h2, h3, h4 => by omega
  | f + 1, j, h', h1, h2, h3, h4 => by
    obtain ⟨H1, H2, H3, H4, H5⟩ := id H
    have r1 := H3 i (by omega)
    have r2 := H3 k (by omega)
    have s1 := h3.at H1 (show ¬ s = ρ i by omega)
    have s2 := h3.at H2 (show ¬ s + 1 = ρ i by omega)
    have s3 := h3.at (H5 k (by omega)) (fun e => hik (H4 i k (by omega) (by omega) e.symm))
    show WP (bX6_clear_30 (fX6_clear_30 f) s (nI i) (nI k) p a b (nI j)) h' _
    unfold bX6_clear_30
    refine wp_gI (k := 2) s1 rfl ?_
    by_cases hj : w ≤ j
    · have e : j = w := by omega
      subst e
      rw [if_pos (nI_le hj (by omega))]
      exact wp_rn ⟨h3, h4⟩
    · rw [if_neg (nI_ge (by omega) (by omega))]
      refine wp_gA (k := 0) s1 rfl ?_
      refine wp_ldQ s2 rfl (by omega) (by omega) ?_
      refine wp_gA (k := 0) s1 rfl ?_
      refine wp_ldQ s2 rfl (by omega) (by omega) ?_
      refine wp_ldL h4 rfl (by omega) (by omega) ?_
      refine wp_gA (k := 0) s1 rfl ?_
      refine wp_ldQ s2 rfl (by omega) (by omega) ?_
      refine wp_ldL s3 rfl (by omega) (by omega) ?_
      refine wp_e (dvL_e hp) ?_
      refine wp_stL h4 rfl (by omega) (by omega) ?_
      rw [nI_1]
      refine clear_l H hn hw hi hk hik hp a b f (j + 1) _ (by omega) (by omega) (h3.put _ rfl) ?_
      rw [up_s]
      congr 2
      refine arL_c (fun y hy => ?_)
      by_cases e1 : y = j
      · subst e1
        simp
      · by_cases e2 : y < j
        · simp [e1, e2, show y < j + 1 by omega]
        · simp [e1, e2, show ¬ y < j + 1 by omega]
theorem clear_w {h : Hp} {s n w i k : Nat} {ρ : Nat → Nat} {F : Nat → Nat → Int64} (H : Slv h s n w ρ F) (hn : n ≤ 5) (hw : w ≤ 66) (hi : i < n) (hk : k < n) (hik : i ≠ k) {p : Int64} (hp : ¬ p = 0) {Q : Unit → Hp → Prop}
    (q : ∀ h2, Fr (sS s) h h2 → Slv h2 s n w ρ (fun r y => if r = i ∧ y < w then (F k k * F i y - F i k * F k y) / p else F r y) → Q () h2) : WP (pX6_clear s (nI i) (nI k) p) h Q := by
  obtain ⟨H1, H2, H3, H4, H5⟩ := id H
  have r1 := H3 i (by omega)
  unfold pX6_clear
  rw [if_neg hp]
  refine wp_gA (k := 0) H1 rfl ?_
  refine wp_ldQ H2 rfl (by omega) (by omega) ?_
  refine wp_ldL (H5 k (by omega)) rfl (by omega) (by omega) ?_
  refine wp_gA (k := 0) H1 rfl ?_
  refine wp_ldQ H2 rfl (by omega) (by omega) ?_
  refine wp_ldL (H5 i (by omega)) rfl (by omega) (by omega) ?_
  refine wp_mono (clear_l H hn hw hi hk hik hp _ _ FU 0 h (by omega) (by unfold FU; omega) (Fr.rf _ h) (by simpa using H5 i (by omega))) (fun _ h2 hh => ?_)
  obtain ⟨f1, e1⟩ := hh
  refine q h2 (f1.mono (fun y hy => by unfold sS; omega)) ⟨f1.at H1 (show ¬ s = ρ i by omega), f1.at H2 (show ¬ s + 1 = ρ i by omega), H3, H4, fun r hr => ?_⟩
  by_cases e : r = i
  · subst e
    rw [e1]
    congr 2
    exact arL_c (fun y hy => by simp)
  · rw [f1.at (H5 r hr) (fun z => e (H4 r i hr (by omega) z))]
    congr 2
    exact arL_c (fun y hy => by simp [e])
/-- the rows below m are cleared -/
def rwC (k : Nat) (p : Int64) (w : Nat) (F : Nat → Nat → Int64) (m r y : Nat) : Int64 := if r < m ∧ r ≠ k ∧ y < w then (F k k * F r y - F r k * F k y) / p else F r y
theorem elim_in {h : Hp} {s n w k : Nat} {ρ : Nat → Nat} {F : Nat → Nat → Int64} (H : Slv h s n w ρ F) (hn : n ≤ 5) (hw : w ≤ 66) (hk : k < n) {p : Int64} (hp : ¬ p = 0) {k4 : Nat → Int64 → Int32 → Mo Int32} {Q : Int32 → Hp → Prop}
    (q : ∀ h2, Fr (sS s) h h2 → Slv h2 s n w ρ (rwC k p w F n) → WP (k4 s (F k k) (nI (k + 1))) h2 Q) : ∀ (f i : Nat) (h' : Hp), i ≤ n → n < i + f → Fr (sS s) h h' → Slv h' s n w ρ (rwC k p w F i) → WP (fX6_eliminate_25 k4 f s p (nI k) (nI i)) h' Q
  | 0, i, h', h1, h2, h3, h4 => by omega
  | f + 1, i, h', h1, h2, h3, h4 => by
    obtain ⟨H1, H2, H3, H4, H5⟩ := id h4
    show WP (bX6_eliminate_25 k4 (fX6_eliminate_25 k4 f) s p (nI k) (nI i)) h' Q
    unfold bX6_eliminate_25
    refine wp_gI (k := 1) H1 rfl ?_
    by_cases hi : n ≤ i
    · have e : i = n := by omega
      subst e
      rw [if_pos (nI_le hi (by omega))]
      refine wp_gA (k := 0) H1 rfl ?_
      refine wp_ldQ H2 rfl (by omega) (by omega) ?_
      refine wp_ldL (H5 k (by omega)) rfl (by omega) (by omega) ?_
      rw [nI_1, show rwC k p w F i k k = F k k by simp [rwC]]
      exact q h' h3 h4
    · rw [if_neg (nI_ge (by omega) (by omega))]
      by_cases e : i = k
      · subst e
        rw [if_pos rfl, nI_1]
        refine elim_in H hn hw hk hp q f (i + 1) h' (by omega) (by omega) h3 (h4.cg (fun r y _ _ => ?_))
        unfold rwC
        by_cases c : r < i
        · simp [c, show r < i + 1 by omega]
        · by_cases c2 : r = i
          · simp [c2]
          · simp [c, show ¬ r < i + 1 by omega]
      · rw [if_neg (fun z => e ((nI_eq (by omega) (by omega)).mp z))]
        refine wp_bd (wp_vc H1 (clear_w h4 hn hw (by omega) hk e hp (fun h2 f2 s2 => ?_)))
        rw [nI_1]
        refine elim_in H hn hw hk hp q f (i + 1) h2 (by omega) (by omega) (h3.tr f2) (s2.cg (fun r y _ _ => ?_))
        by_cases c : r = i
        · subst c
          by_cases cy : y < w
          · simp [rwC, cy, e]
          · simp [rwC, cy]
        · by_cases c2 : r < i
          · simp [rwC, c, c2, show r < i + 1 by omega]
          · simp [rwC, c, c2, show ¬ r < i + 1 by omega]
def swF (x k : Nat) (F : Nat → Nat → Int64) : Nat → Nat → Int64 := fun i j => if i = k then F x j else if i = x then F k j else F i j
theorem stR_e {h : Hp} {a b n j : Nat} {F : Nat → Option Nat} {xs : List Int64} (e : h.1 a = some (aq 6 (arQ n F))) (eb : h.1 b = some (al xs)) (hj : j < n) (hn : n < 2 ^ 31) : stR (some a) (nI j) (some b) h = some ((), up h a (aq 6 (arQ n (fun y => if y = j then some b else F y)))) := by
  have h1 := ix_ok (j := j) (n := (arQ n F).length) (by rw [arQ_len]; exact hj) (by rw [arQ_len]; exact hn)
  rw [nI_clamp (by omega)] at h1
  simp only [stR, qaOf, laOf, e, eb]
  simp only [if_true, nI_clamp (show j < 2 ^ 31 by omega)]
  rw [if_neg h1, arQ_set]
theorem bring_l {h : Hp} {s n w k : Nat} {ρ : Nat → Nat} {F : Nat → Nat → Int64} {A : Nat → Nat → Int} (H : Slv h s n w ρ F) (hn : n ≤ 5) (hw : w ≤ 66) (hk : k < n) (hkw : k < w) (hF : ∀ i j, i < n → j < w → F i j = oL (A i j)) (hA : ∀ i j, i < n → (A i j).natAbs ≤ 777600000) {Q : Int32 → Hp → Prop} (q0 : pvB A k (n - k) k = none → Q 0 h) (q1 : ∀ x h2, pvB A k (n - k) k = some x → Fr (sS s) h h2 → Slv h2 s n w (fun y => if y = k then ρ x else if y = x then ρ k else ρ y) (swF x k F) → Q 1 h2) : ∀ (f i : Nat), k ≤ i → i ≤ n → n < i + f → pvB A k (n - i) i = pvB A k (n - k) k → WP (fX6_bringPivot_2 f s (nI k) (nI i)) h Q
  | 0, i, h0, h1, h2, h3 => by omega
  | f + 1, i, h0, h1, h2, h3 => by
    obtain ⟨H1, H2, H3, H4, H5⟩ := id H
    show WP (bX6_bringPivot_2 (fX6_bringPivot_2 f) s (nI k) (nI i)) h Q
    unfold bX6_bringPivot_2
    refine wp_gI (k := 1) H1 rfl ?_
    by_cases hi : n ≤ i
    · rw [if_pos (nI_le hi (by omega))]
      rw [show n - i = 0 by omega, pvB] at h3
      exact wp_rnZ (Or.inl rfl) (q0 h3.symm)
    · rw [if_neg (nI_ge (by omega) (by omega))]
      refine wp_gA (k := 0) H1 rfl ?_
      refine wp_ldQ H2 rfl (by omega) (by omega) ?_
      refine wp_ldL (H5 i (by omega)) rfl (by omega) (by omega) ?_
      rw [show n - i = (n - (i + 1)) + 1 by omega, pvB] at h3
      have hz : F i k = 0 ↔ A i k = 0 := by
        rw [hF i k (by omega) hkw]
        have := hA i k (by omega)
        exact oL_0 (by omega)
      by_cases c : A i k = 0
      · rw [if_pos (hz.mpr c), nI_1]
        rw [if_pos c] at h3
        exact bring_l H hn hw hk hkw hF hA q0 q1 f (i + 1) (by omega) (by omega) (by omega) h3
      · rw [if_neg (fun z => c (hz.mp z))]
        rw [if_neg c] at h3
        refine wp_gA (k := 0) H1 rfl ?_
        refine wp_ldQ H2 rfl (by omega) (by omega) ?_
        refine wp_gA (k := 0) H1 rfl ?_
        refine wp_gA (k := 0) H1 rfl ?_
        refine wp_ldQ H2 rfl (by omega) (by omega) ?_
        refine wp_e (stR_e H2 (H5 k (by omega)) (by omega) (by omega)) ?_
        have g1 : Fr (sS s) h (up h (s + 1) (aq 6 (arQ 5 fun y => if y = i then some (ρ k) else some (ρ y)))) := (Fr.rf _ h).put _ (by unfold sS; omega)
        have e1 : (up h (s + 1) (aq 6 (arQ 5 fun y => if y = i then some (ρ k) else some (ρ y)))).1 s = some (ob 6 [vr (some (s + 1)), vi (nI n), vi (nI w)]) := by rw [up_n (by omega)]; exact H1
        have e2 : (up h (s + 1) (aq 6 (arQ 5 fun y => if y = i then some (ρ k) else some (ρ y)))).1 (s + 1) = some (aq 6 (arQ 5 fun y => if y = i then some (ρ k) else some (ρ y))) := up_s _ _ _
        have e3 : ∀ r, r < 5 → (up h (s + 1) (aq 6 (arQ 5 fun y => if y = i then some (ρ k) else some (ρ y)))).1 (ρ r) = some (al (arL 66 (F r))) := fun r hr => by
          have := H3 r hr
          rw [up_n (by omega)]
          exact H5 r hr
        generalize up h (s + 1) (aq 6 (arQ 5 fun y => if y = i then some (ρ k) else some (ρ y))) = h' at g1 e1 e2 e3 ⊢
        refine wp_gA (k := 0) e1 rfl ?_
        refine wp_e (stR_e e2 (e3 i (by omega)) (by omega) (by omega)) ?_
        refine wp_rnZ (Or.inr rfl) (q1 i _ h3.symm (g1.put _ (by unfold sS; omega)) ⟨?_, ?_, fun r hr => ?_, fun r r' hr hr' z => ?_, fun r hr => ?_⟩)
        · rw [up_n (by omega)]; exact e1
        · rw [up_s]
          congr 2
          unfold arQ
          apply List.map_congr_left
          intro y hy
          by_cases y1 : y = k
          · simp [y1]
          · by_cases y2 : y = i
            · subst y2; simp [y1]
            · simp [y1, y2]
        · have a1 := H3 r hr
          have a2 := H3 k (by omega)
          have a3 := H3 i (by omega)
          simp only
          split
          · exact a3
          · split
            · exact a2
            · exact a1
        · have inj : ∀ a b, a < 5 → b < 5 → ρ a = ρ b → a = b := H4
          simp only at z
          by_cases r1 : r = k
          · by_cases r2 : r' = k
            · omega
            · by_cases r3 : r' = i
              · simp only [r1, r3, if_true] at z
                by_cases r4 : i = k
                · omega
                · rw [if_neg r4] at z
                  have := inj i k (by omega) (by omega) z
                  omega
              · rw [if_pos r1, if_neg r2, if_neg r3] at z
                have := inj i r' (by omega) hr' z
                omega
          · by_cases r2 : r' = k
            · by_cases r3 : r = i
              · rw [if_neg r1, if_pos r3, if_pos r2] at z
                have := inj k i (by omega) (by omega) z
                omega
              · rw [if_neg r1, if_neg r3, if_pos r2] at z
                have := inj r i hr (by omega) z
                omega
            · by_cases r3 : r = i
              · by_cases r4 : r' = i
                · omega
                · rw [if_neg r1, if_pos r3, if_neg r2, if_neg r4] at z
                  have := inj k r' (by omega) hr' z
                  omega
              · by_cases r4 : r' = i
                · rw [if_neg r1, if_neg r3, if_neg r2, if_pos r4] at z
                  have := inj r k hr (by omega) z
                  omega
                · rw [if_neg r1, if_neg r3, if_neg r2, if_neg r4] at z
                  exact inj r r' hr hr' z
        · have a1 := H3 r hr
          have a2 := H3 k (by omega)
          have a3 := H3 i (by omega)
          have fin : ∀ z, z < 5 → (∀ y, F z y = swF i k F r y) → (up h' (s + 1) (aq 6 (arQ 5 fun y => if y = k then some (ρ i) else if y = i then some (ρ k) else some (ρ y)))).1 (ρ z) = some (al (arL 66 (swF i k F r))) := by
            intro z hz he
            have := H3 z hz
            rw [up_n (by omega), e3 z hz]
            congr 2
            exact arL_c (fun y _ => he y)
          by_cases r1 : r = k
          · simp only [r1, if_true]
            rw [r1] at fin
            exact fin i (by omega) (fun y => by simp [swF])
          · by_cases r2 : r = i
            · rw [r2] at r1 fin
              simp only [r2, if_true]
              rw [if_neg r1]
              exact fin k (by omega) (fun y => by simp [swF, r1])
            · simp only [if_neg r1, if_neg r2]
              exact fin r hr (fun y => by simp [swF, r1, r2])
theorem elim_l {h : Hp} {s n w : Nat} {hg pos : Nat → Int} (hn : 2 ≤ n ∧ n ≤ 5) (hw : w ≤ 66) (hnw : n ≤ w) (hc : CoB n hg pos) {Q : Int32 → Hp → Prop} (q0 : ∀ h2 ρ F, PRd n (dco hg pos) = 0 → Fr (sS s) h h2 → Slv h2 s n w ρ F → Q 0 h2) (q1 : ∀ h2 ρ F pr A, FiB n (dco hg pos) pr A → Fr (sS s) h h2 → Slv h2 s n w ρ F → (∀ i j, i < n → j < w → F i j = oL (A i j)) → Q 1 h2) : ∀ (f k : Nat) (h' : Hp) (pr : Int) (A : Nat → Nat → Int) (F : Nat → Nat → Int64) (ρ : Nat → Nat), k ≤ n → n < k + f → Fr (sS s) h h' → Slv h' s n w ρ F → (∀ i j, i < n → j < w → F i j = oL (A i j)) → GdB n hg pos k pr A → WP (fX6_eliminate_4 f s (oL pr) (nI k)) h' Q
  | 0, k, h', pr, A, F, ρ, h1, h2, h3, h4, h5, h6 => by omega
  | f + 1, k, h', pr, A, F, ρ, h1, h2, h3, h4, h5, h6 => by
    obtain ⟨H1, H2, H3, H4, H5⟩ := id h4
    obtain ⟨b1, b2⟩ := GdB_b hn.2 h1 hc h6
    show WP (bX6_eliminate_4 (fX6_eliminate_4 f) s (oL pr) (nI k)) h' Q
    unfold bX6_eliminate_4
    refine wp_gI (k := 1) H1 rfl ?_
    by_cases hk : n ≤ k
    · have e : k = n := by omega
      subst e
      rw [if_pos (nI_le hk (by omega))]
      exact wp_rnZ (Or.inr rfl) (q1 h' ρ F pr A (GdB_f hn h6) h3 h4 h5)
    · rw [if_neg (nI_ge (by omega) (by omega))]
      have hp0 : ¬ oL pr = 0 := fun z => h6.1 ((oL_0 (by omega)).mp z)
      refine wp_bd (wp_vc H1 ?_)
      refine bring_l h4 hn.2 hw (by omega) (by omega) h5 b2 (fun hp => ?_) (fun x h2' hp f2 s2 => ?_) FU k (by omega) (by omega) (by unfold FU; omega) rfl
      · rw [if_pos rfl]
        exact wp_rnZ (Or.inl rfl) (q0 h' ρ F (GdB_n hn (by omega) h6 hp) h3 h4)
      · rw [if_neg (by decide)]
        obtain ⟨p1, p2, p3, p4⟩ := pvB_s hp
        have hG : ∀ i j, i < n → j < w → swF x k F i j = oL (swB x k A i j) := by
          intro i j hi hj
          unfold swF swB
          split
          · exact h5 x j (by omega) hj
          · split
            · exact h5 k j (by omega) hj
            · exact h5 i j hi hj
        have hS : ∀ i j, i < n → (swB x k A i j).natAbs ≤ 777600000 := by
          intro i j hi
          unfold swB
          split
          · exact b2 x j (by omega)
          · split
            · exact b2 k j (by omega)
            · exact b2 i j hi
        refine elim_in s2 hn.2 hw (by omega) hp0 (fun h9 f9 s9 => ?_) FU 0 h2' (by omega) (by unfold FU; omega) (Fr.rf _ _) (s2.cg (fun r y _ _ => by simp [rwC]))
        have e : swF x k F k k = oL (A x k) := by rw [hG k k (by omega) (by omega)]; simp [swB]
        rw [e]
        refine elim_l hn hw hnw hc q0 q1 f (k + 1) h9 (A x k) (clB k pr (swB x k A)) _ _ (by omega) (by omega) ((h3.tr f2).tr f9) s9 (fun i j hi hj => ?_) (GdB_s hn (by omega) hc h6 hp)
        unfold rwC clB
        by_cases c : i = k
        · simp only [c, if_true]
          rw [if_neg (fun z => z.2.1 rfl)]
          exact hG k j (by omega) hj
        · rw [if_pos ⟨hi, c, hj⟩, if_neg c, hG k k (by omega) (by omega), hG i j hi hj, hG i k hi (by omega), hG k j (by omega) hj]
          exact oL_step (hS k k (by omega)) (hS i j hi) (hS i k hi) (hS k j (by omega)) (by omega)
