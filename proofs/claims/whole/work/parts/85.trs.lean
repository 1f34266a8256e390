/-! Turns: the class's row as a stack. -/
def smL (v : Int64) : Prop := ∃ z : Int, v = oL z ∧ z.natAbs < 2 ^ 61
theorem lies_e {a b e : Int64} (ha : smL a) (hb : smL b) (he : smL e) (h : Hp) : pX9_liesBetween a b e h = some (bI (idM b a e), h) := by
  obtain ⟨x, rfl, hx⟩ := ha
  obtain ⟨y, rfl, hy⟩ := hb
  obtain ⟨z, rfl, hz⟩ := he
  have lt : ∀ u v : Int, u.natAbs < 2 ^ 62 → v.natAbs < 2 ^ 62 → (oL u < oL v ↔ u < v) := fun u v hu hv => by rw [Int64.lt_iff_toInt_lt, oL_toInt (by omega), oL_toInt (by omega)]
  have e0 : ∀ u : Int, u.natAbs < 2 ^ 62 → (oL u = 0 ↔ u = 0) := fun u hu => oL_0 (by omega)
  have l0 : ∀ u : Int, u.natAbs < 2 ^ 62 → (oL u ≤ 0 ↔ u ≤ 0) := fun u hu => by rw [Int64.le_iff_toInt_le, oL_toInt (by omega)]; rfl
  have id1 : idM (oL y) (oL x) (oL z) = decide (x - y = 0 ∨ z - x = 0 ∨ (x - y ≤ 0 ↔ z - x ≤ 0)) := by
    unfold idM
    rw [oL_sub, oL_sub]
    have a1 := e0 (x - y) (by omega)
    have a2 := e0 (z - x) (by omega)
    have a3 := l0 (x - y) (by omega)
    have a4 := l0 (z - x) (by omega)
    have d1 : decide (oL (x - y) = 0) = decide (x - y = 0) := by rw [decide_eq_decide]; exact a1
    have d2 : decide (oL (z - x) = 0) = decide (z - x = 0) := by rw [decide_eq_decide]; exact a2
    have d3 : decide (oL (x - y) ≤ 0) = decide (x - y ≤ 0) := by rw [decide_eq_decide]; exact a3
    have d4 : decide (oL (z - x) ≤ 0) = decide (z - x ≤ 0) := by rw [decide_eq_decide]; exact a4
    rw [d1, d2, d3, d4]
    by_cases q1 : x - y = 0
    · simp [q1]
    · by_cases q2 : z - x = 0
      · simp [q2]
      · by_cases q3 : x - y ≤ 0 <;> by_cases q4 : z - x ≤ 0 <;> simp [q1, q2, q3, q4]
  rw [id1]
  unfold pX9_liesBetween mnL mxL
  have c1 := lt z y (by omega) (by omega)
  have cxy := lt x y (by omega) (by omega)
  have cxz := lt x z (by omega) (by omega)
  have cyx := lt y x (by omega) (by omega)
  have czx := lt z x (by omega) (by omega)
  by_cases q : z < y
  · rw [if_pos (c1.mpr q), if_pos (c1.mpr q)]
    by_cases q1 : x < z
    · rw [if_pos (cxz.mpr q1), decide_eq_false (by omega)]; rfl
    · rw [if_neg (fun w => q1 (cxz.mp w))]
      by_cases q2 : y < x
      · rw [if_pos (cyx.mpr q2), decide_eq_false (by omega)]; rfl
      · rw [if_neg (fun w => q2 (cyx.mp w)), decide_eq_true (by omega)]; rfl
  · rw [if_neg (fun w => q (c1.mp w)), if_neg (fun w => q (c1.mp w))]
    by_cases q1 : x < y
    · rw [if_pos (cxy.mpr q1), decide_eq_false (by omega)]; rfl
    · rw [if_neg (fun w => q1 (cxy.mp w))]
      by_cases q2 : z < x
      · rw [if_pos (czx.mpr q2), decide_eq_false (by omega)]; rfl
      · rw [if_neg (fun w => q2 (czx.mp w)), decide_eq_true (by omega)]; rfl
/-- the row holds the stack, its top last -/
def SkF (F : Nat → Int64) : List Int64 → Prop
  | [] => True
  | a :: s => F s.length = a ∧ SkF F s
theorem SkF_c {F G : Nat → Int64} : ∀ {s : List Int64}, SkF F s → (∀ j, j < s.length → G j = F j) → SkF G s
  | [], _, _ => trivial
  | a :: s, h, e => ⟨(e s.length (by simp)).trans h.1, SkF_c h.2 (fun j hj => e j (by simp; omega))⟩
def Trs (h : Hp) (B : Nat) (sz wt ht : Int32) (ws : Int64) (F : Nat → Int64) : Prop := h.1 (B + 36) = some (ob 9 [vr (some (B + 37)), vi sz, vi wt, vi ht, vl ws]) ∧ h.1 (B + 37) = some (al (arL 343 F))
def trS (B y : Nat) : Prop := B + 36 ≤ y ∧ y < B + 38
theorem Trs.sz {h : Hp} {B : Nat} {sz wt ht v : Int32} {ws : Int64} {F : Nat → Int64} (x : Trs h B sz wt ht ws F) {R : Type} {f : Unit → Mo R} {Q : R → Hp → Prop} (q : ∀ h', Fr (trS B) h h' → Trs h' B v wt ht ws F → WP (f ()) h' Q) : WP (bd (pF (some (B + 36)) 9 1 (vi v)) f) h Q := wp_pF (k := 1) x.1 (by simp) (q _ ((Fr.rf _ h).put _ (by unfold trS; omega)) ⟨up_s _ _ _, (up_n (by omega)).trans x.2⟩)
theorem Trs.wt {h : Hp} {B : Nat} {sz wt ht v : Int32} {ws : Int64} {F : Nat → Int64} (x : Trs h B sz wt ht ws F) {R : Type} {f : Unit → Mo R} {Q : R → Hp → Prop} (q : ∀ h', Fr (trS B) h h' → Trs h' B sz v ht ws F → WP (f ()) h' Q) : WP (bd (pF (some (B + 36)) 9 2 (vi v)) f) h Q := wp_pF (k := 2) x.1 (by simp) (q _ ((Fr.rf _ h).put _ (by unfold trS; omega)) ⟨up_s _ _ _, (up_n (by omega)).trans x.2⟩)
theorem Trs.ht {h : Hp} {B : Nat} {sz wt ht v : Int32} {ws : Int64} {F : Nat → Int64} (x : Trs h B sz wt ht ws F) {R : Type} {f : Unit → Mo R} {Q : R → Hp → Prop} (q : ∀ h', Fr (trS B) h h' → Trs h' B sz wt v ws F → WP (f ()) h' Q) : WP (bd (pF (some (B + 36)) 9 3 (vi v)) f) h Q := wp_pF (k := 3) x.1 (by simp) (q _ ((Fr.rf _ h).put _ (by unfold trS; omega)) ⟨up_s _ _ _, (up_n (by omega)).trans x.2⟩)
theorem Trs.ws {h : Hp} {B : Nat} {sz wt ht : Int32} {ws v : Int64} {F : Nat → Int64} (x : Trs h B sz wt ht ws F) {R : Type} {f : Unit → Mo R} {Q : R → Hp → Prop} (q : ∀ h', Fr (trS B) h h' → Trs h' B sz wt ht v F → WP (f ()) h' Q) : WP (bd (pF (some (B + 36)) 9 4 (vl v)) f) h Q := wp_pF (k := 4) x.1 (by simp) (q _ ((Fr.rf _ h).put _ (by unfold trS; omega)) ⟨up_s _ _ _, (up_n (by omega)).trans x.2⟩)
theorem Trs.st {h : Hp} {B j : Nat} {sz wt ht i : Int32} {ws v : Int64} {F : Nat → Int64} (x : Trs h B sz wt ht ws F) {R : Type} {f : Unit → Mo R} {Q : R → Hp → Prop} (hi : i = nI j) (hj : j < 343) (q : ∀ h', Fr (trS B) h h' → Trs h' B sz wt ht ws (fun y => if y = j then v else F y) → WP (f ()) h' Q) : WP (bd (stL (some (B + 37)) i v) f) h Q := wp_stL x.2 hi hj (by omega) (q _ ((Fr.rf _ h).put _ (by unfold trS; omega)) ⟨(up_n (by omega)).trans x.1, up_s _ _ _⟩)
theorem push50_w {h : Hp} {B : Nat} {wt ht : Int32} {ws e : Int64} {F : Nat → Int64} {st : List Int64} (x : Trs h B (nI st.length) wt ht ws F) (hs : SkF F st) (hl : st.length < 343) {Q : Unit → Hp → Prop} (q : ∀ h' F', Fr (trS B) h h' → Trs h' B (nI (e :: st).length) wt ht ws F' → SkF F' (e :: st) → Q () h') : WP (bX9_push_50 (B + 36) e) h Q := by
  unfold bX9_push_50
  refine wp_gI (k := 1) x.1 rfl (wp_gA (k := 0) x.1 rfl (wp_alnL x.2 ?_))
  rw [if_neg (nI_ge hl (by omega))]
  refine wp_gA (k := 0) x.1 rfl (wp_gI (k := 1) x.1 rfl ?_)
  refine x.st rfl hl (fun h1 f1 x1 => ?_)
  refine wp_gI (k := 1) x1.1 rfl ?_
  refine x1.sz (fun h2 f2 x2 => ?_)
  rw [nI_1] at x2
  refine wp_rn (q h2 _ (f1.tr f2) x2 ⟨by simp, SkF_c hs (fun j hj => by simp; omega)⟩)
theorem push_l {B : Nat} {wt ht : Int32} {ws e : Int64} (he : smL e) : ∀ (st : List Int64) (f : Nat) (h : Hp) (F : Nat → Int64) (Q : Unit → Hp → Prop), st.length < f → st.length < 343 → (∀ a ∈ st, smL a) → Trs h B (nI st.length) wt ht ws F → SkF F st → (∀ h' F', Fr (trS B) h h' → Trs h' B (nI (pw e st).length) wt ht ws F' → SkF F' (pw e st) → Q () h') → WP (fX9_push_0 f (B + 36) e) h Q
  | st, 0, h, F, Q, h1, _, _, _, _, _ => by omega
  | [], f + 1, h, F, Q, h1, h2, h3, x, hs, q => by
    show WP (bX9_push_0 (fX9_push_0 f) (B + 36) e) h Q
    unfold bX9_push_0
    refine wp_gI (k := 1) x.1 rfl ?_
    rw [if_pos (show nI ([] : List Int64).length < (2 : Int32) from nI_lt (b := 2) (by simp) (by omega))]
    exact push50_w x hs h2 (fun h' F' f' x' s' => q h' F' f' x' s')
  | [a], f + 1, h, F, Q, h1, h2, h3, x, hs, q => by
    show WP (bX9_push_0 (fX9_push_0 f) (B + 36) e) h Q
    unfold bX9_push_0
    refine wp_gI (k := 1) x.1 rfl ?_
    rw [if_pos (show nI [a].length < (2 : Int32) from nI_lt (b := 2) (by simp) (by omega))]
    exact push50_w x hs h2 (fun h' F' f' x' s' => q h' F' f' x' s')
  | a :: b :: s, f + 1, h, F, Q, h1, h2, h3, x, hs, q => by
    have ln : (a :: b :: s).length = s.length + 2 := by simp
    rw [ln] at h1 h2 x
    show WP (bX9_push_0 (fX9_push_0 f) (B + 36) e) h Q
    unfold bX9_push_0
    refine wp_gI (k := 1) x.1 rfl ?_
    rw [if_neg (show ¬ nI (s.length + 2) < (2 : Int32) from nI_nlt (a := s.length + 2) (b := 2) (by omega) (by omega))]
    refine wp_gA (k := 0) x.1 rfl (wp_gI (k := 1) x.1 rfl ?_)
    rw [show nI (s.length + 2) - 1 = nI (s.length + 1) from nI_pred _]
    refine wp_ldL x.2 rfl (by omega) (by omega) ?_
    refine wp_gA (k := 0) x.1 rfl (wp_gI (k := 1) x.1 rfl ?_)
    rw [show nI (s.length + 2) - (2 : Int32) = nI s.length from pk_sub (a := s.length + 2) (b := 2) (by omega)]
    refine wp_ldL x.2 rfl (by omega) (by omega) ?_
    have e1 : F (s.length + 1) = a := by have := hs.1; simpa using this
    have e2 : F s.length = b := hs.2.1
    rw [e1, e2]
    refine wp_e (lies_e (h3 a (by simp)) (h3 b (by simp)) he h) ?_
    rw [pw] at q
    cases c : idM b a e
    · rw [if_pos (show bI false = 0 from rfl)]
      rw [c] at q
      refine push50_w (st := a :: b :: s) (by rw [ln]; exact x) hs (by rw [ln]; omega) (fun h' F' f' x' s' => ?_)
      have qq := q h' F' f'
      simp only [Bool.false_eq_true, if_false] at qq
      exact qq x' s'
    · rw [if_neg (show ¬ bI true = 0 by decide)]
      rw [c] at q
      refine wp_gI (k := 1) x.1 rfl ?_
      refine x.sz (fun h1' f1 x1 => ?_)
      rw [show nI (s.length + 2) - 1 = nI (s.length + 1) from nI_pred _] at x1
      refine push_l he (b :: s) f h1' F Q (by simp; omega) (by simp; omega) (fun z hz => h3 z (by simp at hz ⊢; right; exact hz)) (by simpa using x1) hs.2 (fun h' F' f' x' s' => ?_)
      have qq := q h' F' (f1.tr f')
      simp only [if_true] at qq
      exact qq x' s'
theorem pw_sm {e : Int64} (he : smL e) : ∀ s : List Int64, (∀ a ∈ s, smL a) → ∀ a ∈ pw e s, smL a
  | [], h, a, ha => by simp [pw] at ha; rw [ha]; exact he
  | [b], h, a, ha => by
    simp [pw] at ha
    rcases ha with rfl | rfl
    · exact he
    · exact h _ (by simp)
  | c :: b :: s, h, a, ha => by
    rw [pw] at ha
    split at ha
    · exact pw_sm he (b :: s) (fun z hz => h z (by simp at hz ⊢; right; exact hz)) a ha
    · simp at ha
      rcases ha with rfl | ha
      · exact he
      · exact h a (by simp; exact ha)
theorem pwA_app (x : Int64) : ∀ (r st : List Int64), pwA st (r ++ [x]) = pw x (pwA st r)
  | [], st => rfl
  | e :: r, st => pwA_app x r (pw e st)
theorem szab (v : Int64) : abL v = szL v := by
  unfold abL szL
  by_cases c : 0 < v
  · rw [if_pos c, if_pos (Int64.le_of_lt c)]
  · rw [if_neg c]
    by_cases c2 : 0 ≤ v
    · rw [if_pos c2]
      have : v = 0 := by
        apply Int64.toInt_inj.mp
        rw [Int64.lt_iff_toInt_lt] at c
        rw [Int64.le_iff_toInt_le] at c2
        have z : (0 : Int64).toInt = 0 := by decide
        omega
      rw [this]
      rfl
    · rw [if_neg c2]
theorem step_e {h : Hp} {B j : Nat} {sz wt ht i : Int32} {ws : Int64} {F : Nat → Int64} (x : Trs h B sz wt ht ws F) (hi : i = nI j) (hj : j + 1 < 343) : pX9_step (B + 36) i h = some (dL (F j) (F (j + 1)), h) := by
  subst hi
  unfold pX9_step
  rw [bd_e (gA_e (k := 0) x.1 rfl), nI_1, bd_e (ldL_e x.2 (by rw [arL_len]; omega) (by rw [arL_len]; omega)), arL_get _ (by omega), bd_e (gA_e (k := 0) x.1 rfl), bd_e (ldL_e x.2 (by rw [arL_len]; omega) (by rw [arL_len]; omega)), arL_get _ (by omega), szab]
  rfl
theorem cut_e {h : Hp} {l u L : Nat} {lo v : Int64} {lf : Nat → Int64} (x : Lin h l u L lo lf) (h0 : ¬ lo = 0) : pX4_cut l v h = some (v / lo, h) := by
  unfold pX4_cut
  rw [bd_e (gL_e (k := 1) x.1 rfl), if_neg h0, bd_e (gL_e (k := 1) x.1 rfl), bd_e (dvL_e h0)]
  rfl
theorem half_cl {B l u L : Nat} {lo : Int64} {lf : Nat → Int64} {F : Nat → Int64} {N : Nat} {wt : Int32} (h0 : ¬ lo = 0) (hN : N ≤ 343) (dl : l < B + 36 ∧ u < B + 36) {Q : Unit → Hp → Prop} : ∀ (f i : Nat) (h : Hp) (ws : Int64) (x : Int64) (r : List Int64), i + (r.length + 1) = N → r.length < f → Lin h l u L lo lf → Trs h B (nI N) wt (nI i) ws F → (∀ j, j < r.length + 1 → F (i + j) = (x :: r).getD j 0) → (∀ h', Fr (trS B) h h' → Trs h' B (nI N) wt (nI (N - 1)) (hfL lo (x :: r) ws) F → Q () h') → WP (fX9_takeHalfTurns_2 f (B + 36) (some l) (nI i)) h Q
  | 0, i, h, ws, x, r, h1, h2, h3, h4, h5, q => by omega
  | f + 1, i, h, ws, x, [], h1, h2, h3, h4, h5, q => by
    show WP (bX9_takeHalfTurns_2 (fX9_takeHalfTurns_2 f) (B + 36) (some l) (nI i)) h Q
    unfold bX9_takeHalfTurns_2
    simp at h1
    refine wp_gI (k := 1) h4.1 rfl ?_
    rw [nI_1, if_pos (nI_le (by omega) (by omega))]
    refine wp_rn (q h (Fr.rf _ h) ?_)
    rw [show N - 1 = i by omega]
    exact h4
  | f + 1, i, h, ws, x, y :: r, h1, h2, h3, h4, h5, q => by
    show WP (bX9_takeHalfTurns_2 (fX9_takeHalfTurns_2 f) (B + 36) (some l) (nI i)) h Q
    unfold bX9_takeHalfTurns_2
    simp at h1 h2
    refine wp_gI (k := 1) h4.1 rfl ?_
    rw [nI_1, if_neg (nI_ge (by omega) (by omega))]
    refine wp_gI (k := 3) h4.1 rfl ?_
    refine h4.ht (fun k1 f1 x1 => ?_)
    rw [nI_1] at x1
    refine wp_gL (k := 4) x1.1 rfl ?_
    have a0 := h5 0 (by simp)
    have a1 := h5 1 (by simp)
    simp at a0 a1
    refine wp_e (by rw [vc_e x1.1]; exact step_e x1 rfl (by omega)) ?_
    rw [a0, a1]
    have l1 := h3.fr f1 ⟨by unfold trS; omega, by unfold trS; omega⟩
    refine wp_e (by rw [vc_e l1.1]; exact cut_e l1 h0) ?_
    refine wp_e (r := cbL (dL x y / lo)) (h' := k1) rfl ?_
    refine x1.ws (fun k2 f2 x2 => ?_)
    refine half_cl h0 hN dl f (i + 1) k2 _ y r (by omega) (by omega) (l1.fr f2 ⟨by unfold trS; omega, by unfold trS; omega⟩) x2 (fun j hj => ?_) (fun h' f' x' => q h' ((f1.tr f2).tr f') x')
    have := h5 (j + 1) (by simp; omega)
    rw [show i + 1 + j = i + (j + 1) by omega, this]
    simp
