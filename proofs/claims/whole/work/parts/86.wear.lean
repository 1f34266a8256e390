/-! Turns: whole turns, take; wear, worn. -/
theorem inner_e {h : Hp} {B j : Nat} {sz wt ht : Int32} {ws : Int64} {F : Nat → Int64} (x : Trs h B sz wt ht ws F) (hj : j + 3 < 343) : pX9_innerStepIsLeast (B + 36) (nI j) h = some (bI (wnM (F j) (F (j + 1)) (F (j + 2)) (F (j + 3))), h) := by
  unfold pX9_innerStepIsLeast
  rw [nI_1, bd_e (by rw [vc_e x.1]; exact step_e x rfl (by omega)), bd_e (by rw [vc_e x.1]; exact step_e x rfl (by omega))]
  unfold wnM
  by_cases c : dL (F j) (F (j + 1)) < dL (F (j + 1)) (F (j + 2))
  · rw [if_pos c, decide_eq_true c]; rfl
  · rw [if_neg c, decide_eq_false c, show nI j + (2 : Int32) = nI (j + 2) from nI_add j 2, bd_e (by rw [vc_e x.1]; exact step_e x rfl (by omega))]
    by_cases c2 : dL (F (j + 2)) (F (j + 3)) < dL (F (j + 1)) (F (j + 2))
    · rw [if_pos c2, decide_eq_true c2]; rfl
    · rw [if_neg c2, decide_eq_false c2]; rfl
theorem whole_in {B l u L i : Nat} {lo e : Int64} {lf : Nat → Int64} {sz ht : Int32} {k4 : Nat → Option Nat → Int32 → Int32 → Mo Unit} (h0 : ¬ lo = 0) (dl : l < B + 36 ∧ u < B + 36) (hi : i < 343) {Q : Unit → Hp → Prop} : ∀ (m : Nat) (st : List Int64) (f : Nat) (h : Hp) (w : Int64) (n : Int32) (F : Nat → Int64), st.length ≤ m → st.length < f → st.length ≤ i → Lin h l u L lo lf → Trs h B sz n ht w F → SkF F (e :: st) → (∀ h' F', Fr (trS B) h h' → Trs h' B sz (rdE lo e st w n).2.2 ht (rdE lo e st w n).2.1 F' → SkF F' (rdE lo e st w n).1 → (∀ j, i < j → F' j = F j) → WP (k4 (B + 36) (some l) (nI (rdE lo e st w n).1.length) (nI (i + 1))) h' Q) → WP (fX9_takeWholeTurns_27 k4 f (B + 36) (some l) (nI (st.length + 1)) (nI i)) h Q := by
  intro m
  induction m with
  | zero =>
    intro st f h w n F hm hf hl l1 x hs q
    have e0 : st = [] := List.length_eq_zero_iff.mp (by omega)
    subst e0
    obtain ⟨f, rfl⟩ : ∃ z, f = z + 1 := ⟨f - 1, by omega⟩
    show WP (bX9_takeWholeTurns_27 k4 (fX9_takeWholeTurns_27 k4 f) (B + 36) (some l) (nI 1) (nI i)) h Q
    unfold bX9_takeWholeTurns_27
    rw [if_pos (show nI 1 < (4 : Int32) by decide), nI_1]
    exact q h F (Fr.rf _ h) x hs (fun _ _ => rfl)
  | succ m ih =>
    intro st f h w n F hm hf hl l1 x hs q
    obtain ⟨f, rfl⟩ : ∃ z, f = z + 1 := ⟨f - 1, by omega⟩
    show WP (bX9_takeWholeTurns_27 k4 (fX9_takeWholeTurns_27 k4 f) (B + 36) (some l) (nI (st.length + 1)) (nI i)) h Q
    unfold bX9_takeWholeTurns_27
    match st, hm, hf, hl, hs, q with
    | [], hm, hf, hl, hs, q =>
      rw [if_pos (show nI (([] : List Int64).length + 1) < (4 : Int32) by decide), nI_1]
      exact q h F (Fr.rf _ h) x hs (fun _ _ => rfl)
    | [b], hm, hf, hl, hs, q =>
      rw [if_pos (show nI ([b].length + 1) < (4 : Int32) from nI_lt (b := 4) (by simp) (by omega)), nI_1]
      exact q h F (Fr.rf _ h) x hs (fun _ _ => rfl)
    | [b, c], hm, hf, hl, hs, q =>
      rw [if_pos (show nI ([b, c].length + 1) < (4 : Int32) from nI_lt (b := 4) (by simp) (by omega)), nI_1]
      exact q h F (Fr.rf _ h) x hs (fun _ _ => rfl)
    | b :: c :: d :: s, hm, hf, hl, hs, q =>
      have ln : (b :: c :: d :: s).length + 1 = s.length + 4 := by simp
      have hl' : s.length + 3 ≤ i := by simpa using hl
      rw [ln, if_neg (show ¬ nI (s.length + 4) < (4 : Int32) from nI_nlt (a := s.length + 4) (b := 4) (by omega) (by omega))]
      rw [show nI (s.length + 4) - (4 : Int32) = nI s.length from pk_sub (a := s.length + 4) (b := 4) (by omega)]
      have e3 : F (s.length + 3) = e := by have := hs.1; simpa using this
      have e2 : F (s.length + 2) = b := by have := hs.2.1; simpa using this
      have e1 : F (s.length + 1) = c := by have := hs.2.2.1; simpa using this
      have ed : F s.length = d := hs.2.2.2.1
      refine wp_e (by rw [vc_e x.1]; exact inner_e x (by omega)) ?_
      rw [e3, e2, e1, ed]
      rw [rdE] at q
      cases cw : wnM d c b e
      · rw [if_pos (show bI false = 0 from rfl), nI_1]
        rw [cw] at q
        have qq := q h F (Fr.rf _ h)
        simp only [Bool.false_eq_true, if_false] at qq
        have := qq x hs (fun _ _ => trivial)
        simpa using this
      · rw [if_neg (show ¬ bI true = 0 by decide)]
        rw [cw] at q
        simp only [if_true] at q
        refine wp_gI (k := 2) x.1 rfl ?_
        refine x.wt (fun k1 f1 x1 => ?_)
        refine wp_gL (k := 4) x1.1 rfl ?_
        rw [show nI (s.length + 4) - (3 : Int32) = nI (s.length + 1) from pk_sub (a := s.length + 4) (b := 3) (by omega)]
        refine wp_e (by rw [vc_e x1.1]; exact step_e x1 rfl (by omega)) ?_
        rw [e1, e2]
        have l2 := l1.fr f1 ⟨by unfold trS; omega, by unfold trS; omega⟩
        refine wp_e (by rw [vc_e l2.1]; exact cut_e l2 h0) ?_
        refine wp_e (r := cbL (dL c b / lo)) (h' := k1) rfl ?_
        refine x1.ws (fun k2 f2 x2 => ?_)
        refine wp_gA (k := 0) x2.1 rfl (wp_gA (k := 0) x2.1 rfl ?_)
        rw [show nI (s.length + 4) - (1 : Int32) = nI (s.length + 3) from nI_pred _]
        refine wp_ldL x2.2 rfl (by omega) (by omega) ?_
        rw [e3]
        refine x2.st rfl (by omega) (fun k3 f3 x3 => ?_)
        have ek : nI (s.length + 4) + (-2 : Int32) = nI ((d :: s).length + 1) := by
          have : (d :: s).length + 1 = s.length + 2 := by simp
          rw [this, show (s.length + 4) = (s.length + 2) + 2 by omega, ← nI_add (s.length + 2) 2, Int32.add_assoc, show nI 2 + (-2 : Int32) = 0 by decide, Int32.add_zero]
        rw [ek]
        have l3 := (l2.fr f2 ⟨by unfold trS; omega, by unfold trS; omega⟩).fr f3 ⟨by unfold trS; omega, by unfold trS; omega⟩
        refine ih (d :: s) f k3 _ _ _ (by simp at hm ⊢; omega) (by simp at hf ⊢; omega) (by simp; omega) l3 x3 ⟨by simp, by simp [ed], SkF_c hs.2.2.2.2 (fun j hj => by simp; omega)⟩ (fun h' F' f' x' s' z' => ?_)
        refine q h' F' (((f1.tr f2).tr f3).tr f') x' s' (fun j hj => ?_)
        rw [z' j hj, if_neg (by omega)]
theorem whole_cl {B l u L N : Nat} {lo : Int64} {lf : Nat → Int64} {ht : Int32} (h0 : ¬ lo = 0) (dl : l < B + 36 ∧ u < B + 36) (hN : N ≤ 343) {Q : Unit → Hp → Prop} : ∀ (r : List Int64) (f i : Nat) (h : Hp) (st : List Int64) (w : Int64) (n : Int32) (F : Nat → Int64), i + r.length = N → r.length < f → st.length ≤ i → Lin h l u L lo lf → Trs h B (nI N) n ht w F → SkF F st → (∀ j, j < r.length → F (i + j) = r.getD j 0) → (∀ h' F', Fr (trS B) h h' → Trs h' B (nI (rdA lo (st, w, n) r).1.length) (rdA lo (st, w, n) r).2.2 ht (rdA lo (st, w, n) r).2.1 F' → SkF F' (rdA lo (st, w, n) r).1 → Q () h') → WP (fX9_takeWholeTurns_4 f (B + 36) (some l) (nI st.length) (nI i)) h Q
  | r, 0, i, h, st, w, n, F, h1, h2, h3, l1, x, hs, hr, q => by omega
  | [], f + 1, i, h, st, w, n, F, h1, h2, h3, l1, x, hs, hr, q => by
    simp at h1
    show WP (bX9_takeWholeTurns_4 (fX9_takeWholeTurns_4 f) (B + 36) (some l) (nI st.length) (nI i)) h Q
    unfold bX9_takeWholeTurns_4
    refine wp_gI (k := 1) x.1 rfl ?_
    rw [if_pos (nI_le (by omega) (by omega))]
    refine x.sz (fun h' f' x' => wp_rn (q h' F f' x' hs))
  | e :: r, f + 1, i, h, st, w, n, F, h1, h2, h3, l1, x, hs, hr, q => by
    simp at h1 h2
    show WP (bX9_takeWholeTurns_4 (fX9_takeWholeTurns_4 f) (B + 36) (some l) (nI st.length) (nI i)) h Q
    unfold bX9_takeWholeTurns_4
    refine wp_gI (k := 1) x.1 rfl ?_
    rw [if_neg (nI_ge (by omega) (by omega))]
    refine wp_gA (k := 0) x.1 rfl (wp_gA (k := 0) x.1 rfl (wp_ldL x.2 rfl (by omega) (by omega) ?_))
    have he := hr 0 (by simp)
    simp at he
    rw [he]
    refine x.st rfl (by omega) (fun k1 f1 x1 => ?_)
    rw [nI_1]
    have l2 := l1.fr f1 ⟨by unfold trS; omega, by unfold trS; omega⟩
    refine whole_in (e := e) h0 dl (by omega) st.length st FU k1 w n _ (Nat.le_refl _) (by unfold FU; omega) h3 l2 x1 ⟨by simp, SkF_c hs (fun j hj => by simp; omega)⟩ (fun h' F' f' x' s' z' => ?_)
    have ln := rdE_len lo e st w n
    refine whole_cl h0 dl hN r f (i + 1) h' _ _ _ F' (by omega) (by omega) (by omega) (l2.fr f' ⟨by unfold trS; omega, by unfold trS; omega⟩) x' s' (fun j hj => ?_) (fun h'' F'' f'' x'' s'' => q h'' F'' ((f1.tr f').tr f'') x'' s'')
    rw [z' _ (by omega), if_neg (by omega), show i + 1 + j = i + (j + 1) by omega, hr (j + 1) (by simp; omega)]
    simp
theorem SkF_get {F : Nat → Int64} : ∀ {s : List Int64}, SkF F s → ∀ j, j < s.length → F j = s.reverse.getD j 0
  | [], _, j, hj => by simp at hj
  | a :: s, h, j, hj => by
    have hj' : j < s.length + 1 := by simpa using hj
    simp only [List.reverse_cons]
    by_cases c : j = s.length
    · subst c
      rw [h.1]
      simp [List.getD]
    · rw [SkF_get h.2 j (by omega)]
      simp only [List.getD]
      rw [List.getElem?_append_left (by simp; omega)]
/-- Turns.take -/
theorem take_w {h : Hp} {B L T : Nat} {lo : Int64} {lf V E : Nat → Int64} {sz wt ht : Int32} {ws : Int64} {F : Nat → Int64} (h0 : ¬ lo = 0) (hT : T ≤ 340) (l1 : Lin h (B + 18) (B + 19) L lo lf) (s1 : Swp h (B + 20) (B + 21) (nI T) E) (hE : ∀ y, y < T → E y = V y) (hV : ∀ y, y < T → smL (V y)) (x : Trs h B sz wt ht ws F) {Q : Unit → Hp → Prop} (q : ∀ h2 sz' F', Fr (trS B) h h2 → Trs h2 B sz' (wrM lo (0 :: ((List.range T).map V ++ [0]))).2.2 (nI (wrM lo (0 :: ((List.range T).map V ++ [0]))).1.length - 1) (weM lo (0 :: ((List.range T).map V ++ [0]))) F' → Q () h2) : WP (pX9_take (B + 36) (some (B + 20)) (some (B + 18))) h Q := by
  have sm0 : smL 0 := ⟨0, rfl, by decide⟩
  have smM : ∀ m, m ≤ T → ∀ a ∈ pwA [] (0 :: (List.range m).map V), smL a := by
    intro m
    induction m with
    | zero => intro _ a ha; simp [pwA, pw] at ha; rw [ha]; exact sm0
    | succ m ih =>
      intro hm a ha
      rw [List.range_succ, List.map_append, List.map_cons, List.map_nil, ← List.cons_append, pwA_app] at ha
      exact pw_sm (hV m (by omega)) _ (ih (by omega)) a ha
  have ln : ∀ m, (pwA [] (0 :: (List.range m).map V)).length ≤ m + 1 := by
    intro m
    have := (pwA_len (0 :: (List.range m).map V) []).1
    simp at this
    exact this
  unfold pX9_take
  refine x.wt (fun a1 f1 x1 => x1.ht (fun a2 f2 x2 => x2.ws (fun a3 f3 x3 => x3.sz (fun a4 f4 x4 => ?_))))
  refine wp_bd (wp_vc x4.1 ?_)
  refine push_l sm0 [] FU a4 F _ (by simp [FU]) (by simp) (fun a ha => by simp at ha) x4 trivial (fun a5 F5 f5 x5 k5 => ?_)
  have fa := (((f1.tr f2).tr f3).tr f4).tr f5
  -- the effects
  have loop : ∀ (f m : Nat) (k : Hp) (G : Nat → Int64), m ≤ T → T < m + f → Fr (trS B) h k → Trs k B (nI (pwA [] (0 :: (List.range m).map V)).length) 0 0 0 G → SkF G (pwA [] (0 :: (List.range m).map V)) → WP (fX9_take_27 f (B + 36) (some (B + 20)) (some (B + 18)) (nI m)) k Q := by
    intro f
    induction f with
    | zero => intro m k G h1 h2; omega
    | succ f ih =>
      intro m k G h1 h2 fk xk sk
      have sk1 := fk.at s1.1 (show ¬ trS B (B + 20) by unfold trS; omega)
      have sk2 := fk.at s1.2 (show ¬ trS B (B + 21) by unfold trS; omega)
      show WP (bX9_take_27 (fX9_take_27 f) (B + 36) (some (B + 20)) (some (B + 18)) (nI m)) k Q
      unfold bX9_take_27
      refine wp_gI (k := 1) sk1 rfl ?_
      have lm := ln m
      by_cases c : T ≤ m
      · have em : m = T := by omega
        subst em
        rw [if_pos (nI_le c (by omega))]
        refine wp_bd (wp_vc xk.1 ?_)
        refine push_l sm0 _ FU k G _ (by unfold FU; omega) (by omega) (smM m (Nat.le_refl _)) xk sk (fun k6 F6 f6 x6 z6 => ?_)
        rw [← pwA_app] at x6 z6
        generalize hr : 0 :: ((List.range m).map V ++ [0]) = r at q
        have er : (0 :: (List.range m).map V) ++ [0] = r := by rw [← hr]; rfl
        rw [er] at x6 z6
        have lr : (pwA [] r).length ≤ m + 2 := by
          have := (pwA_len r []).1
          rw [← hr] at this ⊢
          simp at this
          exact this
        have lk := (l1.fr fk ⟨by unfold trS; omega, by unfold trS; omega⟩).fr f6 ⟨by unfold trS; omega, by unfold trS; omega⟩
        refine wp_bd (wp_vc x6.1 ?_)
        unfold pX9_takeWholeTurns
        refine whole_cl (N := (pwA [] r).length) h0 (by omega) (by omega) (NF r) FU 0 k6 [] 0 0 F6 (by simp [NF]) (by simp [NF]; unfold FU; omega) (by simp) lk x6 trivial (fun j hj => ?_) (fun k7 F7 f7 x7 z7 => ?_)
        · simp [NF] at hj
          rw [Nat.zero_add]
          exact SkF_get z6 j hj
        · have l7 := lk.fr f7 ⟨by unfold trS; omega, by unfold trS; omega⟩
          have nl : r ≠ [] := by rw [← hr]; simp
          have l71 := NF_len r nl
          have l72 := rdA_len lo (NF r) ([], 0, 0)
          have g1 : 1 ≤ (rdA lo ([], 0, 0) (NF r)).1.length := l72.2 (by simp; omega)
          have g2 : (rdA lo ([], 0, 0) (NF r)).1.length ≤ m + 2 := by
            have := l72.1
            simp at this
            have nf : (NF r).length = (pwA [] r).length := by simp [NF]
            omega
          refine wp_bd (wp_vc x7.1 ?_)
          unfold pX9_takeHalfTurns
          obtain ⟨y, ys, hy⟩ : ∃ y ys, (rdA lo ([], 0, 0) (NF r)).1.reverse = y :: ys := by
            cases hz : (rdA lo ([], 0, 0) (NF r)).1.reverse with
            | nil =>
              have := congrArg List.length hz
              simp at this
              rw [this] at g1
              simp at g1
            | cons y ys => exact ⟨y, ys, rfl⟩
          have ly : ys.length + 1 = (rdA lo ([], 0, 0) (NF r)).1.length := by
            have := congrArg List.length hy
            simp at this
            omega
          refine half_cl (N := (rdA lo ([], 0, 0) (NF r)).1.length) (wt := (rdA lo ([], 0, 0) (NF r)).2.2) (F := F7) (lo := lo) h0 (by omega) (show B + 18 < B + 36 ∧ B + 19 < B + 36 by omega) FU 0 k7 _ y ys (by omega) (by unfold FU; omega) l7 x7 (fun j hj => ?_) (fun k8 f8 x8 => ?_)
          · rw [Nat.zero_add, SkF_get z7 j (by omega), hy]
          · refine wp_rn (q k8 (nI (rdA lo ([], 0, 0) (NF r)).1.length) F7 (((fk.tr f6).tr f7).tr f8) ?_)
            have e1 : nI (wrM lo r).1.length - 1 = nI ((rdA lo ([], 0, 0) (NF r)).1.length - 1) := by
              show nI (rdA lo ([], 0, 0) (NF r)).1.length - 1 = _
              exact pk_sub (b := 1) g1
            have e2 : weM lo r = hfL lo (y :: ys) (rdA lo ([], 0, 0) (NF r)).2.1 := by
              unfold weM
              rw [← hy]
              rfl
            rw [e1, e2]
            exact x8
      · rw [if_neg (nI_ge (by omega) (by omega))]
        refine wp_gA (k := 0) sk1 rfl (wp_ldL sk2 rfl (by omega) (by omega) ?_)
        rw [hE m (by omega)]
        refine wp_bd (wp_vc xk.1 ?_)
        refine push_l (hV m (by omega)) _ FU k G _ (by unfold FU; omega) (by omega) (smM m (by omega)) xk sk (fun k6 F6 f6 x6 z6 => ?_)
        rw [nI_1]
        rw [← pwA_app] at x6 z6
        have er : (0 :: (List.range m).map V) ++ [V m] = 0 :: (List.range (m + 1)).map V := by
          rw [List.range_succ, List.map_append]
          rfl
        rw [er] at x6 z6
        exact ih (m + 1) k6 F6 (by omega) (by omega) (fk.tr f6) x6 z6
  exact loop FU 0 a5 F5 (by omega) (by unfold FU; omega) fa x5 k5
