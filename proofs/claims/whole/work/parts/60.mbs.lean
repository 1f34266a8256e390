/-! The reference's bridge. -/
/-- the states agree but for room that is used again, and for the bridge in slot m -/
def BrE (m : Nat) (σ τ : MS) : Prop := (∀ k, k ≠ 0 → k ≠ 21 → k ≠ 22 → k ≠ 38 → k ≠ 39 → k ≠ 40 → τ.i k = σ.i k) ∧ (∀ k j, k ≠ 1 → k ≠ 2 → k ≠ 3 → k ≠ 4 → k ≠ 11 → k ≠ 23 → k ≠ 33 → k ≠ 34 → k ≠ 35 → k ≠ 36 → τ.a k j = σ.a k j) ∧ (∀ k j, (k = 1 ∨ k = 2 ∨ k = 3 ∨ k = 23) → j ≠ m → τ.a k j = σ.a k j) ∧ (∀ y, ¬ (5 * m ≤ y ∧ y < 5 * m + 5) → τ.a 4 y = σ.a 4 y) ∧ (∀ k j, k ≠ 8 → k ≠ 9 → k ≠ 10 → k ≠ 37 → τ.l k j = σ.l k j) ∧ (∀ y, ¬ (305 * m ≤ y ∧ y < 305 * m + 305) → τ.l 8 y = σ.l 8 y) ∧ (∀ y, y ≠ m → τ.l 9 y = σ.l 9 y)
def stK (σ : MS) (K : Nat → Int32) : MS := (σ.1, fun x y => if x = 11 then K y else σ.2.1 x y, σ.2.2)
theorem stK_sa (σ : MS) (K : Nat → Int32) (j : Nat) (v : Int32) : (stK σ K).sa 11 j v = stK σ (fun y => if y = j then v else K y) := by
  unfold stK MS.sa
  refine Prod.ext rfl (Prod.ext (funext fun k => funext fun y => ?_) rfl)
  by_cases e : k = 11 <;> simp [e]
theorem stK_self (σ : MS) : σ = stK σ (σ.a 11) := by
  unfold stK
  refine Prod.ext rfl (Prod.ext (funext fun k => funext fun y => ?_) rfl)
  by_cases e : k = 11 <;> simp [e, MS.a]
theorem loose_back {M : Nat} {τ : MS} {x : Int32} (hx : x = 0 ∨ x = 1) {Q : Int32 → MS → Prop} (z : ∀ F : Nat → Int32, (∀ k, k < 5 → F (25 + k) = τ.a 11 k) → (∀ y, ¬ (25 ≤ y ∧ y < 30) → F y = τ.a 4 y) → Q x (stS τ F)) : ∀ (f k : Nat) (F : Nat → Int32), k ≤ 5 → 5 < k + f → (∀ i, i < k → F (25 + i) = τ.a 11 i) → (∀ y, ¬ (25 ≤ y ∧ y < 30) → F y = τ.a 4 y) → RM M (fX11_isLoose_169 f M (nI 5) x (nI k)) (stS τ F) Q
  | 0, k, F, h1, h2, h3, h4 => by omega
  | f + 1, k, F, h1, h2, h3, h4 => by
    show RM M (bX11_isLoose_169 (fX11_isLoose_169 f) M (nI 5) x (nI k)) _ Q
    unfold bX11_isLoose_169
    by_cases hk : 5 ≤ k
    · have e : k = 5 := by omega
      subst e
      rw [if_pos (by decide)]
      exact rm_rnZ hx (z F h3 h4)
    · rw [if_neg (show ¬ (5 : Int32) ≤ nI k from nI_ge (b := 5) (by omega) (by omega))]
      refine rm_gA ?_
      refine rm_gA ?_
      refine rm_ldI k rfl (by show _ < 7; omega) ?_
      refine rm_stI (5 * 5 + k) (ix5 5 k) (by show _ < 30; omega) ?_
      rw [stS_sa, nI_1]
      refine loose_back hx z f (k + 1) _ (by omega) (by omega) (fun i hi => ?_) (fun y hy => ?_)
      · by_cases e : i = k
        · subst e; simp; rfl
        · rw [if_neg (by omega)]; exact h3 i (by omega)
      · rw [if_neg (by omega)]; exact h4 y hy
theorem loose_zero {M n : Nat} {hin : Int64} {τ : MS} {Q : Int32 → MS → Prop} (z : ∀ N, RM M (bd (vc 11 (some M) (fun o => pX11_layTable o (nI 5) hin (0 : Int32))) fun _ =>
    bd (vc 11 (some M) (fun o => pX11_solve o (nI n))) fun x124 =>
    if x124 = (0 : Int64) then bX11_isLoose_137 M (nI 5) ((1 : Int32)) else bX11_isLoose_137 M (nI 5) ((0 : Int32))) (stN τ N) Q) : ∀ (f k : Nat) (N : Nat → Nat → Int64), k ≤ 30 → 30 < k + f → RM M (fX11_isLoose_91 f M hin (nI n) (nI 5) (nI k)) (stN τ N) Q
  | 0, k, N, h1, h2 => by omega
  | f + 1, k, N, h1, h2 => by
    show RM M (bX11_isLoose_91 (fX11_isLoose_91 f) M hin (nI n) (nI 5) (nI k)) _ Q
    unfold bX11_isLoose_91
    by_cases hk : 30 ≤ k
    · rw [if_pos (show (30 : Int32) ≤ nI k from nI_le (a := 30) hk (by omega))]
      exact z N
    · rw [if_neg (show ¬ (30 : Int32) ≤ nI k from nI_ge (b := 30) (by omega) (by omega))]
      refine rm_gA ?_
      refine rm_stN (k / 6) (k % 6) (by rw [show 6 * (k / 6) + k % 6 = k by omega]) (by omega) (by omega) ?_
      rw [nI_1]
      exact loose_zero z f (k + 1) _ (by omega) (by omega)
theorem loose_keep {M : Nat} {v1 v6 : Int32} {v2 v4 : Int64} {σ : MS} {Q : Int32 → MS → Prop} (z : ∀ K : Nat → Int32, K 5 = σ.a 1 5 → K 6 = σ.a 2 5 → (∀ k, k < 5 → K k = σ.a 4 (25 + k)) → RM M (bd (gA (some M) 11 1) fun x65 => bd (stI x65 (nI 5) v1) fun _ => bd (gA (some M) 11 2) fun x73 => bd (stI x73 (nI 5) v6) fun _ => bd (vc 11 (some M) (fun o => pX11_laySupports o (nI 5) v2)) fun _ => fX11_isLoose_91 FU M v4 v6 (nI 5) ((0 : Int32))) (stK σ K) Q) : ∀ (f k : Nat) (K : Nat → Int32), k ≤ 5 → 5 < k + f → K 5 = σ.a 1 5 → K 6 = σ.a 2 5 → (∀ i, i < k → K i = σ.a 4 (25 + i)) → RM M (fX11_isLoose_33 f M v1 v2 v4 v6 (nI 5) (nI k)) (stK σ K) Q
  | 0, k, K, h1, h2, h3, h4, h5 => by omega
  | f + 1, k, K, h1, h2, h3, h4, h5 => by
    show RM M (bX11_isLoose_33 (fX11_isLoose_33 f) M v1 v2 v4 v6 (nI 5) (nI k)) _ Q
    unfold bX11_isLoose_33
    by_cases hk : 5 ≤ k
    · have e : k = 5 := by omega
      subst e
      rw [if_pos (by decide)]
      exact z K h3 h4 h5
    · rw [if_neg (show ¬ (5 : Int32) ≤ nI k from nI_ge (b := 5) (by omega) (by omega))]
      refine rm_gA ?_
      refine rm_gA ?_
      refine rm_ldI (5 * 5 + k) (ix5 5 k) (by show _ < 30; omega) ?_
      refine rm_stI k rfl (by show _ < 7; omega) ?_
      rw [stK_sa, nI_1]
      refine loose_keep z f (k + 1) _ (by omega) (by omega) (by rw [if_neg (by omega)]; exact h3) (by rw [if_neg (by omega)]; exact h4) (fun i hi => ?_)
      by_cases e : i = k
      · subst e; simp; rfl
      · rw [if_neg e]; exact h5 i (by omega)
/-- what is known of a well formed bridge's bits -/
def BitB (n L : Nat) (sup hin : Int64) (sn hn : Nat → Nat) : Prop := (2 ≤ n ∧ n ≤ 5) ∧ (2 ≤ L ∧ L ≤ 60) ∧ nL sup < 2 ^ 61 ∧ nL hin < 2 ^ 61 ∧ bt (nL hin) 0 = 0 ∧ ctN 61 (nL sup) = n ∧ ctN L (nL hin) + 2 = n ∧ (∀ k, k < n → sn k = pls (nL sup) 61 k) ∧ (∀ k, k < n - 2 → hn k = pls (nL hin) L k) ∧ (∀ k, k < n → sn k ≤ L) ∧ (∀ k, k < n - 2 → hn k ≤ L)
theorem BitB_sorted {n L : Nat} {sup hin : Int64} {sn hn : Nat → Nat} (h : BitB n L sup hin sn hn) {i j : Nat} (hij : i < j) (hj : j < n) : sn i < sn j := by
  obtain ⟨h1, h2, h3, h4, h5, h6, h7, h8, h9, h10, h11⟩ := h
  rw [h8 i (by omega), h8 j hj]
  exact pls_mono _ hij (by rw [h6]; exact hj)
theorem BitB_c {n L : Nat} {sup hin : Int64} {sn hn : Nat → Nat} (h : BitB n L sup hin sn hn) (hg : Nat → Int) (hh : ∀ i, 1 ≤ i → i < n → 0 ≤ hg i ∧ hg i ≤ L) : CoB n hg (posI sn n) := by
  refine ⟨fun i a b => ?_, fun j => ?_, fun j hj => ?_⟩
  · have := hh i a b
    have := h.2.1
    omega
  · unfold posI
    omega
  · unfold posI psn
    rw [if_pos hj, if_pos (by omega)]
    by_cases e : j = 0
    · subst e; omega
    · have := BitB_sorted h (i := 0) (j := j) (by omega) hj
      omega
theorem BitB_R {n L : Nat} {sup hin : Int64} {sn hn : Nat → Nat} (h : BitB n L sup hin sn hn) : CoB n (hgR n L hn) (posI sn n) := by
  refine BitB_c h _ (fun i a b => ?_)
  unfold hgR
  split
  · omega
  · have := h.2.2.2.2.2.2.2.2.2.2 (i - 1) (by omega)
    omega
theorem BitB_C {n L : Nat} {sup hin : Int64} {sn hn : Nat → Nat} (h : BitB n L sup hin sn hn) : CoB n (hgC L hn) (posI sn n) := by
  refine BitB_c h _ (fun i a b => ?_)
  unfold hgC
  split
  · omega
  · have := h.2.2.2.2.2.2.2.2.2.2 (i - 2) (by omega)
    omega
theorem loose_m {M n L : Nat} {sup hin : Int64} {sn hn : Nat → Nat} {σ : MS} {Q : Int32 → MS → Prop} (h : BitB n L sup hin sn hn) (z : ∀ τ, (∀ k, τ.i k = σ.i k) → (∀ k j, k ≠ 11 → τ.a k j = σ.a k j) → (∀ k j, k ≠ 10 → τ.l k j = σ.l k j) → Q (bI (decide (PRd n (dco (hgR n L hn) (posI sn n)) = 0))) τ) : RM M (pX11_isLoose M (nI L) sup hin (nI n)) σ Q := by
  have hc := BitB_R h
  obtain ⟨h1, h2, h3, h4, h5, h6, h7, h8, h9, h10, h11⟩ := h
  unfold pX11_isLoose
  rw [stK_self σ]
  refine rm_gA ?_
  refine rm_gA ?_
  refine rm_ldI 5 rfl (by show _ < 6; omega) ?_
  refine rm_stI 5 rfl (by show _ < 7; omega) ?_
  rw [stK_sa]
  refine rm_gA ?_
  refine rm_gA ?_
  refine rm_ldI 5 rfl (by show _ < 6; omega) ?_
  refine rm_stI 6 rfl (by show _ < 7; omega) ?_
  rw [stK_sa]
  refine loose_keep (σ := σ) (fun K k5 k6 k4 => ?_) FU 0 _ (by omega) (by unfold FU; omega) (by simp; rfl) (by simp; rfl) (fun i hi => by omega)
  refine rm_gA ?_
  refine rm_stI 5 rfl (by show _ < 6; omega) ?_
  refine rm_gA ?_
  refine rm_stI 5 rfl (by show _ < 6; omega) ?_
  refine rm_bd (rm_vc (laySup_m (b := 5) rfl (by omega) (by omega) (by rw [h6]; exact h1.2) (fun F f1 f2 => ?_)))
  rw [h6] at f1
  have zz := loose_zero (M := M) (n := n) (hin := hin) (τ := stS (((stK σ K).sa 1 5 (nI L)).sa 2 5 (nI n)) F) (Q := Q) ?_ FU 0 (fun i j => (stS (((stK σ K).sa 1 5 (nI L)).sa 2 5 (nI n)) F).l 10 (6 * i + j)) (by omega) (by unfold FU; omega)
  · rw [← stN_self] at zz
    exact zz
  · intro N1
    refine rm_bd (rm_vc (layTable_m (b := 5) (n := n) (L := L) (a := 0) (sn := sn) (hn := hn) (by omega) h1 h2 (by omega) rfl rfl (fun k hk => ?_) (fun k hk => by have := h10 k hk; omega) (by omega) h5 h7 h9 (fun N2 hN2 => ?_)))
    · show F (5 * 5 + k) = _
      rw [f1 k hk, h8 k hk]
    · have back : ∀ (x : Int32) (N : Nat → Nat → Int64), (x = 0 ∨ x = 1) → x = bI (decide (PRd n (dco (hgR n L hn) (posI sn n)) = 0)) → RM M (bX11_isLoose_137 M (nI 5) x) (stN (stS (((stK σ K).sa 1 5 (nI L)).sa 2 5 (nI n)) F) N) Q := by
        intro x N hx ex
        unfold bX11_isLoose_137
        refine rm_gA ?_
        refine rm_gA ?_
        refine rm_ldI 5 rfl (by show _ < 7; omega) ?_
        refine rm_stI 5 rfl (by show _ < 6; omega) ?_
        refine rm_gA ?_
        refine rm_gA ?_
        refine rm_ldI 6 rfl (by show _ < 7; omega) ?_
        refine rm_stI 5 rfl (by show _ < 6; omega) ?_
        generalize ht : ((stN (stS (((stK σ K).sa 1 5 (nI L)).sa 2 5 (nI n)) F) N).sa 1 5 ((stN (stS (((stK σ K).sa 1 5 (nI L)).sa 2 5 (nI n)) F) N).a 11 5)).sa 2 5 (((stN (stS (((stK σ K).sa 1 5 (nI L)).sa 2 5 (nI n)) F) N).sa 1 5 ((stN (stS (((stK σ K).sa 1 5 (nI L)).sa 2 5 (nI n)) F) N).a 11 5)).a 11 6) = τ
        have ti : ∀ k, τ.i k = σ.i k := fun k => by rw [← ht]; rfl
        have tl : ∀ k j, k ≠ 10 → τ.l k j = σ.l k j := fun k j hk => by rw [← ht]; show (if k = 10 then _ else _) = _; rw [if_neg hk]; rfl
        have ta : ∀ k j, k ≠ 11 → k ≠ 4 → τ.a k j = σ.a k j := by
          intro k j a b
          rw [← ht]
          simp only [sa_a]
          have e11 : ∀ y, (stN (stS (((stK σ K).sa 1 5 (nI L)).sa 2 5 (nI n)) F) N).a 11 y = K y := fun y => rfl
          have ek : (stN (stS (((stK σ K).sa 1 5 (nI L)).sa 2 5 (nI n)) F) N).a k j = if k = 2 ∧ j = 5 then nI n else if k = 1 ∧ j = 5 then nI L else σ.a k j := by
            show (if k = 4 then F j else if k = 2 ∧ j = 5 then nI n else if k = 1 ∧ j = 5 then nI L else if k = 11 then K j else σ.a k j) = _
            rw [if_neg b, if_neg a]
          rw [e11, e11, ek]
          by_cases c2 : k = 2 ∧ j = 5
          · rw [if_pos c2, c2.1, c2.2]
            simp [k6]
          · rw [if_neg c2]
            by_cases c1 : k = 1 ∧ j = 5
            · rw [if_pos c1, c1.1, c1.2]
              simp [k5]
            · rw [if_neg c1, if_neg c2]
              simp [c1]
        have t4 : ∀ y, τ.a 4 y = F y := fun y => by rw [← ht]; rfl
        have t11 : ∀ y, τ.a 11 y = K y := fun y => by rw [← ht]; rfl
        have w := loose_back (M := M) (τ := τ) (Q := Q) hx (fun F' g1 g2 => ?_) FU 0 (τ.a 4) (by omega) (by unfold FU; omega) (fun i hi => by omega) (fun y _ => rfl)
        · rw [← stS_self] at w
          exact w
        · rw [ex]
          refine z _ (fun k => ti k) (fun k j hk => ?_) (fun k j hk => tl k j hk)
          show (if k = 4 then F' j else τ.a k j) = _
          by_cases c4 : k = 4
          · rw [if_pos c4, c4]
            by_cases cy : 25 ≤ j ∧ j < 30
            · have := g1 (j - 25) (by omega)
              have ej : 25 + (j - 25) = j := by omega
              have kk := k4 (j - 25) (by omega)
              rw [ej] at this kk
              rw [this, t11, kk]
            · rw [g2 j cy, t4, f2 j (by omega)]
              rfl
          · rw [if_neg c4]
            exact ta k j hk c4
      refine rm_bd (rm_vc (solve_m (a := 0) h1 hc hN2 (fun N3 p3 => ?_) (fun N3 t t1 p3 g3 => ?_)))
      · rw [if_pos rfl]
        exact back 1 N3 (Or.inr rfl) (by rw [decide_eq_true p3]; rfl)
      · have pB := PRd_b h1 (dco_b hc)
        rw [if_neg (fun y => by
          rw [oL_0 (by rw [sg_abs t1]; omega)] at y
          rcases Int.mul_eq_zero.mp y with y | y
          · omega
          · exact p3 y)]
        exact back 0 N3 (Or.inl rfl) (by rw [decide_eq_false p3]; rfl)
