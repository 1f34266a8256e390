/-! The reference's bridges: findBridge, isLoose. -/
/-- the upper and the lower numbers with their sign -/
def rcT (n : Nat) (D : Nat → Nat → Int) (i j : Nat) : Int := if PRd n D < 0 then - CRd n D i j else CRd n D i j
def lwT (n : Nat) (D : Nat → Nat → Int) : Int := ((PRd n D).natAbs : Int)
theorem rcT_s {n : Nat} {D0 D : Nat → Nat → Int} {s : Int} (h : Alt n D0 D s) (h0 : PRd n D0 ≠ 0) (i j : Nat) : rcT n D i j = rcT n D0 i j := by
  unfold rcT
  rw [PRd_s h, CRd_s h]
  rcases h.1 with rfl | rfl
  · simp
  · by_cases c : PRd n D0 < 0
    · rw [if_neg (by omega), if_pos c]; omega
    · rw [if_pos (by omega), if_neg c]; omega
theorem lwT_s {n : Nat} {D0 D : Nat → Nat → Int} {s : Int} (h : Alt n D0 D s) : lwT n D = lwT n D0 := by
  unfold lwT
  rw [PRd_s h, sg_abs h.1]
def s89 (σ : MS) (T8 T9 : Nat → Int64) : MS := (σ.1, σ.2.1, fun k y => if k = 8 then T8 y else if k = 9 then T9 y else σ.2.2 k y)
theorem s89_8 (σ : MS) (T8 T9 : Nat → Int64) (N : Nat → Nat → Int64) (y : Nat) (v : Int64) : (stN (s89 σ T8 T9) N).sl 8 y v = stN (s89 σ (fun x => if x = y then v else T8 x) T9) N := by
  unfold stN s89 MS.sl
  refine Prod.ext rfl (Prod.ext rfl (funext fun k => funext fun x => ?_))
  by_cases e : k = 8
  · simp [e]
  · simp [e]
theorem s89_9 (σ : MS) (T8 T9 : Nat → Int64) (N : Nat → Nat → Int64) (y : Nat) (v : Int64) : (stN (s89 σ T8 T9) N).sl 9 y v = stN (s89 σ T8 (fun x => if x = y then v else T9 x)) N := by
  unfold stN s89 MS.sl
  refine Prod.ext rfl (Prod.ext rfl (funext fun k => funext fun x => ?_))
  by_cases e : k = 9
  · simp [e]
  · simp [e]
theorem s89_self (σ : MS) : σ = s89 σ (σ.l 8) (σ.l 9) := by
  unfold s89
  refine Prod.ext rfl (Prod.ext rfl (funext fun k => funext fun x => ?_))
  by_cases e : k = 8
  · simp [e, MS.l]
  · by_cases e2 : k = 9 <;> simp [e, e2, MS.l]
theorem zero_ml {M b n a : Nat} {hinge : Int64} {τ : MS} {k11 : Nat → Int32 → Int64 → Int32 → Int32 → Mo Int32} {Q : Int32 → MS → Prop} (z : ∀ N, RM M (bd (vc 11 (some M) (fun o => pX11_layTable o (nI b) hinge (nI a))) fun _ =>
    bd (vc 11 (some M) (fun o => pX11_solve o (nI n))) fun x57 =>
    if x57 = (0 : Int64) then rnZ (0 : Int32)
    else bd (gA (some M) 11 9) fun x72 => bd (pX11_size x57) fun x78 => bd (stL x72 (nI b) x78) fun _ => fX11_findBridge_85 k11 FU M (nI b) hinge (nI n) (nI a) x57 ((0 : Int32))) (stN τ N) Q) : ∀ (f k : Nat) (N : Nat → Nat → Int64), k ≤ 30 → 30 < k + f → RM M (fX11_findBridge_25 k11 f M (nI b) hinge (nI n) (nI a) (nI k)) (stN τ N) Q
  | 0, k, N, h1, h2 => by omega
  | f + 1, k, N, h1, h2 => by
    show RM M (bX11_findBridge_25 k11 (fX11_findBridge_25 k11 f) M (nI b) hinge (nI n) (nI a) (nI k)) _ Q
    unfold bX11_findBridge_25
    by_cases hk : 30 ≤ k
    · rw [if_pos (show (30 : Int32) ≤ nI k from nI_le (a := 30) hk (by omega))]
      exact z N
    · rw [if_neg (show ¬ (30 : Int32) ≤ nI k from nI_ge (b := 30) (by omega) (by omega))]
      refine rm_gA ?_
      refine rm_stN (k / 6) (k % 6) (by rw [show 6 * (k / 6) + k % 6 = k by omega]) (by omega) (by omega) ?_
      rw [nI_1]
      exact zero_ml z f (k + 1) _ (by omega) (by omega)
theorem store_ml {M b n a : Nat} {hinge d : Int64} {σ : MS} {T9 : Nat → Int64} {N : Nat → Nat → Int64} {V : Nat → Int64} {k11 : Nat → Int32 → Int64 → Int32 → Int32 → Mo Int32} {Q : Int32 → MS → Prop} (hb : b < 6) (hn : n ≤ 5) (ha : a ≤ 60) (hV : ∀ i, i < n → V i = if 0 ≤ d then N i 5 else 0 - N i 5) (T0 : Nat → Int64)
    (z : ∀ T8, (∀ k, k < n → T8 (5 * (61 * b + a) + k) = V k) → (∀ y, ¬ (5 * (61 * b + a) ≤ y ∧ y < 5 * (61 * b + a) + 5) → T8 y = T0 y) → RM M (k11 M (nI b) hinge (nI n) (nI (a + 1))) (stN (s89 σ T8 T9) N) Q) : ∀ (f k : Nat) (T8 : Nat → Int64), k ≤ n → n < k + f → (∀ i, i < k → T8 (5 * (61 * b + a) + i) = V i) → (∀ y, ¬ (5 * (61 * b + a) ≤ y ∧ y < 5 * (61 * b + a) + 5) → T8 y = T0 y) → RM M (fX11_findBridge_85 k11 f M (nI b) hinge (nI n) (nI a) d (nI k)) (stN (s89 σ T8 T9) N) Q
  | 0, k, T8, h1, h2, h3, h4 => by omega
  | f + 1, k, T8, h1, h2, h3, h4 => by
    show RM M (bX11_findBridge_85 k11 (fX11_findBridge_85 k11 f) M (nI b) hinge (nI n) (nI a) d (nI k)) _ Q
    unfold bX11_findBridge_85
    by_cases hk : n ≤ k
    · have e : k = n := by omega
      subst e
      rw [if_pos (nI_le hk (by omega)), nI_1]
      exact z T8 h3 h4
    · rw [if_neg (nI_ge (by omega) (by omega))]
      refine rm_gA ?_
      have key : ∀ v, v = V k → RM M (bX11_findBridge_144 k11 (fX11_findBridge_85 k11 f) M (nI b) hinge (nI n) (nI a) d (nI k) (some (M + adM 8)) ((((5 : Int32) * (((61 : Int32) * nI b) + nI a)) + nI k)) v) (stN (s89 σ T8 T9) N) Q := by
        intro v hv
        unfold bX11_findBridge_144
        refine rm_stL (5 * (61 * b + a) + k) (by rw [ix305, nI_add]) (by show _ < 1830; omega) ?_
        rw [s89_8, nI_1]
        refine store_ml hb hn ha hV T0 z f (k + 1) _ (by omega) (by omega) (fun i hi => ?_) (fun y hy => ?_)
        · by_cases e : i = k
          · subst e; simp [hv]
          · rw [if_neg (by omega)]; exact h3 i (by omega)
        · rw [if_neg (by omega)]; exact h4 y hy
      by_cases c : 0 ≤ d
      · rw [if_pos c]
        refine rm_gA ?_
        refine rm_ldN k 5 (ix6 k 5) (by omega) (by omega) ?_
        exact key _ (by rw [hV k (by omega), if_pos c])
      · rw [if_neg c]
        refine rm_gA ?_
        refine rm_ldN k 5 (ix6 k 5) (by omega) (by omega) ?_
        exact key _ (by rw [hV k (by omega), if_neg c])
theorem oL_le0 {z : Int} (h : z.natAbs < 2 ^ 63) : 0 ≤ oL z ↔ 0 ≤ z := by
  rw [Int64.le_iff_toInt_le, oL_toInt h]
  rfl
theorem sz_o {z : Int} (h : z.natAbs < 2 ^ 63) : (if 0 ≤ oL z then oL z else - oL z) = oL (z.natAbs : Int) := by
  by_cases c : 0 ≤ z
  · rw [if_pos ((oL_le0 h).mpr c)]
    congr 1
    omega
  · rw [if_neg (fun q => c ((oL_le0 h).mp q))]
    unfold oL
    rw [← Int64.ofInt_neg]
    congr 1
    omega
theorem CRd_b {n i j : Nat} {D : Nat → Nat → Int} (hn : 2 ≤ n ∧ n ≤ 5) (h : DB n D) (hi : i < n) : (CRd n D i j).natAbs ≤ 777600000 := by
  have p := PRd_b hn h
  have q : ∀ k, (if k < n then CRp n D k j else 0).natAbs ≤ 155520000 ∨ k = 0 := by
    intro k
    by_cases k0 : k = 0
    · exact Or.inr k0
    · left
      split
      · exact CRp_b hn h (by omega) j
      · decide
  unfold CRd
  split
  · have q1 := q 1
    have q2 := q 2
    have q3 := q 3
    have q4 := q 4
    omega
  · have := CRp_b hn h (i := i) (by omega) j
    omega
theorem findB_l {M b n L : Nat} {hinge : Int64} {σ : MS} {sn hn : Nat → Nat} {Q : Int32 → MS → Prop} (hb : b < 6) (hn2 : 2 ≤ n ∧ n ≤ 5) (hL : 2 ≤ L ∧ L ≤ 60) (hL1 : σ.a 1 b = nI L) (hn1 : σ.a 2 b = nI n) (hs : ∀ k, k < n → σ.a 4 (5 * b + k) = nI (sn k)) (hs6 : ∀ k, k < n → sn k ≤ 60) (hY : nL hinge < 2 ^ 63) (hY0 : bt (nL hinge) 0 = 0) (hYL : ctN L (nL hinge) + 2 = n) (hh : ∀ k, k < n - 2 → hn k = pls (nL hinge) L k) (hc : CoB n (hgR n L hn) (posI sn n))
    (z0 : ∀ N, PRd n (dco (hgR n L hn) (posI sn n)) = 0 → Q 0 (stN σ N))
    (z1 : ∀ T8 T9 N, PRd n (dco (hgR n L hn) (posI sn n)) ≠ 0 → (∀ a k, a ≤ L → k < n → T8 (5 * (61 * b + a) + k) = oL (rcT n (dco (hgR n L hn) (posI sn n)) k (n + a))) → (∀ y, ¬ (305 * b ≤ y ∧ y < 305 * b + 305) → T8 y = σ.l 8 y) → T9 b = oL (lwT n (dco (hgR n L hn) (posI sn n))) → (∀ y, y ≠ b → T9 y = σ.l 9 y) → Q 1 (stN (s89 σ T8 T9) N)) : ∀ (f a : Nat) (N : Nat → Nat → Int64) (T8 T9 : Nat → Int64), a ≤ L + 1 → L + 1 < a + f → (a = 0 → T8 = σ.l 8 ∧ T9 = σ.l 9) → (a ≠ 0 → PRd n (dco (hgR n L hn) (posI sn n)) ≠ 0 ∧ T9 b = oL (lwT n (dco (hgR n L hn) (posI sn n)))) → (∀ a' k, a' < a → k < n → T8 (5 * (61 * b + a') + k) = oL (rcT n (dco (hgR n L hn) (posI sn n)) k (n + a'))) → (∀ y, ¬ (305 * b ≤ y ∧ y < 305 * b + 305) → T8 y = σ.l 8 y) → (∀ y, y ≠ b → T9 y = σ.l 9 y) → RM M (fX11_findBridge_11 f M (nI b) hinge (nI n) (nI a)) (stN (s89 σ T8 T9) N) Q
  | 0, a, N, T8, T9, h1, h2, h3, h4, h5, h6, h7 => by omega
  | f + 1, a, N, T8, T9, h1, h2, h3, h4, h5, h6, h7 => by
    show RM M (bX11_findBridge_11 (fX11_findBridge_11 f) M (nI b) hinge (nI n) (nI a)) _ Q
    unfold bX11_findBridge_11
    refine rm_gA ?_
    refine rm_ldI b rfl (by show _ < 6; omega) ?_
    rw [show (stN (s89 σ T8 T9) N).a 1 b = nI L from hL1]
    by_cases ha : L < a
    · rw [if_pos (nI_lt ha (by omega))]
      obtain ⟨g1, g2⟩ := h4 (by omega)
      exact rm_rnZ (Or.inr rfl) (z1 T8 T9 N g1 (fun a' k ha' hk => h5 a' k (by omega) hk) h6 g2 h7)
    · rw [if_neg (nI_nlt (by omega) (by omega))]
      have dB := dco_b hc
      have pB := PRd_b hn2 dB
      refine zero_ml (fun N1 => ?_) FU 0 N (by omega) (by unfold FU; omega)
      refine rm_bd (rm_vc (layTable_m (σ := s89 σ T8 T9) hb hn2 hL (by omega) hL1 hn1 hs hs6 hY hY0 hYL hh (fun N2 hN2 => ?_)))
      refine rm_bd (rm_vc (solve_m (σ := s89 σ T8 T9) (a := a) hn2 hc hN2 (fun N3 p3 => ?_) (fun N3 t t1 p3 g3 => ?_)))
      · rw [if_pos rfl]
        by_cases a0 : a = 0
        · obtain ⟨e8, e9⟩ := h3 a0
          rw [e8, e9, ← s89_self]
          exact rm_rnZ (Or.inl rfl) (z0 N3 p3)
        · exact absurd p3 (h4 a0).1
      · have tz : (t * PRd n (dco (hgR n L hn) (posI sn n))).natAbs < 2 ^ 63 := by rw [sg_abs t1]; omega
        rw [if_neg (fun y => by
          rw [oL_0 tz] at y
          rcases Int.mul_eq_zero.mp y with y | y
          · omega
          · exact p3 y)]
        refine rm_gA ?_
        refine rm_eq (size_e _) ?_
        refine rm_stL b rfl (by show _ < 6; omega) ?_
        rw [s89_9, sz_o tz, sg_abs t1]
        have hV : ∀ i, i < n → oL (rcT n (dco (hgR n L hn) (posI sn n)) i (n + a)) = if 0 ≤ oL (t * PRd n (dco (hgR n L hn) (posI sn n))) then N3 i 5 else 0 - N3 i 5 := by
          intro i hi
          rw [g3 i hi, oL_neg]
          unfold rcT
          by_cases c : 0 ≤ t * PRd n (dco (hgR n L hn) (posI sn n))
          · rw [if_pos ((oL_le0 tz).mpr c)]
            congr 1
            rcases t1 with rfl | rfl
            · rw [if_neg (by omega)]; omega
            · rw [if_pos (by omega)]; omega
          · rw [if_neg (fun q => c ((oL_le0 tz).mp q))]
            congr 1
            rcases t1 with rfl | rfl
            · rw [if_pos (by omega)]; omega
            · rw [if_neg (by omega)]; omega
        refine store_ml (V := fun i => oL (rcT n (dco (hgR n L hn) (posI sn n)) i (n + a))) hb hn2.2 (by omega) hV T8 (fun T8' k1 k2 => ?_) FU 0 T8 (by omega) (by unfold FU; omega) (fun i hi => by omega) (fun y _ => rfl)
        refine findB_l hb hn2 hL hL1 hn1 hs hs6 hY hY0 hYL hh hc z0 z1 f (a + 1) N3 T8' _ (by omega) (by omega) (fun e => by omega) (fun _ => ⟨p3, by simp [lwT]⟩) (fun a' k ha' hk => ?_) (fun y hy => ?_) (fun y hy => ?_)
        · by_cases e : a' = a
          · subst e; exact k1 k hk
          · rw [k2 _ (by omega)]; exact h5 a' k (by omega) hk
        · rw [k2 _ (by omega)]; exact h6 y hy
        · rw [if_neg hy]; exact h7 y hy
theorem findB_m {M b n L : Nat} {hinge : Int64} {σ : MS} {sn hn : Nat → Nat} {Q : Int32 → MS → Prop} (hb : b < 6) (hn2 : 2 ≤ n ∧ n ≤ 5) (hL : 2 ≤ L ∧ L ≤ 60) (hL1 : σ.a 1 b = nI L) (hn1 : σ.a 2 b = nI n) (hs : ∀ k, k < n → σ.a 4 (5 * b + k) = nI (sn k)) (hs6 : ∀ k, k < n → sn k ≤ 60) (hY : nL hinge < 2 ^ 63) (hY0 : bt (nL hinge) 0 = 0) (hYL : ctN L (nL hinge) + 2 = n) (hh : ∀ k, k < n - 2 → hn k = pls (nL hinge) L k) (hc : CoB n (hgR n L hn) (posI sn n))
    (z0 : ∀ N, PRd n (dco (hgR n L hn) (posI sn n)) = 0 → Q 0 (stN σ N))
    (z1 : ∀ T8 T9 N, PRd n (dco (hgR n L hn) (posI sn n)) ≠ 0 → (∀ a k, a ≤ L → k < n → T8 (5 * (61 * b + a) + k) = oL (rcT n (dco (hgR n L hn) (posI sn n)) k (n + a))) → (∀ y, ¬ (305 * b ≤ y ∧ y < 305 * b + 305) → T8 y = σ.l 8 y) → T9 b = oL (lwT n (dco (hgR n L hn) (posI sn n))) → (∀ y, y ≠ b → T9 y = σ.l 9 y) → Q 1 (stN (s89 σ T8 T9) N)) : RM M (pX11_findBridge M (nI b) hinge) σ Q := by
  unfold pX11_findBridge
  refine rm_gA ?_
  refine rm_ldI b rfl (by show _ < 6; omega) ?_
  rw [hn1]
  have h := findB_l (M := M) hb hn2 hL hL1 hn1 hs hs6 hY hY0 hYL hh hc z0 z1 FU 0 (fun i j => σ.l 10 (6 * i + j)) (σ.l 8) (σ.l 9) (by omega) (by unfold FU; omega) (fun _ => ⟨rfl, rfl⟩) (fun q => absurd rfl q) (fun a' k ha' => by omega) (fun y _ => rfl) (fun y _ => rfl)
  rw [← s89_self, ← stN_self] at h
  exact h
